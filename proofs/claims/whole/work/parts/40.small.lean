/-! the law's own small methods -/
/-- what a small method answers: 0 and the answer kept, or the place of its exception -/
def wb {ρ : Type} (o : Option (Nat × ρ × Mem)) (hs : Nat → Nat) (k : ρ → Mem → Mem) : Option (Int32 × Mem) := match o with
  | none => none
  | some q => if q.1 = 0 then some (0, k q.2.1 q.2.2) else if hs q.1 = 0 then none else some (nI (hs q.1), q.2.2)
theorem wb_e {ρ : Type} {o : Option (Nat × ρ × Mem)} {hs : Nat → Nat} {k : ρ → Mem → Mem} {r : Int32} {M' : Mem} (h : wb o hs k = some (r, M')) : (∃ j x, j ≠ 0 ∧ o = some (j, x, M') ∧ hs j ≠ 0 ∧ r = nI (hs j)) ∨ ∃ x N, o = some (0, x, N) ∧ r = 0 ∧ M' = k x N := by
  cases o with
  | none => cases h
  | some q =>
    obtain ⟨c, x, N⟩ := q
    by_cases hc : c = 0
    · subst hc
      simp only [wb, if_pos, Option.some.injEq, Prod.mk.injEq] at h
      exact Or.inr ⟨x, N, rfl, h.1.symm, h.2.symm⟩
    · by_cases h2 : hs c = 0
      · simp [wb, hc, h2] at h
      · simp only [wb, if_neg hc, if_neg h2, Option.some.injEq, Prod.mk.injEq] at h
        obtain ⟨h3, rfl⟩ := h
        exact Or.inl ⟨c, x, hc, rfl, h2, h3.symm⟩
def Kw (G : Gt) (l : Launch) (y : MethodName) (cc : ByteArray) (maxL : Nat) (hh : List (Nat × Nat × Nat × Nat)) (rm : Room) (As : List Value) (M : Mem) (r : Int32) (M' : Mem) : Prop :=
  Met l y [.codeWith y cc maxL (some .int) hh] rm (va_Pc As (Pre G M)) (QV G (some (.int r)) M') 1 6 (gA G)
theorem startW {G : Gt} {l : Launch} {y : MethodName} {cc : ByteArray} {maxL : Nat} {hh : List (Nat × Nat × Nat × Nat)} {rm : Room} {As : List Value} {M M' : Mem} {r : Int32} (hy : plainName y.cls = true) (hlen : (lg_sl As).length ≤ maxL)
    (body : ∀ (p : Program) (e : Env) (s : State) (m : MethodId) (args : Array Value) (below : List Frame) (meth : Method) (c : Code) (ls : Array Slot), p.tables.exec = Jvm.exec → c.code = cc → meth.sig.returnType = some .int → s.vm.findClass y.cls = some m.cls → c.maxLocals = maxL → meth.locks = false → KK s → (gS G).vm.Alike s.vm → Mh G M s.heap → lv_has ls maxL (lv_args 0 As) → c.exceptionTable.toList = tableOf hh →
      W p l e rm s m args below meth c s.heap [] 0 0 (MQ below (QV G (some (.int r)) M') args s 1 6 (gA G)) (F0 m 0 ls [])) : Kw G l y cc maxL hh rm As M r M' := by
  refine va_MetW (cc := cc) (maxL := maxL) (ret := some .int) (hh := hh) hy rfl ?_
  intro p e s m args below meth c s₁ B hml hv
  obtain ⟨rfl, hts, hV, hM⟩ := hv
  have hl := lv_entry As (n := maxL) hlen
  have ht := vx_table (x := y) B (atoms_spec (ws := [.codeWith y cc maxL (some .int) hh]) B.pre _ List.mem_cons_self)
  rw [lg_entry_eq]
  exact body p e s m _ below meth c _ B.exec B.bytes B.returns (findClass_of_methodNamed B.named) hml B.notSynchronized hts hV hM hl ht
def pkgW (y : MethodName) (bytes : ByteArray) (maxL : Nat) (hh : List (Nat × Nat × Nat × Nat)) (n : Nat) : Prop := (Cond.codeWith y bytes maxL (some .int) hh ∈ lw_tbl ∧ Cond.initialized y.cls ∈ lw_tbl) ∧ Cond.static y ∈ lw_tbl ∧ (y.cls ≠ "java/lang/invoke/MethodHandle" ∧ y.cls ≠ "java/lang/invoke/VarHandle") ∧ (parseMethodDescriptor y.desc).map (fun d => d.parameters.length) = some n
section WRAP
variable {p : Program} {l : Launch} {e : Env} {R : Room} {s : State} {m : MethodId} {args : Array Value} {below : List Frame} {meth : Method} {c : Code} {H : Heap} {locs : List Loc} {cells slots : Nat} {Q : State → Prop} {cc : ByteArray} {pc nL : Nat} {ls : Array Slot} {rest st0 : List Value} {G : Gt} {M M1 M' : Mem} {y : MethodName} {bytes : ByteArray} {maxL n idx a : Nat} {ret : Option FieldType} {rm : Room} {As : List Value} {own host : String} {j : Nat} {H0 : Heap}
theorem c_Vx {b ci : Nat} {fs : List Value} {q : vw_C} (hx : p.tables.exec = Jvm.exec) (hb : c.code = cc) (hml : c.maxLocals = nL) (hown : s.vm.findClass own = some m.cls) (hts : KK s) (hV : (gS G).vm.Alike s.vm) (hK : va_K (gD G) vwCl (gT G) s) (hM : Mh G M H) (hS : va_S (gA G) s.heap H locs) (hk : Kt G l y bytes maxL ret rm (.ref b :: As) M j M1) (w : pkgV y bytes maxL ret n) (hl : (Cond.methodLink own idx y).before args s = true)
    (hc : cel G M b = some (.inr (ci, fs))) (hci : vwCl[ci]? = some q) (hq : q.1 = y.cls) (hrm : (rm.cells = 1 ∧ rm.slots = 6) ∧ rm.frames + 1 ≤ R.frames ∧ 8 + (maxL + 11) + rm.locals ≤ R.locals) (hcs : 0 + 1 ≤ R.cells ∧ 0 + 6 ≤ R.slots) (hn : As.length = n) (hsz : ls.size = nL) (hst : st0 = As.reverse ++ .ref b :: rest) (hW : (rest.map fun v => v.category).sum ≤ 8) (hdg : decode cc pc = .ok (.invokevirtual idx, 3))
    (kx : ∀ (ce : Cell) (q9 : Addr) (H1 : Heap) (locs1 : List Loc), Mh G M1 H1 → va_S (gA G) s.heap H1 locs1 → H1[q9]? = some ce → ce.vm = .none → s.vm.findClass (exN j) = some ce.cls → vx_W p l e R s m args below meth c H1 locs1 1 6 Q (F0 m pc ls rest) q9) :
    W p l e R s m args below meth c H locs 0 0 Q (F0 m pc ls st0) := by
  obtain ⟨⟨w1, w2⟩, ⟨w3, w4⟩, w5, w6⟩ := w
  have hcw : CallW R s args own y.cls idx y bytes maxL ret [.code y bytes maxL ret] rm 1 6 n := by
    refine ⟨⟨hrm.1.1, hrm.1.2, hrm.2.1, hrm.2.2, code_moves (fun _ _ _ _ _ => trivial) hts w1 rfl, List.mem_singleton.mpr rfl, hts.1 _ w1 rfl _, hts.1 _ w2 rfl _, w5, fun sig h => ?_, hl⟩, hts.1 _ w3 rfl _, hts.1 _ w4 rfl _⟩
    rw [h] at w6
    exact (Option.some.inj w6).symm
  have hr := vx_runV (e := e) (below := below) (meth := meth) (cells := 0) (slots := 0) (locs := locs) (g := F0 m pc ls st0) (rest := rest) (Ts := []) ⟨hx, hb, hml, hown, fun _ h => absurd h List.not_mem_nil⟩ hk hcw ⟨pre_blind, by rw [← hq]; exact va_recv hK (hM.one hc) hci (q0 := 0) rfl, fun U hU hW1 => ⟨rfl, hts.moves hW1, ⟨hV.trans hW1.alike, by rw [hU]; exact hM⟩⟩⟩ rfl hn hsz hst (lv_room hW) hdg hcs
  intro T hT X
  rcases hr T hT X with ⟨v, st₀, t, T', L, h0, X', hL, e1, e2, hF, st⟩ | ⟨q9, st₀, t, T', L, E, ce, h0, X', hL, e1, e2, hX, hce, hcv, hcl, st⟩
  · exact hF.elim
  · obtain ⟨hE, hM1, hF⟩ := hX
    obtain ⟨k1, k2, k3⟩ := vx_keep h0 e1 hS (fun _ _ h => h) (fun _ h => h) hL hF
    obtain ⟨t2, a1, b1⟩ := kx ce q9 T'.heap (locs ++ L) (by rw [e1]; exact hM1) k3 (by rw [e1]; exact hce) hcv (by rw [← hE]; exact hcl) T' rfl X'
    exact ⟨t2, st.trans a1, b1⟩
theorem s_last (hx : p.tables.exec = Jvm.exec) (hb : c.code = cc) (hK : va_K (gD G) vwCl (gT G) s) (hM : Mh G M H) (hS : va_S (gA G) H0 H locs) (ha : gK G a = 9001) (hB : gB G ≤ a) {i : Int32} {v : Int64} (hi : ix i 1) (hdg : decode cc pc = .ok (.lastore, 1))
    (kk : ∀ (H1 : Heap) (locs1 : List Loc), Mh G (sJ M a v) H1 → va_S (gA G) H0 H1 locs1 → W p l e R s m args below meth c H1 locs1 cells slots Q (F0 m (pc + 1) ls rest)) : W p l e R s m args below meth c H locs cells slots Q (F0 m pc ls (.long v :: .int i :: .ref a :: rest)) := by
  have hP := hM.one (cel_la (M := M) ha)
  refine W.last hx hb (hP 0 _ rfl) ((hK.2 5 _ rfl).1 1 (fun _ => .long (mJ M a))) (fun q => by cases q) (by show ¬ (i < 0 ∨ (arrV _ _ _).slots.size ≤ _); rw [arrV_size]; exact hi) rfl rfl hdg fun H1 e z oq => ?_
  refine kk H1 _ (hM.put (cel_la ha) ?_ z oq (fun b hb2 => cel_sJ b hb2) hB hM.2.2.sJ) (hS.put z oq hB)
  show H1[a]? = some (vp_cell _ _)
  have hi0 : i.toNatClampNeg = 0 := by have := ix_lt hi; omega
  rw [e, vp_cell_l, vp_cell_l, arrV_store, hi0]
  refine congrArg some ?_
  unfold arrV
  congr 1
  apply Array.ext
  · simp
  · intro q h1 h2
    have hq : q = 0 := by simp at h1; omega
    subst hq
    simp [updV, mJ_sJ]
theorem s_dast (hx : p.tables.exec = Jvm.exec) (hb : c.code = cc) (hK : va_K (gD G) vwCl (gT G) s) (hM : Mh G M H) (hS : va_S (gA G) H0 H locs) (ha : gK G a = 10001) (hB : gB G ≤ a) {i : Int32} {v : UInt64} (hi : ix i 1) (hdg : decode cc pc = .ok (.dastore, 1))
    (kk : ∀ (H1 : Heap) (locs1 : List Loc), Mh G (sD M a v) H1 → va_S (gA G) H0 H1 locs1 → W p l e R s m args below meth c H1 locs1 cells slots Q (F0 m (pc + 1) ls rest)) : W p l e R s m args below meth c H locs cells slots Q (F0 m pc ls (.double v :: .int i :: .ref a :: rest)) := by
  have hP := hM.one (cel_da (M := M) ha)
  refine W.dast hx hb (hP 0 _ rfl) ((hK.2 6 _ rfl).1 1 (fun _ => .double (mD M a))) (fun q => by cases q) (by show ¬ (i < 0 ∨ (arrV _ _ _).slots.size ≤ _); rw [arrV_size]; exact hi) rfl rfl hdg fun H1 e z oq => ?_
  refine kk H1 _ (hM.put (cel_da ha) ?_ z oq (fun b hb2 => cel_sD b hb2) hB hM.2.2.sD) (hS.put z oq hB)
  show H1[a]? = some (vp_cell _ _)
  have hi0 : i.toNatClampNeg = 0 := by have := ix_lt hi; omega
  rw [e, vp_cell_d, vp_cell_d, arrV_store, hi0]
  refine congrArg some ?_
  unfold arrV
  congr 1
  apply Array.ext
  · simp
  · intro q h1 h2
    have hq : q = 0 := by simp at h1; omega
    subst hq
    simp [updV, mD_sD]
theorem e_w {v : Int32} {H : Heap} {locs : List Loc} (hx : p.tables.exec = Jvm.exec) (hb : c.code = cc) (hr : meth.sig.returnType = some .int) (hlocks : meth.locks = false) (hM : Mh G M' H) (hS : va_S (gA G) s.heap H locs) (hc : cells ≤ 1) (hs : slots ≤ 6) (hdg : decode cc pc = .ok (.ireturn, 1)) : W p l e R s m args below meth c H locs cells slots (MQ below (QV G (some (.int v)) M') args s 1 6 (gA G)) (F0 m pc ls [.int v]) :=
  W.widen hc hs (W.iret hx hb hr (fun t ht _ => ⟨rfl, by rw [ht]; exact hM, hS.F ht⟩) hS.2.2 hdg hlocks)
end WRAP
/-- the exceptions are apart -/
def gNc (G : Gt) : Prop := va_Nc "java/lang/IllegalArgumentException" "java/lang/IndexOutOfBoundsException" (gS G) ∧ va_Nc "java/lang/IllegalStateException" "java/lang/IndexOutOfBoundsException" (gS G) ∧ va_Nc "java/lang/IllegalStateException" "java/lang/IllegalArgumentException" (gS G)
def hs_L_say : Nat → Nat := fun j => if j = 1 then 1 else if j = 2 then 2 else if j = 3 then 3 else 0
def f_L_say (a0 : Nat) (p1 : Int32) (p2 : Int32) (a3 : Nat) (M : Mem) : Option (Int32 × Mem) := wb (f_X8_say a0 p1 p2 M) hs_L_say (fun r N => sJ N a3 r.toInt64)
set_option maxHeartbeats 4000000 in
set_option maxRecDepth 100000 in
theorem k_L_say (G : Gt) (hG : gOK G) (hN0 : gNc G) (l : Launch) (hfl : l.stackTraces = false) (a0 : Nat) (h0 : gK G a0 = 9) (p1 : Int32) (p2 : Int32) (a3 : Nat) (h3 : gK G a3 = 9001) (M : Mem) {r : Int32} {M' : Mem} (hf : f_L_say a0 p1 p2 a3 M = some (r, M')) : Kw G l yL_say cL_say 5 [(0, 10, 13, 13), (0, 10, 17, 15), (0, 10, 21, 17)] ({ frames := 8, cells := 1, slots := 6, locals := 155 } : Room) [.ref a0, .int p1, .int p2, .ref a3] M r M' := by
  refine startW (by decide) (Nat.le_of_ble_eq_true rfl) ?_
  intro p e s m args below meth c ls hx hb hr hown hml hlocks hts hV hM hl ht
  have hown : s.vm.findClass "FoldedVoicesLaw" = some m.cls := hown
  have hK := hG.1.moved hV
  have hS : va_S (gA G) s.heap s.heap [] := va_S.rf
  have hl : lv_has ls 5 [(0, .ref a0), (1, .int p1), (2, .int p2), (3, .ref a3)] := hl
  have hN : gNc G := hN0
  refine lv_aload_n hx hb dL_say_0 rfl (lv_at hl 3 rfl) ?_
  refine lv_iconst (v := 0) hx hb dL_say_1 (by decide) ?_
  refine lv_aload_n hx hb dL_say_2 rfl (lv_at hl 0 rfl) ?_
  refine lv_iload_n hx hb dL_say_3 rfl (lv_at hl 1 rfl) ?_
  refine lv_iload_n hx hb dL_say_4 rfl (lv_at hl 2 rfl) ?_
  rcases wb_e hf with ⟨j, x, hj, e1, hj2, hr1⟩ | ⟨x, N, e1, hr1, hM1⟩
  · refine c_Vx hx hb hml hown hts hV hK hM hS (As := [.int p1, .int p2]) (rest := [.int 0, .ref a3]) (x_X8_say G hG l hfl a0 h0 p1 p2 M hj e1) w_X8_say (tk_568 hts) (c_9 h0) rfl rfl ⟨⟨rfl, rfl⟩, Nat.le_of_ble_eq_true rfl, Nat.le_of_ble_eq_true rfl⟩ ⟨Nat.le_of_ble_eq_true rfl, Nat.le_of_ble_eq_true rfl⟩ rfl hl.1 rfl (Nat.le_of_ble_eq_true rfl) dL_say_5 (fun ce q9 H locs hM hS hq9 hv9 hcl9 => ?_)
    by_cases g1 : j = 1
    · subst g1
      refine vx_catch hown [] ⟨0, 10, 13, 13⟩ [⟨0, 10, 17, 15⟩, ⟨0, 10, 21, 17⟩] (by rw [ht]; rfl) (fun z hz => nomatch hz) (by decide) (by decide) (tk_565 hts) (tk_578 hts) hq9 hv9 hcl9 ?_
      refine lv_astore (lv' := [(4, .ref q9), (0, .ref a0), (1, .int p1), (2, .int p2), (3, .ref a3)]) hx hb dL_say_13 hl (by decide) rfl (fun ls hl => ?_)
      refine lv_iconst (v := 1) hx hb dL_say_15 (by decide) ?_
      have hr2 : r = 1 := hr1
      subst hr2
      exact e_w hx hb hr hlocks hM hS (Nat.le_refl _) (Nat.le_refl _) dL_say_16
    by_cases g2 : j = 2
    · subst g2
      refine vx_catch hown [⟨0, 10, 13, 13⟩] ⟨0, 10, 17, 15⟩ [⟨0, 10, 21, 17⟩] (by rw [ht]; rfl) (List.forall_mem_cons.mpr ⟨Or.inr ⟨by decide, _, tk_565 hts, hN.1.moved hV⟩, fun z hz => nomatch hz⟩) (by decide) (by decide) (tk_566 hts) (tk_649 hts) hq9 hv9 hcl9 ?_
      refine lv_astore (lv' := [(4, .ref q9), (0, .ref a0), (1, .int p1), (2, .int p2), (3, .ref a3)]) hx hb dL_say_17 hl (by decide) rfl (fun ls hl => ?_)
      refine lv_iconst (v := 2) hx hb dL_say_19 (by decide) ?_
      have hr2 : r = 2 := hr1
      subst hr2
      exact e_w hx hb hr hlocks hM hS (Nat.le_refl _) (Nat.le_refl _) dL_say_20
    by_cases g3 : j = 3
    · subst g3
      refine vx_catch hown [⟨0, 10, 13, 13⟩, ⟨0, 10, 17, 15⟩] ⟨0, 10, 21, 17⟩ [] (by rw [ht]; rfl) (List.forall_mem_cons.mpr ⟨Or.inr ⟨by decide, _, tk_565 hts, hN.2.1.moved hV⟩, List.forall_mem_cons.mpr ⟨Or.inr ⟨by decide, _, tk_566 hts, hN.2.2.moved hV⟩, fun z hz => nomatch hz⟩⟩) (by decide) (by decide) (tk_567 hts) (tk_678 hts) hq9 hv9 hcl9 ?_
      refine lv_astore (lv' := [(4, .ref q9), (0, .ref a0), (1, .int p1), (2, .int p2), (3, .ref a3)]) hx hb dL_say_21 hl (by decide) rfl (fun ls hl => ?_)
      refine lv_iconst (v := 3) hx hb dL_say_23 (by decide) ?_
      have hr2 : r = 3 := hr1
      subst hr2
      exact e_w hx hb hr hlocks hM hS (Nat.le_refl _) (Nat.le_refl _) dL_say_24
    exact absurd (show hs_L_say j = 0 by simp [hs_L_say, g1, g2, g3]) hj2
  · subst hr1
    refine c_Vi hx hb hml hown hts hV hK hM hS (As := [.int p1, .int p2]) (rest := [.int 0, .ref a3]) (k_X8_say G hG l a0 h0 p1 p2 M e1) w_X8_say (tk_568 hts) (c_9 h0) rfl rfl ⟨⟨rfl, rfl⟩, Nat.le_of_ble_eq_true rfl, Nat.le_of_ble_eq_true rfl⟩ ⟨Nat.zero_le _, Nat.zero_le _⟩ rfl hl.1 rfl (Nat.le_of_ble_eq_true rfl) dL_say_5 (fun H locs hM hS => ?_)
    refine lv_i2l hx hb dL_say_8 rfl ?_
    refine s_last hx hb hK hM hS h3 (ky_b hG h3) (by decide) dL_say_9 (fun H locs hM hS => ?_)
    refine lv_goto (tgt := 25) hx hb dL_say_10 (by decide) ?_
    refine lv_iconst (v := 0) hx hb dL_say_25 (by decide) ?_
    subst hM1
    exact e_w hx hb hr hlocks hM hS (Nat.zero_le _) (Nat.zero_le _) dL_say_26
def hs_L_flush : Nat → Nat := fun j => if j = 1 then 1 else if j = 3 then 2 else 0
def f_L_flush (a0 : Nat) (p1 : Int32) (a2 : Nat) (M : Mem) : Option (Int32 × Mem) := wb (f_X8_flush a0 p1 M) hs_L_flush (fun r N => sJ N a2 r.toInt64)
set_option maxHeartbeats 4000000 in
set_option maxRecDepth 100000 in
theorem k_L_flush (G : Gt) (hG : gOK G) (hN0 : gNc G) (l : Launch) (hfl : l.stackTraces = false) (a0 : Nat) (h0 : gK G a0 = 9) (p1 : Int32) (a2 : Nat) (h2 : gK G a2 = 9001) (M : Mem) {r : Int32} {M' : Mem} (hf : f_L_flush a0 p1 a2 M = some (r, M')) : Kw G l yL_flush cL_flush 4 [(0, 9, 12, 13), (0, 9, 15, 17)] ({ frames := 8, cells := 1, slots := 6, locals := 155 } : Room) [.ref a0, .int p1, .ref a2] M r M' := by
  refine startW (by decide) (Nat.le_of_ble_eq_true rfl) ?_
  intro p e s m args below meth c ls hx hb hr hown hml hlocks hts hV hM hl ht
  have hown : s.vm.findClass "FoldedVoicesLaw" = some m.cls := hown
  have hK := hG.1.moved hV
  have hS : va_S (gA G) s.heap s.heap [] := va_S.rf
  have hl : lv_has ls 4 [(0, .ref a0), (1, .int p1), (2, .ref a2)] := hl
  have hN : gNc G := hN0
  refine lv_aload_n hx hb dL_flush_0 rfl (lv_at hl 2 rfl) ?_
  refine lv_iconst (v := 0) hx hb dL_flush_1 (by decide) ?_
  refine lv_aload_n hx hb dL_flush_2 rfl (lv_at hl 0 rfl) ?_
  refine lv_iload_n hx hb dL_flush_3 rfl (lv_at hl 1 rfl) ?_
  rcases wb_e hf with ⟨j, x, hj, e1, hj2, hr1⟩ | ⟨x, N, e1, hr1, hM1⟩
  · refine c_Vx hx hb hml hown hts hV hK hM hS (As := [.int p1]) (rest := [.int 0, .ref a2]) (x_X8_flush G hG l hfl a0 h0 p1 M hj e1) w_X8_flush (tk_739 hts) (c_9 h0) rfl rfl ⟨⟨rfl, rfl⟩, Nat.le_of_ble_eq_true rfl, Nat.le_of_ble_eq_true rfl⟩ ⟨Nat.le_of_ble_eq_true rfl, Nat.le_of_ble_eq_true rfl⟩ rfl hl.1 rfl (Nat.le_of_ble_eq_true rfl) dL_flush_4 (fun ce q9 H locs hM hS hq9 hv9 hcl9 => ?_)
    by_cases g1 : j = 1
    · subst g1
      refine vx_catch hown [] ⟨0, 9, 12, 13⟩ [⟨0, 9, 15, 17⟩] (by rw [ht]; rfl) (fun z hz => nomatch hz) (by decide) (by decide) (tk_565 hts) (tk_578 hts) hq9 hv9 hcl9 ?_
      refine lv_astore_n (lv' := [(3, .ref q9), (0, .ref a0), (1, .int p1), (2, .ref a2)]) hx hb dL_flush_12 rfl hl (by decide) rfl (fun ls hl => ?_)
      refine lv_iconst (v := 1) hx hb dL_flush_13 (by decide) ?_
      have hr2 : r = 1 := hr1
      subst hr2
      exact e_w hx hb hr hlocks hM hS (Nat.le_refl _) (Nat.le_refl _) dL_flush_14
    by_cases g3 : j = 3
    · subst g3
      refine vx_catch hown [⟨0, 9, 12, 13⟩] ⟨0, 9, 15, 17⟩ [] (by rw [ht]; rfl) (List.forall_mem_cons.mpr ⟨Or.inr ⟨by decide, _, tk_565 hts, hN.2.1.moved hV⟩, fun z hz => nomatch hz⟩) (by decide) (by decide) (tk_567 hts) (tk_678 hts) hq9 hv9 hcl9 ?_
      refine lv_astore_n (lv' := [(3, .ref q9), (0, .ref a0), (1, .int p1), (2, .ref a2)]) hx hb dL_flush_15 rfl hl (by decide) rfl (fun ls hl => ?_)
      refine lv_iconst (v := 2) hx hb dL_flush_16 (by decide) ?_
      have hr2 : r = 2 := hr1
      subst hr2
      exact e_w hx hb hr hlocks hM hS (Nat.le_refl _) (Nat.le_refl _) dL_flush_17
    exact absurd (show hs_L_flush j = 0 by simp [hs_L_flush, g1, g3]) hj2
  · subst hr1
    refine c_Vi hx hb hml hown hts hV hK hM hS (As := [.int p1]) (rest := [.int 0, .ref a2]) (k_X8_flush G hG l a0 h0 p1 M e1) w_X8_flush (tk_739 hts) (c_9 h0) rfl rfl ⟨⟨rfl, rfl⟩, Nat.le_of_ble_eq_true rfl, Nat.le_of_ble_eq_true rfl⟩ ⟨Nat.zero_le _, Nat.zero_le _⟩ rfl hl.1 rfl (Nat.le_of_ble_eq_true rfl) dL_flush_4 (fun H locs hM hS => ?_)
    refine lv_i2l hx hb dL_flush_7 rfl ?_
    refine s_last hx hb hK hM hS h2 (ky_b hG h2) (by decide) dL_flush_8 (fun H locs hM hS => ?_)
    refine lv_goto (tgt := 18) hx hb dL_flush_9 (by decide) ?_
    refine lv_iconst (v := 0) hx hb dL_flush_18 (by decide) ?_
    subst hM1
    exact e_w hx hb hr hlocks hM hS (Nat.zero_le _) (Nat.zero_le _) dL_flush_19
def hs_L_deliver : Nat → Nat := fun j => if j = 1 then 1 else if j = 3 then 2 else 0
def f_L_deliver (a0 : Nat) (p1 : Int32) (a2 : Nat) (M : Mem) : Option (Int32 × Mem) := wb (f_X8_deliver a0 p1 M) hs_L_deliver (fun r N => sJ N a2 r.toInt64)
set_option maxHeartbeats 4000000 in
set_option maxRecDepth 100000 in
theorem k_L_deliver (G : Gt) (hG : gOK G) (hN0 : gNc G) (l : Launch) (hfl : l.stackTraces = false) (a0 : Nat) (h0 : gK G a0 = 9) (p1 : Int32) (a2 : Nat) (h2 : gK G a2 = 9001) (M : Mem) {r : Int32} {M' : Mem} (hf : f_L_deliver a0 p1 a2 M = some (r, M')) : Kw G l yL_deliver cL_deliver 4 [(0, 9, 12, 13), (0, 9, 15, 17)] ({ frames := 8, cells := 1, slots := 6, locals := 154 } : Room) [.ref a0, .int p1, .ref a2] M r M' := by
  refine startW (by decide) (Nat.le_of_ble_eq_true rfl) ?_
  intro p e s m args below meth c ls hx hb hr hown hml hlocks hts hV hM hl ht
  have hown : s.vm.findClass "FoldedVoicesLaw" = some m.cls := hown
  have hK := hG.1.moved hV
  have hS : va_S (gA G) s.heap s.heap [] := va_S.rf
  have hl : lv_has ls 4 [(0, .ref a0), (1, .int p1), (2, .ref a2)] := hl
  have hN : gNc G := hN0
  refine lv_aload_n hx hb dL_deliver_0 rfl (lv_at hl 2 rfl) ?_
  refine lv_iconst (v := 0) hx hb dL_deliver_1 (by decide) ?_
  refine lv_aload_n hx hb dL_deliver_2 rfl (lv_at hl 0 rfl) ?_
  refine lv_iload_n hx hb dL_deliver_3 rfl (lv_at hl 1 rfl) ?_
  rcases wb_e hf with ⟨j, x, hj, e1, hj2, hr1⟩ | ⟨x, N, e1, hr1, hM1⟩
  · refine c_Vx hx hb hml hown hts hV hK hM hS (As := [.int p1]) (rest := [.int 0, .ref a2]) (x_X8_deliver G hG l hfl a0 h0 p1 M hj e1) w_X8_deliver (tk_749 hts) (c_9 h0) rfl rfl ⟨⟨rfl, rfl⟩, Nat.le_of_ble_eq_true rfl, Nat.le_of_ble_eq_true rfl⟩ ⟨Nat.le_of_ble_eq_true rfl, Nat.le_of_ble_eq_true rfl⟩ rfl hl.1 rfl (Nat.le_of_ble_eq_true rfl) dL_deliver_4 (fun ce q9 H locs hM hS hq9 hv9 hcl9 => ?_)
    by_cases g1 : j = 1
    · subst g1
      refine vx_catch hown [] ⟨0, 9, 12, 13⟩ [⟨0, 9, 15, 17⟩] (by rw [ht]; rfl) (fun z hz => nomatch hz) (by decide) (by decide) (tk_565 hts) (tk_578 hts) hq9 hv9 hcl9 ?_
      refine lv_astore_n (lv' := [(3, .ref q9), (0, .ref a0), (1, .int p1), (2, .ref a2)]) hx hb dL_deliver_12 rfl hl (by decide) rfl (fun ls hl => ?_)
      refine lv_iconst (v := 1) hx hb dL_deliver_13 (by decide) ?_
      have hr2 : r = 1 := hr1
      subst hr2
      exact e_w hx hb hr hlocks hM hS (Nat.le_refl _) (Nat.le_refl _) dL_deliver_14
    by_cases g3 : j = 3
    · subst g3
      refine vx_catch hown [⟨0, 9, 12, 13⟩] ⟨0, 9, 15, 17⟩ [] (by rw [ht]; rfl) (List.forall_mem_cons.mpr ⟨Or.inr ⟨by decide, _, tk_565 hts, hN.2.1.moved hV⟩, fun z hz => nomatch hz⟩) (by decide) (by decide) (tk_567 hts) (tk_678 hts) hq9 hv9 hcl9 ?_
      refine lv_astore_n (lv' := [(3, .ref q9), (0, .ref a0), (1, .int p1), (2, .ref a2)]) hx hb dL_deliver_15 rfl hl (by decide) rfl (fun ls hl => ?_)
      refine lv_iconst (v := 2) hx hb dL_deliver_16 (by decide) ?_
      have hr2 : r = 2 := hr1
      subst hr2
      exact e_w hx hb hr hlocks hM hS (Nat.le_refl _) (Nat.le_refl _) dL_deliver_17
    exact absurd (show hs_L_deliver j = 0 by simp [hs_L_deliver, g1, g3]) hj2
  · subst hr1
    refine c_Vi hx hb hml hown hts hV hK hM hS (As := [.int p1]) (rest := [.int 0, .ref a2]) (k_X8_deliver G hG l a0 h0 p1 M e1) w_X8_deliver (tk_749 hts) (c_9 h0) rfl rfl ⟨⟨rfl, rfl⟩, Nat.le_of_ble_eq_true rfl, Nat.le_of_ble_eq_true rfl⟩ ⟨Nat.zero_le _, Nat.zero_le _⟩ rfl hl.1 rfl (Nat.le_of_ble_eq_true rfl) dL_deliver_4 (fun H locs hM hS => ?_)
    refine lv_i2l hx hb dL_deliver_7 rfl ?_
    refine s_last hx hb hK hM hS h2 (ky_b hG h2) (by decide) dL_deliver_8 (fun H locs hM hS => ?_)
    refine lv_goto (tgt := 18) hx hb dL_deliver_9 (by decide) ?_
    refine lv_iconst (v := 0) hx hb dL_deliver_18 (by decide) ?_
    subst hM1
    exact e_w hx hb hr hlocks hM hS (Nat.zero_le _) (Nat.zero_le _) dL_deliver_19
def hs_L_lose : Nat → Nat := fun j => if j = 1 then 1 else if j = 3 then 2 else 0
def f_L_lose (a0 : Nat) (p1 : Int32) (a2 : Nat) (M : Mem) : Option (Int32 × Mem) := wb (f_X8_lose a0 p1 M) hs_L_lose (fun r N => sJ N a2 r.toInt64)
set_option maxHeartbeats 4000000 in
set_option maxRecDepth 100000 in
theorem k_L_lose (G : Gt) (hG : gOK G) (hN0 : gNc G) (l : Launch) (hfl : l.stackTraces = false) (a0 : Nat) (h0 : gK G a0 = 9) (p1 : Int32) (a2 : Nat) (h2 : gK G a2 = 9001) (M : Mem) {r : Int32} {M' : Mem} (hf : f_L_lose a0 p1 a2 M = some (r, M')) : Kw G l yL_lose cL_lose 4 [(0, 9, 12, 13), (0, 9, 15, 17)] ({ frames := 8, cells := 1, slots := 6, locals := 154 } : Room) [.ref a0, .int p1, .ref a2] M r M' := by
  refine startW (by decide) (Nat.le_of_ble_eq_true rfl) ?_
  intro p e s m args below meth c ls hx hb hr hown hml hlocks hts hV hM hl ht
  have hown : s.vm.findClass "FoldedVoicesLaw" = some m.cls := hown
  have hK := hG.1.moved hV
  have hS : va_S (gA G) s.heap s.heap [] := va_S.rf
  have hl : lv_has ls 4 [(0, .ref a0), (1, .int p1), (2, .ref a2)] := hl
  have hN : gNc G := hN0
  refine lv_aload_n hx hb dL_lose_0 rfl (lv_at hl 2 rfl) ?_
  refine lv_iconst (v := 0) hx hb dL_lose_1 (by decide) ?_
  refine lv_aload_n hx hb dL_lose_2 rfl (lv_at hl 0 rfl) ?_
  refine lv_iload_n hx hb dL_lose_3 rfl (lv_at hl 1 rfl) ?_
  rcases wb_e hf with ⟨j, x, hj, e1, hj2, hr1⟩ | ⟨x, N, e1, hr1, hM1⟩
  · refine c_Vx hx hb hml hown hts hV hK hM hS (As := [.int p1]) (rest := [.int 0, .ref a2]) (x_X8_lose G hG l hfl a0 h0 p1 M hj e1) w_X8_lose (tk_769 hts) (c_9 h0) rfl rfl ⟨⟨rfl, rfl⟩, Nat.le_of_ble_eq_true rfl, Nat.le_of_ble_eq_true rfl⟩ ⟨Nat.le_of_ble_eq_true rfl, Nat.le_of_ble_eq_true rfl⟩ rfl hl.1 rfl (Nat.le_of_ble_eq_true rfl) dL_lose_4 (fun ce q9 H locs hM hS hq9 hv9 hcl9 => ?_)
    by_cases g1 : j = 1
    · subst g1
      refine vx_catch hown [] ⟨0, 9, 12, 13⟩ [⟨0, 9, 15, 17⟩] (by rw [ht]; rfl) (fun z hz => nomatch hz) (by decide) (by decide) (tk_565 hts) (tk_578 hts) hq9 hv9 hcl9 ?_
      refine lv_astore_n (lv' := [(3, .ref q9), (0, .ref a0), (1, .int p1), (2, .ref a2)]) hx hb dL_lose_12 rfl hl (by decide) rfl (fun ls hl => ?_)
      refine lv_iconst (v := 1) hx hb dL_lose_13 (by decide) ?_
      have hr2 : r = 1 := hr1
      subst hr2
      exact e_w hx hb hr hlocks hM hS (Nat.le_refl _) (Nat.le_refl _) dL_lose_14
    by_cases g3 : j = 3
    · subst g3
      refine vx_catch hown [⟨0, 9, 12, 13⟩] ⟨0, 9, 15, 17⟩ [] (by rw [ht]; rfl) (List.forall_mem_cons.mpr ⟨Or.inr ⟨by decide, _, tk_565 hts, hN.2.1.moved hV⟩, fun z hz => nomatch hz⟩) (by decide) (by decide) (tk_567 hts) (tk_678 hts) hq9 hv9 hcl9 ?_
      refine lv_astore_n (lv' := [(3, .ref q9), (0, .ref a0), (1, .int p1), (2, .ref a2)]) hx hb dL_lose_15 rfl hl (by decide) rfl (fun ls hl => ?_)
      refine lv_iconst (v := 2) hx hb dL_lose_16 (by decide) ?_
      have hr2 : r = 2 := hr1
      subst hr2
      exact e_w hx hb hr hlocks hM hS (Nat.le_refl _) (Nat.le_refl _) dL_lose_17
    exact absurd (show hs_L_lose j = 0 by simp [hs_L_lose, g1, g3]) hj2
  · subst hr1
    refine c_Vi hx hb hml hown hts hV hK hM hS (As := [.int p1]) (rest := [.int 0, .ref a2]) (k_X8_lose G hG l a0 h0 p1 M e1) w_X8_lose (tk_769 hts) (c_9 h0) rfl rfl ⟨⟨rfl, rfl⟩, Nat.le_of_ble_eq_true rfl, Nat.le_of_ble_eq_true rfl⟩ ⟨Nat.zero_le _, Nat.zero_le _⟩ rfl hl.1 rfl (Nat.le_of_ble_eq_true rfl) dL_lose_4 (fun H locs hM hS => ?_)
    refine lv_i2l hx hb dL_lose_7 rfl ?_
    refine s_last hx hb hK hM hS h2 (ky_b hG h2) (by decide) dL_lose_8 (fun H locs hM hS => ?_)
    refine lv_goto (tgt := 18) hx hb dL_lose_9 (by decide) ?_
    refine lv_iconst (v := 0) hx hb dL_lose_18 (by decide) ?_
    subst hM1
    exact e_w hx hb hr hlocks hM hS (Nat.zero_le _) (Nat.zero_le _) dL_lose_19
def hs_L_swap : Nat → Nat := fun j => if j = 1 then 1 else if j = 3 then 2 else 0
def f_L_swap (a0 : Nat) (p1 : Int32) (a2 : Nat) (M : Mem) : Option (Int32 × Mem) := wb (f_X8_swap a0 p1 M) hs_L_swap (fun r N => sJ N a2 r.toInt64)
set_option maxHeartbeats 4000000 in
set_option maxRecDepth 100000 in
theorem k_L_swap (G : Gt) (hG : gOK G) (hN0 : gNc G) (l : Launch) (hfl : l.stackTraces = false) (a0 : Nat) (h0 : gK G a0 = 9) (p1 : Int32) (a2 : Nat) (h2 : gK G a2 = 9001) (M : Mem) {r : Int32} {M' : Mem} (hf : f_L_swap a0 p1 a2 M = some (r, M')) : Kw G l yL_swap cL_swap 4 [(0, 9, 12, 13), (0, 9, 15, 17)] ({ frames := 8, cells := 1, slots := 6, locals := 154 } : Room) [.ref a0, .int p1, .ref a2] M r M' := by
  refine startW (by decide) (Nat.le_of_ble_eq_true rfl) ?_
  intro p e s m args below meth c ls hx hb hr hown hml hlocks hts hV hM hl ht
  have hown : s.vm.findClass "FoldedVoicesLaw" = some m.cls := hown
  have hK := hG.1.moved hV
  have hS : va_S (gA G) s.heap s.heap [] := va_S.rf
  have hl : lv_has ls 4 [(0, .ref a0), (1, .int p1), (2, .ref a2)] := hl
  have hN : gNc G := hN0
  refine lv_aload_n hx hb dL_swap_0 rfl (lv_at hl 2 rfl) ?_
  refine lv_iconst (v := 0) hx hb dL_swap_1 (by decide) ?_
  refine lv_aload_n hx hb dL_swap_2 rfl (lv_at hl 0 rfl) ?_
  refine lv_iload_n hx hb dL_swap_3 rfl (lv_at hl 1 rfl) ?_
  rcases wb_e hf with ⟨j, x, hj, e1, hj2, hr1⟩ | ⟨x, N, e1, hr1, hM1⟩
  · refine c_Vx hx hb hml hown hts hV hK hM hS (As := [.int p1]) (rest := [.int 0, .ref a2]) (x_X8_swap G hG l hfl a0 h0 p1 M hj e1) w_X8_swap (tk_780 hts) (c_9 h0) rfl rfl ⟨⟨rfl, rfl⟩, Nat.le_of_ble_eq_true rfl, Nat.le_of_ble_eq_true rfl⟩ ⟨Nat.le_of_ble_eq_true rfl, Nat.le_of_ble_eq_true rfl⟩ rfl hl.1 rfl (Nat.le_of_ble_eq_true rfl) dL_swap_4 (fun ce q9 H locs hM hS hq9 hv9 hcl9 => ?_)
    by_cases g1 : j = 1
    · subst g1
      refine vx_catch hown [] ⟨0, 9, 12, 13⟩ [⟨0, 9, 15, 17⟩] (by rw [ht]; rfl) (fun z hz => nomatch hz) (by decide) (by decide) (tk_565 hts) (tk_578 hts) hq9 hv9 hcl9 ?_
      refine lv_astore_n (lv' := [(3, .ref q9), (0, .ref a0), (1, .int p1), (2, .ref a2)]) hx hb dL_swap_12 rfl hl (by decide) rfl (fun ls hl => ?_)
      refine lv_iconst (v := 1) hx hb dL_swap_13 (by decide) ?_
      have hr2 : r = 1 := hr1
      subst hr2
      exact e_w hx hb hr hlocks hM hS (Nat.le_refl _) (Nat.le_refl _) dL_swap_14
    by_cases g3 : j = 3
    · subst g3
      refine vx_catch hown [⟨0, 9, 12, 13⟩] ⟨0, 9, 15, 17⟩ [] (by rw [ht]; rfl) (List.forall_mem_cons.mpr ⟨Or.inr ⟨by decide, _, tk_565 hts, hN.2.1.moved hV⟩, fun z hz => nomatch hz⟩) (by decide) (by decide) (tk_567 hts) (tk_678 hts) hq9 hv9 hcl9 ?_
      refine lv_astore_n (lv' := [(3, .ref q9), (0, .ref a0), (1, .int p1), (2, .ref a2)]) hx hb dL_swap_15 rfl hl (by decide) rfl (fun ls hl => ?_)
      refine lv_iconst (v := 2) hx hb dL_swap_16 (by decide) ?_
      have hr2 : r = 2 := hr1
      subst hr2
      exact e_w hx hb hr hlocks hM hS (Nat.le_refl _) (Nat.le_refl _) dL_swap_17
    exact absurd (show hs_L_swap j = 0 by simp [hs_L_swap, g1, g3]) hj2
  · subst hr1
    refine c_Vi hx hb hml hown hts hV hK hM hS (As := [.int p1]) (rest := [.int 0, .ref a2]) (k_X8_swap G hG l a0 h0 p1 M e1) w_X8_swap (tk_780 hts) (c_9 h0) rfl rfl ⟨⟨rfl, rfl⟩, Nat.le_of_ble_eq_true rfl, Nat.le_of_ble_eq_true rfl⟩ ⟨Nat.zero_le _, Nat.zero_le _⟩ rfl hl.1 rfl (Nat.le_of_ble_eq_true rfl) dL_swap_4 (fun H locs hM hS => ?_)
    refine lv_i2l hx hb dL_swap_7 rfl ?_
    refine s_last hx hb hK hM hS h2 (ky_b hG h2) (by decide) dL_swap_8 (fun H locs hM hS => ?_)
    refine lv_goto (tgt := 18) hx hb dL_swap_9 (by decide) ?_
    refine lv_iconst (v := 0) hx hb dL_swap_18 (by decide) ?_
    subst hM1
    exact e_w hx hb hr hlocks hM hS (Nat.zero_le _) (Nat.zero_le _) dL_swap_19
def hs_L_set : Nat → Nat := fun j => if j = 1 then 1 else if j = 2 then 2 else 0
def f_L_set (a0 : Nat) (p1 : Int32) (p2 : Int32) (a3 : Nat) (M : Mem) : Option (Int32 × Mem) := wb (f_X8_set a0 p1 p2 M) hs_L_set (fun r N => sJ N a3 r.toInt64)
set_option maxHeartbeats 4000000 in
set_option maxRecDepth 100000 in
theorem k_L_set (G : Gt) (hG : gOK G) (hN0 : gNc G) (l : Launch) (hfl : l.stackTraces = false) (a0 : Nat) (h0 : gK G a0 = 9) (p1 : Int32) (p2 : Int32) (a3 : Nat) (h3 : gK G a3 = 9001) (M : Mem) {r : Int32} {M' : Mem} (hf : f_L_set a0 p1 p2 a3 M = some (r, M')) : Kw G l yL_set cL_set 5 [(0, 10, 13, 13), (0, 10, 17, 15)] ({ frames := 8, cells := 1, slots := 6, locals := 155 } : Room) [.ref a0, .int p1, .int p2, .ref a3] M r M' := by
  refine startW (by decide) (Nat.le_of_ble_eq_true rfl) ?_
  intro p e s m args below meth c ls hx hb hr hown hml hlocks hts hV hM hl ht
  have hown : s.vm.findClass "FoldedVoicesLaw" = some m.cls := hown
  have hK := hG.1.moved hV
  have hS : va_S (gA G) s.heap s.heap [] := va_S.rf
  have hl : lv_has ls 5 [(0, .ref a0), (1, .int p1), (2, .int p2), (3, .ref a3)] := hl
  have hN : gNc G := hN0
  refine lv_aload_n hx hb dL_set_0 rfl (lv_at hl 3 rfl) ?_
  refine lv_iconst (v := 0) hx hb dL_set_1 (by decide) ?_
  refine lv_aload_n hx hb dL_set_2 rfl (lv_at hl 0 rfl) ?_
  refine lv_iload_n hx hb dL_set_3 rfl (lv_at hl 1 rfl) ?_
  refine lv_iload_n hx hb dL_set_4 rfl (lv_at hl 2 rfl) ?_
  rcases wb_e hf with ⟨j, x, hj, e1, hj2, hr1⟩ | ⟨x, N, e1, hr1, hM1⟩
  · refine c_Vx hx hb hml hown hts hV hK hM hS (As := [.int p1, .int p2]) (rest := [.int 0, .ref a3]) (x_X8_set G hG l hfl a0 h0 p1 p2 M hj e1) w_X8_set (tk_791 hts) (c_9 h0) rfl rfl ⟨⟨rfl, rfl⟩, Nat.le_of_ble_eq_true rfl, Nat.le_of_ble_eq_true rfl⟩ ⟨Nat.le_of_ble_eq_true rfl, Nat.le_of_ble_eq_true rfl⟩ rfl hl.1 rfl (Nat.le_of_ble_eq_true rfl) dL_set_5 (fun ce q9 H locs hM hS hq9 hv9 hcl9 => ?_)
    by_cases g1 : j = 1
    · subst g1
      refine vx_catch hown [] ⟨0, 10, 13, 13⟩ [⟨0, 10, 17, 15⟩] (by rw [ht]; rfl) (fun z hz => nomatch hz) (by decide) (by decide) (tk_565 hts) (tk_578 hts) hq9 hv9 hcl9 ?_
      refine lv_astore (lv' := [(4, .ref q9), (0, .ref a0), (1, .int p1), (2, .int p2), (3, .ref a3)]) hx hb dL_set_13 hl (by decide) rfl (fun ls hl => ?_)
      refine lv_iconst (v := 1) hx hb dL_set_15 (by decide) ?_
      have hr2 : r = 1 := hr1
      subst hr2
      exact e_w hx hb hr hlocks hM hS (Nat.le_refl _) (Nat.le_refl _) dL_set_16
    by_cases g2 : j = 2
    · subst g2
      refine vx_catch hown [⟨0, 10, 13, 13⟩] ⟨0, 10, 17, 15⟩ [] (by rw [ht]; rfl) (List.forall_mem_cons.mpr ⟨Or.inr ⟨by decide, _, tk_565 hts, hN.1.moved hV⟩, fun z hz => nomatch hz⟩) (by decide) (by decide) (tk_566 hts) (tk_649 hts) hq9 hv9 hcl9 ?_
      refine lv_astore (lv' := [(4, .ref q9), (0, .ref a0), (1, .int p1), (2, .int p2), (3, .ref a3)]) hx hb dL_set_17 hl (by decide) rfl (fun ls hl => ?_)
      refine lv_iconst (v := 2) hx hb dL_set_19 (by decide) ?_
      have hr2 : r = 2 := hr1
      subst hr2
      exact e_w hx hb hr hlocks hM hS (Nat.le_refl _) (Nat.le_refl _) dL_set_20
    exact absurd (show hs_L_set j = 0 by simp [hs_L_set, g1, g2]) hj2
  · subst hr1
    refine c_Vi hx hb hml hown hts hV hK hM hS (As := [.int p1, .int p2]) (rest := [.int 0, .ref a3]) (k_X8_set G hG l a0 h0 p1 p2 M e1) w_X8_set (tk_791 hts) (c_9 h0) rfl rfl ⟨⟨rfl, rfl⟩, Nat.le_of_ble_eq_true rfl, Nat.le_of_ble_eq_true rfl⟩ ⟨Nat.zero_le _, Nat.zero_le _⟩ rfl hl.1 rfl (Nat.le_of_ble_eq_true rfl) dL_set_5 (fun H locs hM hS => ?_)
    refine lv_i2l hx hb dL_set_8 rfl ?_
    refine s_last hx hb hK hM hS h3 (ky_b hG h3) (by decide) dL_set_9 (fun H locs hM hS => ?_)
    refine lv_goto (tgt := 21) hx hb dL_set_10 (by decide) ?_
    refine lv_iconst (v := 0) hx hb dL_set_21 (by decide) ?_
    subst hM1
    exact e_w hx hb hr hlocks hM hS (Nat.zero_le _) (Nat.zero_le _) dL_set_22
def hs_L_append : Nat → Nat := fun j => if j = 2 then 1 else if j = 3 then 2 else 0
def f_L_append (a0 : Nat) (p1 : Int32) (a2 : Nat) (M : Mem) : Option (Int32 × Mem) := wb (f_X8_append a0 p1 M) hs_L_append (fun r N => sJ N a2 r.toInt64)
set_option maxHeartbeats 4000000 in
set_option maxRecDepth 100000 in
theorem k_L_append (G : Gt) (hG : gOK G) (hN0 : gNc G) (l : Launch) (hfl : l.stackTraces = false) (a0 : Nat) (h0 : gK G a0 = 9) (p1 : Int32) (a2 : Nat) (h2 : gK G a2 = 9001) (M : Mem) {r : Int32} {M' : Mem} (hf : f_L_append a0 p1 a2 M = some (r, M')) : Kw G l yL_append cL_append 4 [(0, 9, 12, 15), (0, 9, 15, 17)] ({ frames := 7, cells := 1, slots := 6, locals := 103 } : Room) [.ref a0, .int p1, .ref a2] M r M' := by
  refine startW (by decide) (Nat.le_of_ble_eq_true rfl) ?_
  intro p e s m args below meth c ls hx hb hr hown hml hlocks hts hV hM hl ht
  have hown : s.vm.findClass "FoldedVoicesLaw" = some m.cls := hown
  have hK := hG.1.moved hV
  have hS : va_S (gA G) s.heap s.heap [] := va_S.rf
  have hl : lv_has ls 4 [(0, .ref a0), (1, .int p1), (2, .ref a2)] := hl
  have hN : gNc G := hN0
  refine lv_aload_n hx hb dL_append_0 rfl (lv_at hl 2 rfl) ?_
  refine lv_iconst (v := 0) hx hb dL_append_1 (by decide) ?_
  refine lv_aload_n hx hb dL_append_2 rfl (lv_at hl 0 rfl) ?_
  refine lv_iload_n hx hb dL_append_3 rfl (lv_at hl 1 rfl) ?_
  rcases wb_e hf with ⟨j, x, hj, e1, hj2, hr1⟩ | ⟨x, N, e1, hr1, hM1⟩
  · refine c_Vx hx hb hml hown hts hV hK hM hS (As := [.int p1]) (rest := [.int 0, .ref a2]) (x_X8_append G hG l hfl a0 h0 p1 M hj e1) w_X8_append (tk_814 hts) (c_9 h0) rfl rfl ⟨⟨rfl, rfl⟩, Nat.le_of_ble_eq_true rfl, Nat.le_of_ble_eq_true rfl⟩ ⟨Nat.le_of_ble_eq_true rfl, Nat.le_of_ble_eq_true rfl⟩ rfl hl.1 rfl (Nat.le_of_ble_eq_true rfl) dL_append_4 (fun ce q9 H locs hM hS hq9 hv9 hcl9 => ?_)
    by_cases g2 : j = 2
    · subst g2
      refine vx_catch hown [] ⟨0, 9, 12, 15⟩ [⟨0, 9, 15, 17⟩] (by rw [ht]; rfl) (fun z hz => nomatch hz) (by decide) (by decide) (tk_566 hts) (tk_649 hts) hq9 hv9 hcl9 ?_
      refine lv_astore_n (lv' := [(3, .ref q9), (0, .ref a0), (1, .int p1), (2, .ref a2)]) hx hb dL_append_12 rfl hl (by decide) rfl (fun ls hl => ?_)
      refine lv_iconst (v := 1) hx hb dL_append_13 (by decide) ?_
      have hr2 : r = 1 := hr1
      subst hr2
      exact e_w hx hb hr hlocks hM hS (Nat.le_refl _) (Nat.le_refl _) dL_append_14
    by_cases g3 : j = 3
    · subst g3
      refine vx_catch hown [⟨0, 9, 12, 15⟩] ⟨0, 9, 15, 17⟩ [] (by rw [ht]; rfl) (List.forall_mem_cons.mpr ⟨Or.inr ⟨by decide, _, tk_566 hts, hN.2.2.moved hV⟩, fun z hz => nomatch hz⟩) (by decide) (by decide) (tk_567 hts) (tk_678 hts) hq9 hv9 hcl9 ?_
      refine lv_astore_n (lv' := [(3, .ref q9), (0, .ref a0), (1, .int p1), (2, .ref a2)]) hx hb dL_append_15 rfl hl (by decide) rfl (fun ls hl => ?_)
      refine lv_iconst (v := 2) hx hb dL_append_16 (by decide) ?_
      have hr2 : r = 2 := hr1
      subst hr2
      exact e_w hx hb hr hlocks hM hS (Nat.le_refl _) (Nat.le_refl _) dL_append_17
    exact absurd (show hs_L_append j = 0 by simp [hs_L_append, g2, g3]) hj2
  · subst hr1
    refine c_Vi hx hb hml hown hts hV hK hM hS (As := [.int p1]) (rest := [.int 0, .ref a2]) (k_X8_append G hG l a0 h0 p1 M e1) w_X8_append (tk_814 hts) (c_9 h0) rfl rfl ⟨⟨rfl, rfl⟩, Nat.le_of_ble_eq_true rfl, Nat.le_of_ble_eq_true rfl⟩ ⟨Nat.zero_le _, Nat.zero_le _⟩ rfl hl.1 rfl (Nat.le_of_ble_eq_true rfl) dL_append_4 (fun H locs hM hS => ?_)
    refine lv_i2l hx hb dL_append_7 rfl ?_
    refine s_last hx hb hK hM hS h2 (ky_b hG h2) (by decide) dL_append_8 (fun H locs hM hS => ?_)
    refine lv_goto (tgt := 18) hx hb dL_append_9 (by decide) ?_
    refine lv_iconst (v := 0) hx hb dL_append_18 (by decide) ?_
    subst hM1
    exact e_w hx hb hr hlocks hM hS (Nat.zero_le _) (Nat.zero_le _) dL_append_19
def hs_L_talk : Nat → Nat := fun j => if j = 2 then 1 else 0
def f_L_talk (a0 : Nat) (a1 : Nat) (M : Mem) : Option (Int32 × Mem) := wb (f_X8_talk a0 M) hs_L_talk (fun r N => sJ N a1 r.toInt64)
set_option maxHeartbeats 4000000 in
set_option maxRecDepth 100000 in
theorem k_L_talk (G : Gt) (hG : gOK G) (hN0 : gNc G) (l : Launch) (hfl : l.stackTraces = false) (a0 : Nat) (h0 : gK G a0 = 9) (a1 : Nat) (h1 : gK G a1 = 9001) (M : Mem) {r : Int32} {M' : Mem} (hf : f_L_talk a0 a1 M = some (r, M')) : Kw G l yL_talk cL_talk 3 [(0, 8, 11, 15)] ({ frames := 8, cells := 1, slots := 6, locals := 159 } : Room) [.ref a0, .ref a1] M r M' := by
  refine startW (by decide) (Nat.le_of_ble_eq_true rfl) ?_
  intro p e s m args below meth c ls hx hb hr hown hml hlocks hts hV hM hl ht
  have hown : s.vm.findClass "FoldedVoicesLaw" = some m.cls := hown
  have hK := hG.1.moved hV
  have hS : va_S (gA G) s.heap s.heap [] := va_S.rf
  have hl : lv_has ls 3 [(0, .ref a0), (1, .ref a1)] := hl
  have hN : gNc G := hN0
  refine lv_aload_n hx hb dL_talk_0 rfl (lv_at hl 1 rfl) ?_
  refine lv_iconst (v := 0) hx hb dL_talk_1 (by decide) ?_
  refine lv_aload_n hx hb dL_talk_2 rfl (lv_at hl 0 rfl) ?_
  rcases wb_e hf with ⟨j, x, hj, e1, hj2, hr1⟩ | ⟨x, N, e1, hr1, hM1⟩
  · refine c_Vx hx hb hml hown hts hV hK hM hS (As := []) (rest := [.int 0, .ref a1]) (x_X8_talk G hG l hfl a0 h0 M hj e1) w_X8_talk (tk_831 hts) (c_9 h0) rfl rfl ⟨⟨rfl, rfl⟩, Nat.le_of_ble_eq_true rfl, Nat.le_of_ble_eq_true rfl⟩ ⟨Nat.le_of_ble_eq_true rfl, Nat.le_of_ble_eq_true rfl⟩ rfl hl.1 rfl (Nat.le_of_ble_eq_true rfl) dL_talk_3 (fun ce q9 H locs hM hS hq9 hv9 hcl9 => ?_)
    by_cases g2 : j = 2
    · subst g2
      refine vx_catch hown [] ⟨0, 8, 11, 15⟩ [] (by rw [ht]; rfl) (fun z hz => nomatch hz) (by decide) (by decide) (tk_566 hts) (tk_649 hts) hq9 hv9 hcl9 ?_
      refine lv_astore_n (lv' := [(2, .ref q9), (0, .ref a0), (1, .ref a1)]) hx hb dL_talk_11 rfl hl (by decide) rfl (fun ls hl => ?_)
      refine lv_iconst (v := 1) hx hb dL_talk_12 (by decide) ?_
      have hr2 : r = 1 := hr1
      subst hr2
      exact e_w hx hb hr hlocks hM hS (Nat.le_refl _) (Nat.le_refl _) dL_talk_13
    exact absurd (show hs_L_talk j = 0 by simp [hs_L_talk, g2]) hj2
  · subst hr1
    refine c_Vi hx hb hml hown hts hV hK hM hS (As := []) (rest := [.int 0, .ref a1]) (k_X8_talk G hG l a0 h0 M e1) w_X8_talk (tk_831 hts) (c_9 h0) rfl rfl ⟨⟨rfl, rfl⟩, Nat.le_of_ble_eq_true rfl, Nat.le_of_ble_eq_true rfl⟩ ⟨Nat.zero_le _, Nat.zero_le _⟩ rfl hl.1 rfl (Nat.le_of_ble_eq_true rfl) dL_talk_3 (fun H locs hM hS => ?_)
    refine lv_i2l hx hb dL_talk_6 rfl ?_
    refine s_last hx hb hK hM hS h1 (ky_b hG h1) (by decide) dL_talk_7 (fun H locs hM hS => ?_)
    refine lv_goto (tgt := 14) hx hb dL_talk_8 (by decide) ?_
    refine lv_iconst (v := 0) hx hb dL_talk_14 (by decide) ?_
    subst hM1
    exact e_w hx hb hr hlocks hM hS (Nat.zero_le _) (Nat.zero_le _) dL_talk_15
def hs_L_goBack : Nat → Nat := fun j => if j = 3 then 1 else 0
def f_L_goBack (a0 : Nat) (a1 : Nat) (M : Mem) : Option (Int32 × Mem) := wb (f_X8_goBack a0 M) hs_L_goBack (fun r N => sJ N a1 r.toInt64)
set_option maxHeartbeats 4000000 in
set_option maxRecDepth 100000 in
theorem k_L_goBack (G : Gt) (hG : gOK G) (hN0 : gNc G) (l : Launch) (hfl : l.stackTraces = false) (a0 : Nat) (h0 : gK G a0 = 9) (a1 : Nat) (h1 : gK G a1 = 9001) (M : Mem) {r : Int32} {M' : Mem} (hf : f_L_goBack a0 a1 M = some (r, M')) : Kw G l yL_goBack cL_goBack 3 [(0, 8, 11, 17)] ({ frames := 7, cells := 1, slots := 6, locals := 152 } : Room) [.ref a0, .ref a1] M r M' := by
  refine startW (by decide) (Nat.le_of_ble_eq_true rfl) ?_
  intro p e s m args below meth c ls hx hb hr hown hml hlocks hts hV hM hl ht
  have hown : s.vm.findClass "FoldedVoicesLaw" = some m.cls := hown
  have hK := hG.1.moved hV
  have hS : va_S (gA G) s.heap s.heap [] := va_S.rf
  have hl : lv_has ls 3 [(0, .ref a0), (1, .ref a1)] := hl
  have hN : gNc G := hN0
  refine lv_aload_n hx hb dL_goBack_0 rfl (lv_at hl 1 rfl) ?_
  refine lv_iconst (v := 0) hx hb dL_goBack_1 (by decide) ?_
  refine lv_aload_n hx hb dL_goBack_2 rfl (lv_at hl 0 rfl) ?_
  rcases wb_e hf with ⟨j, x, hj, e1, hj2, hr1⟩ | ⟨x, N, e1, hr1, hM1⟩
  · refine c_Vx hx hb hml hown hts hV hK hM hS (As := []) (rest := [.int 0, .ref a1]) (x_X8_goBack G hG l hfl a0 h0 M hj e1) w_X8_goBack (tk_864 hts) (c_9 h0) rfl rfl ⟨⟨rfl, rfl⟩, Nat.le_of_ble_eq_true rfl, Nat.le_of_ble_eq_true rfl⟩ ⟨Nat.le_of_ble_eq_true rfl, Nat.le_of_ble_eq_true rfl⟩ rfl hl.1 rfl (Nat.le_of_ble_eq_true rfl) dL_goBack_3 (fun ce q9 H locs hM hS hq9 hv9 hcl9 => ?_)
    by_cases g3 : j = 3
    · subst g3
      refine vx_catch hown [] ⟨0, 8, 11, 17⟩ [] (by rw [ht]; rfl) (fun z hz => nomatch hz) (by decide) (by decide) (tk_567 hts) (tk_678 hts) hq9 hv9 hcl9 ?_
      refine lv_astore_n (lv' := [(2, .ref q9), (0, .ref a0), (1, .ref a1)]) hx hb dL_goBack_11 rfl hl (by decide) rfl (fun ls hl => ?_)
      refine lv_iconst (v := 1) hx hb dL_goBack_12 (by decide) ?_
      have hr2 : r = 1 := hr1
      subst hr2
      exact e_w hx hb hr hlocks hM hS (Nat.le_refl _) (Nat.le_refl _) dL_goBack_13
    exact absurd (show hs_L_goBack j = 0 by simp [hs_L_goBack, g3]) hj2
  · subst hr1
    refine c_Vi hx hb hml hown hts hV hK hM hS (As := []) (rest := [.int 0, .ref a1]) (k_X8_goBack G hG l a0 h0 M e1) w_X8_goBack (tk_864 hts) (c_9 h0) rfl rfl ⟨⟨rfl, rfl⟩, Nat.le_of_ble_eq_true rfl, Nat.le_of_ble_eq_true rfl⟩ ⟨Nat.zero_le _, Nat.zero_le _⟩ rfl hl.1 rfl (Nat.le_of_ble_eq_true rfl) dL_goBack_3 (fun H locs hM hS => ?_)
    refine lv_i2l hx hb dL_goBack_6 rfl ?_
    refine s_last hx hb hK hM hS h1 (ky_b hG h1) (by decide) dL_goBack_7 (fun H locs hM hS => ?_)
    refine lv_goto (tgt := 14) hx hb dL_goBack_8 (by decide) ?_
    refine lv_iconst (v := 0) hx hb dL_goBack_14 (by decide) ?_
    subst hM1
    exact e_w hx hb hr hlocks hM hS (Nat.zero_le _) (Nat.zero_le _) dL_goBack_15
def hs_L_undo : Nat → Nat := fun j => if j = 3 then 1 else 0
def f_L_undo (a0 : Nat) (a1 : Nat) (M : Mem) : Option (Int32 × Mem) := wb (f_X8_undo a0 M) hs_L_undo (fun r N => sJ N a1 r.toInt64)
set_option maxHeartbeats 4000000 in
set_option maxRecDepth 100000 in
theorem k_L_undo (G : Gt) (hG : gOK G) (hN0 : gNc G) (l : Launch) (hfl : l.stackTraces = false) (a0 : Nat) (h0 : gK G a0 = 9) (a1 : Nat) (h1 : gK G a1 = 9001) (M : Mem) {r : Int32} {M' : Mem} (hf : f_L_undo a0 a1 M = some (r, M')) : Kw G l yL_undo cL_undo 3 [(0, 8, 11, 17)] ({ frames := 7, cells := 1, slots := 6, locals := 133 } : Room) [.ref a0, .ref a1] M r M' := by
  refine startW (by decide) (Nat.le_of_ble_eq_true rfl) ?_
  intro p e s m args below meth c ls hx hb hr hown hml hlocks hts hV hM hl ht
  have hown : s.vm.findClass "FoldedVoicesLaw" = some m.cls := hown
  have hK := hG.1.moved hV
  have hS : va_S (gA G) s.heap s.heap [] := va_S.rf
  have hl : lv_has ls 3 [(0, .ref a0), (1, .ref a1)] := hl
  have hN : gNc G := hN0
  refine lv_aload_n hx hb dL_undo_0 rfl (lv_at hl 1 rfl) ?_
  refine lv_iconst (v := 0) hx hb dL_undo_1 (by decide) ?_
  refine lv_aload_n hx hb dL_undo_2 rfl (lv_at hl 0 rfl) ?_
  rcases wb_e hf with ⟨j, x, hj, e1, hj2, hr1⟩ | ⟨x, N, e1, hr1, hM1⟩
  · refine c_Vx hx hb hml hown hts hV hK hM hS (As := []) (rest := [.int 0, .ref a1]) (x_X8_undo G hG l hfl a0 h0 M hj e1) w_X8_undo (tk_872 hts) (c_9 h0) rfl rfl ⟨⟨rfl, rfl⟩, Nat.le_of_ble_eq_true rfl, Nat.le_of_ble_eq_true rfl⟩ ⟨Nat.le_of_ble_eq_true rfl, Nat.le_of_ble_eq_true rfl⟩ rfl hl.1 rfl (Nat.le_of_ble_eq_true rfl) dL_undo_3 (fun ce q9 H locs hM hS hq9 hv9 hcl9 => ?_)
    by_cases g3 : j = 3
    · subst g3
      refine vx_catch hown [] ⟨0, 8, 11, 17⟩ [] (by rw [ht]; rfl) (fun z hz => nomatch hz) (by decide) (by decide) (tk_567 hts) (tk_678 hts) hq9 hv9 hcl9 ?_
      refine lv_astore_n (lv' := [(2, .ref q9), (0, .ref a0), (1, .ref a1)]) hx hb dL_undo_11 rfl hl (by decide) rfl (fun ls hl => ?_)
      refine lv_iconst (v := 1) hx hb dL_undo_12 (by decide) ?_
      have hr2 : r = 1 := hr1
      subst hr2
      exact e_w hx hb hr hlocks hM hS (Nat.le_refl _) (Nat.le_refl _) dL_undo_13
    exact absurd (show hs_L_undo j = 0 by simp [hs_L_undo, g3]) hj2
  · subst hr1
    refine c_Vi hx hb hml hown hts hV hK hM hS (As := []) (rest := [.int 0, .ref a1]) (k_X8_undo G hG l a0 h0 M e1) w_X8_undo (tk_872 hts) (c_9 h0) rfl rfl ⟨⟨rfl, rfl⟩, Nat.le_of_ble_eq_true rfl, Nat.le_of_ble_eq_true rfl⟩ ⟨Nat.zero_le _, Nat.zero_le _⟩ rfl hl.1 rfl (Nat.le_of_ble_eq_true rfl) dL_undo_3 (fun H locs hM hS => ?_)
    refine lv_i2l hx hb dL_undo_6 rfl ?_
    refine s_last hx hb hK hM hS h1 (ky_b hG h1) (by decide) dL_undo_7 (fun H locs hM hS => ?_)
    refine lv_goto (tgt := 14) hx hb dL_undo_8 (by decide) ?_
    refine lv_iconst (v := 0) hx hb dL_undo_14 (by decide) ?_
    subst hM1
    exact e_w hx hb hr hlocks hM hS (Nat.zero_le _) (Nat.zero_le _) dL_undo_15
def hs_L_saying : Nat → Nat := fun j => if j = 1 then 1 else if j = 2 then 2 else 0
def f_L_saying (a0 : Nat) (p1 : Int32) (p2 : Int32) (a3 : Nat) (M : Mem) : Option (Int32 × Mem) := wb (f_X8_saying a0 p1 p2 M) hs_L_saying (fun r N => sJ N a3 r.toInt64)
set_option maxHeartbeats 4000000 in
set_option maxRecDepth 100000 in
theorem k_L_saying (G : Gt) (hG : gOK G) (hN0 : gNc G) (l : Launch) (hfl : l.stackTraces = false) (a0 : Nat) (h0 : gK G a0 = 9) (p1 : Int32) (p2 : Int32) (a3 : Nat) (h3 : gK G a3 = 9001) (M : Mem) {r : Int32} {M' : Mem} (hf : f_L_saying a0 p1 p2 a3 M = some (r, M')) : Kw G l yL_saying cL_saying 5 [(0, 10, 13, 13), (0, 10, 17, 15)] ({ frames := 8, cells := 1, slots := 6, locals := 157 } : Room) [.ref a0, .int p1, .int p2, .ref a3] M r M' := by
  refine startW (by decide) (Nat.le_of_ble_eq_true rfl) ?_
  intro p e s m args below meth c ls hx hb hr hown hml hlocks hts hV hM hl ht
  have hown : s.vm.findClass "FoldedVoicesLaw" = some m.cls := hown
  have hK := hG.1.moved hV
  have hS : va_S (gA G) s.heap s.heap [] := va_S.rf
  have hl : lv_has ls 5 [(0, .ref a0), (1, .int p1), (2, .int p2), (3, .ref a3)] := hl
  have hN : gNc G := hN0
  refine lv_aload_n hx hb dL_saying_0 rfl (lv_at hl 3 rfl) ?_
  refine lv_iconst (v := 0) hx hb dL_saying_1 (by decide) ?_
  refine lv_aload_n hx hb dL_saying_2 rfl (lv_at hl 0 rfl) ?_
  refine lv_iload_n hx hb dL_saying_3 rfl (lv_at hl 1 rfl) ?_
  refine lv_iload_n hx hb dL_saying_4 rfl (lv_at hl 2 rfl) ?_
  rcases wb_e hf with ⟨j, x, hj, e1, hj2, hr1⟩ | ⟨x, N, e1, hr1, hM1⟩
  · refine c_Vx hx hb hml hown hts hV hK hM hS (As := [.int p1, .int p2]) (rest := [.int 0, .ref a3]) (x_X8_saying G hG l hfl a0 h0 p1 p2 M hj e1) w_X8_saying (tk_880 hts) (c_9 h0) rfl rfl ⟨⟨rfl, rfl⟩, Nat.le_of_ble_eq_true rfl, Nat.le_of_ble_eq_true rfl⟩ ⟨Nat.le_of_ble_eq_true rfl, Nat.le_of_ble_eq_true rfl⟩ rfl hl.1 rfl (Nat.le_of_ble_eq_true rfl) dL_saying_5 (fun ce q9 H locs hM hS hq9 hv9 hcl9 => ?_)
    by_cases g1 : j = 1
    · subst g1
      refine vx_catch hown [] ⟨0, 10, 13, 13⟩ [⟨0, 10, 17, 15⟩] (by rw [ht]; rfl) (fun z hz => nomatch hz) (by decide) (by decide) (tk_565 hts) (tk_578 hts) hq9 hv9 hcl9 ?_
      refine lv_astore (lv' := [(4, .ref q9), (0, .ref a0), (1, .int p1), (2, .int p2), (3, .ref a3)]) hx hb dL_saying_13 hl (by decide) rfl (fun ls hl => ?_)
      refine lv_iconst (v := 1) hx hb dL_saying_15 (by decide) ?_
      have hr2 : r = 1 := hr1
      subst hr2
      exact e_w hx hb hr hlocks hM hS (Nat.le_refl _) (Nat.le_refl _) dL_saying_16
    by_cases g2 : j = 2
    · subst g2
      refine vx_catch hown [⟨0, 10, 13, 13⟩] ⟨0, 10, 17, 15⟩ [] (by rw [ht]; rfl) (List.forall_mem_cons.mpr ⟨Or.inr ⟨by decide, _, tk_565 hts, hN.1.moved hV⟩, fun z hz => nomatch hz⟩) (by decide) (by decide) (tk_566 hts) (tk_649 hts) hq9 hv9 hcl9 ?_
      refine lv_astore (lv' := [(4, .ref q9), (0, .ref a0), (1, .int p1), (2, .int p2), (3, .ref a3)]) hx hb dL_saying_17 hl (by decide) rfl (fun ls hl => ?_)
      refine lv_iconst (v := 2) hx hb dL_saying_19 (by decide) ?_
      have hr2 : r = 2 := hr1
      subst hr2
      exact e_w hx hb hr hlocks hM hS (Nat.le_refl _) (Nat.le_refl _) dL_saying_20
    exact absurd (show hs_L_saying j = 0 by simp [hs_L_saying, g1, g2]) hj2
  · subst hr1
    refine c_Vi hx hb hml hown hts hV hK hM hS (As := [.int p1, .int p2]) (rest := [.int 0, .ref a3]) (k_X8_saying G hG l a0 h0 p1 p2 M e1) w_X8_saying (tk_880 hts) (c_9 h0) rfl rfl ⟨⟨rfl, rfl⟩, Nat.le_of_ble_eq_true rfl, Nat.le_of_ble_eq_true rfl⟩ ⟨Nat.zero_le _, Nat.zero_le _⟩ rfl hl.1 rfl (Nat.le_of_ble_eq_true rfl) dL_saying_5 (fun H locs hM hS => ?_)
    refine lv_i2l hx hb dL_saying_8 rfl ?_
    refine s_last hx hb hK hM hS h3 (ky_b hG h3) (by decide) dL_saying_9 (fun H locs hM hS => ?_)
    refine lv_goto (tgt := 21) hx hb dL_saying_10 (by decide) ?_
    refine lv_iconst (v := 0) hx hb dL_saying_21 (by decide) ?_
    subst hM1
    exact e_w hx hb hr hlocks hM hS (Nat.zero_le _) (Nat.zero_le _) dL_saying_22
def hs_L_hearing : Nat → Nat := fun j => if j = 1 then 1 else if j = 2 then 2 else 0
def f_L_hearing (a0 : Nat) (p1 : Int32) (p2 : Int32) (a3 : Nat) (M : Mem) : Option (Int32 × Mem) := wb (f_X8_hearing a0 p1 p2 M) hs_L_hearing (fun r N => sJ N a3 r.toInt64)
set_option maxHeartbeats 4000000 in
set_option maxRecDepth 100000 in
theorem k_L_hearing (G : Gt) (hG : gOK G) (hN0 : gNc G) (l : Launch) (hfl : l.stackTraces = false) (a0 : Nat) (h0 : gK G a0 = 9) (p1 : Int32) (p2 : Int32) (a3 : Nat) (h3 : gK G a3 = 9001) (M : Mem) {r : Int32} {M' : Mem} (hf : f_L_hearing a0 p1 p2 a3 M = some (r, M')) : Kw G l yL_hearing cL_hearing 5 [(0, 10, 13, 13), (0, 10, 17, 15)] ({ frames := 8, cells := 1, slots := 6, locals := 126 } : Room) [.ref a0, .int p1, .int p2, .ref a3] M r M' := by
  refine startW (by decide) (Nat.le_of_ble_eq_true rfl) ?_
  intro p e s m args below meth c ls hx hb hr hown hml hlocks hts hV hM hl ht
  have hown : s.vm.findClass "FoldedVoicesLaw" = some m.cls := hown
  have hK := hG.1.moved hV
  have hS : va_S (gA G) s.heap s.heap [] := va_S.rf
  have hl : lv_has ls 5 [(0, .ref a0), (1, .int p1), (2, .int p2), (3, .ref a3)] := hl
  have hN : gNc G := hN0
  refine lv_aload_n hx hb dL_hearing_0 rfl (lv_at hl 3 rfl) ?_
  refine lv_iconst (v := 0) hx hb dL_hearing_1 (by decide) ?_
  refine lv_aload_n hx hb dL_hearing_2 rfl (lv_at hl 0 rfl) ?_
  refine lv_iload_n hx hb dL_hearing_3 rfl (lv_at hl 1 rfl) ?_
  refine lv_iload_n hx hb dL_hearing_4 rfl (lv_at hl 2 rfl) ?_
  rcases wb_e hf with ⟨j, x, hj, e1, hj2, hr1⟩ | ⟨x, N, e1, hr1, hM1⟩
  · refine c_Vx hx hb hml hown hts hV hK hM hS (As := [.int p1, .int p2]) (rest := [.int 0, .ref a3]) (x_X8_hearing G hG l hfl a0 h0 p1 p2 M hj e1) w_X8_hearing (tk_891 hts) (c_9 h0) rfl rfl ⟨⟨rfl, rfl⟩, Nat.le_of_ble_eq_true rfl, Nat.le_of_ble_eq_true rfl⟩ ⟨Nat.le_of_ble_eq_true rfl, Nat.le_of_ble_eq_true rfl⟩ rfl hl.1 rfl (Nat.le_of_ble_eq_true rfl) dL_hearing_5 (fun ce q9 H locs hM hS hq9 hv9 hcl9 => ?_)
    by_cases g1 : j = 1
    · subst g1
      refine vx_catch hown [] ⟨0, 10, 13, 13⟩ [⟨0, 10, 17, 15⟩] (by rw [ht]; rfl) (fun z hz => nomatch hz) (by decide) (by decide) (tk_565 hts) (tk_578 hts) hq9 hv9 hcl9 ?_
      refine lv_astore (lv' := [(4, .ref q9), (0, .ref a0), (1, .int p1), (2, .int p2), (3, .ref a3)]) hx hb dL_hearing_13 hl (by decide) rfl (fun ls hl => ?_)
      refine lv_iconst (v := 1) hx hb dL_hearing_15 (by decide) ?_
      have hr2 : r = 1 := hr1
      subst hr2
      exact e_w hx hb hr hlocks hM hS (Nat.le_refl _) (Nat.le_refl _) dL_hearing_16
    by_cases g2 : j = 2
    · subst g2
      refine vx_catch hown [⟨0, 10, 13, 13⟩] ⟨0, 10, 17, 15⟩ [] (by rw [ht]; rfl) (List.forall_mem_cons.mpr ⟨Or.inr ⟨by decide, _, tk_565 hts, hN.1.moved hV⟩, fun z hz => nomatch hz⟩) (by decide) (by decide) (tk_566 hts) (tk_649 hts) hq9 hv9 hcl9 ?_
      refine lv_astore (lv' := [(4, .ref q9), (0, .ref a0), (1, .int p1), (2, .int p2), (3, .ref a3)]) hx hb dL_hearing_17 hl (by decide) rfl (fun ls hl => ?_)
      refine lv_iconst (v := 2) hx hb dL_hearing_19 (by decide) ?_
      have hr2 : r = 2 := hr1
      subst hr2
      exact e_w hx hb hr hlocks hM hS (Nat.le_refl _) (Nat.le_refl _) dL_hearing_20
    exact absurd (show hs_L_hearing j = 0 by simp [hs_L_hearing, g1, g2]) hj2
  · subst hr1
    refine c_Vi hx hb hml hown hts hV hK hM hS (As := [.int p1, .int p2]) (rest := [.int 0, .ref a3]) (k_X8_hearing G hG l a0 h0 p1 p2 M e1) w_X8_hearing (tk_891 hts) (c_9 h0) rfl rfl ⟨⟨rfl, rfl⟩, Nat.le_of_ble_eq_true rfl, Nat.le_of_ble_eq_true rfl⟩ ⟨Nat.zero_le _, Nat.zero_le _⟩ rfl hl.1 rfl (Nat.le_of_ble_eq_true rfl) dL_hearing_5 (fun H locs hM hS => ?_)
    refine lv_i2l hx hb dL_hearing_8 rfl ?_
    refine s_last hx hb hK hM hS h3 (ky_b hG h3) (by decide) dL_hearing_9 (fun H locs hM hS => ?_)
    refine lv_goto (tgt := 21) hx hb dL_hearing_10 (by decide) ?_
    refine lv_iconst (v := 0) hx hb dL_hearing_21 (by decide) ?_
    subst hM1
    exact e_w hx hb hr hlocks hM hS (Nat.zero_le _) (Nat.zero_le _) dL_hearing_22
def hs_L_packet : Nat → Nat := fun j => if j = 1 then 1 else if j = 2 then 2 else 0
def f_L_packet (a0 : Nat) (p1 : Int32) (p2 : Int32) (p3 : Int32) (a4 : Nat) (M : Mem) : Option (Int32 × Mem) := wb (f_X8_packet a0 p1 p2 p3 M) hs_L_packet (fun r N => sJ N a4 r.toInt64)
set_option maxHeartbeats 4000000 in
set_option maxRecDepth 100000 in
theorem k_L_packet (G : Gt) (hG : gOK G) (hN0 : gNc G) (l : Launch) (hfl : l.stackTraces = false) (a0 : Nat) (h0 : gK G a0 = 9) (p1 : Int32) (p2 : Int32) (p3 : Int32) (a4 : Nat) (h4 : gK G a4 = 9001) (M : Mem) {r : Int32} {M' : Mem} (hf : f_L_packet a0 p1 p2 p3 a4 M = some (r, M')) : Kw G l yL_packet cL_packet 6 [(0, 12, 15, 13), (0, 12, 19, 15)] ({ frames := 8, cells := 1, slots := 6, locals := 128 } : Room) [.ref a0, .int p1, .int p2, .int p3, .ref a4] M r M' := by
  refine startW (by decide) (Nat.le_of_ble_eq_true rfl) ?_
  intro p e s m args below meth c ls hx hb hr hown hml hlocks hts hV hM hl ht
  have hown : s.vm.findClass "FoldedVoicesLaw" = some m.cls := hown
  have hK := hG.1.moved hV
  have hS : va_S (gA G) s.heap s.heap [] := va_S.rf
  have hl : lv_has ls 6 [(0, .ref a0), (1, .int p1), (2, .int p2), (3, .int p3), (4, .ref a4)] := hl
  have hN : gNc G := hN0
  refine lv_aload hx hb dL_packet_0 (lv_at hl 4 rfl) ?_
  refine lv_iconst (v := 0) hx hb dL_packet_2 (by decide) ?_
  refine lv_aload_n hx hb dL_packet_3 rfl (lv_at hl 0 rfl) ?_
  refine lv_iload_n hx hb dL_packet_4 rfl (lv_at hl 1 rfl) ?_
  refine lv_iload_n hx hb dL_packet_5 rfl (lv_at hl 2 rfl) ?_
  refine lv_iload_n hx hb dL_packet_6 rfl (lv_at hl 3 rfl) ?_
  rcases wb_e hf with ⟨j, x, hj, e1, hj2, hr1⟩ | ⟨x, N, e1, hr1, hM1⟩
  · refine c_Vx hx hb hml hown hts hV hK hM hS (As := [.int p1, .int p2, .int p3]) (rest := [.int 0, .ref a4]) (x_X8_packet G hG l hfl a0 h0 p1 p2 p3 M hj e1) w_X8_packet (tk_898 hts) (c_9 h0) rfl rfl ⟨⟨rfl, rfl⟩, Nat.le_of_ble_eq_true rfl, Nat.le_of_ble_eq_true rfl⟩ ⟨Nat.le_of_ble_eq_true rfl, Nat.le_of_ble_eq_true rfl⟩ rfl hl.1 rfl (Nat.le_of_ble_eq_true rfl) dL_packet_7 (fun ce q9 H locs hM hS hq9 hv9 hcl9 => ?_)
    by_cases g1 : j = 1
    · subst g1
      refine vx_catch hown [] ⟨0, 12, 15, 13⟩ [⟨0, 12, 19, 15⟩] (by rw [ht]; rfl) (fun z hz => nomatch hz) (by decide) (by decide) (tk_565 hts) (tk_578 hts) hq9 hv9 hcl9 ?_
      refine lv_astore (lv' := [(5, .ref q9), (0, .ref a0), (1, .int p1), (2, .int p2), (3, .int p3), (4, .ref a4)]) hx hb dL_packet_15 hl (by decide) rfl (fun ls hl => ?_)
      refine lv_iconst (v := 1) hx hb dL_packet_17 (by decide) ?_
      have hr2 : r = 1 := hr1
      subst hr2
      exact e_w hx hb hr hlocks hM hS (Nat.le_refl _) (Nat.le_refl _) dL_packet_18
    by_cases g2 : j = 2
    · subst g2
      refine vx_catch hown [⟨0, 12, 15, 13⟩] ⟨0, 12, 19, 15⟩ [] (by rw [ht]; rfl) (List.forall_mem_cons.mpr ⟨Or.inr ⟨by decide, _, tk_565 hts, hN.1.moved hV⟩, fun z hz => nomatch hz⟩) (by decide) (by decide) (tk_566 hts) (tk_649 hts) hq9 hv9 hcl9 ?_
      refine lv_astore (lv' := [(5, .ref q9), (0, .ref a0), (1, .int p1), (2, .int p2), (3, .int p3), (4, .ref a4)]) hx hb dL_packet_19 hl (by decide) rfl (fun ls hl => ?_)
      refine lv_iconst (v := 2) hx hb dL_packet_21 (by decide) ?_
      have hr2 : r = 2 := hr1
      subst hr2
      exact e_w hx hb hr hlocks hM hS (Nat.le_refl _) (Nat.le_refl _) dL_packet_22
    exact absurd (show hs_L_packet j = 0 by simp [hs_L_packet, g1, g2]) hj2
  · subst hr1
    refine c_Vi hx hb hml hown hts hV hK hM hS (As := [.int p1, .int p2, .int p3]) (rest := [.int 0, .ref a4]) (k_X8_packet G hG l a0 h0 p1 p2 p3 M e1) w_X8_packet (tk_898 hts) (c_9 h0) rfl rfl ⟨⟨rfl, rfl⟩, Nat.le_of_ble_eq_true rfl, Nat.le_of_ble_eq_true rfl⟩ ⟨Nat.zero_le _, Nat.zero_le _⟩ rfl hl.1 rfl (Nat.le_of_ble_eq_true rfl) dL_packet_7 (fun H locs hM hS => ?_)
    refine lv_i2l hx hb dL_packet_10 rfl ?_
    refine s_last hx hb hK hM hS h4 (ky_b hG h4) (by decide) dL_packet_11 (fun H locs hM hS => ?_)
    refine lv_goto (tgt := 23) hx hb dL_packet_12 (by decide) ?_
    refine lv_iconst (v := 0) hx hb dL_packet_23 (by decide) ?_
    subst hM1
    exact e_w hx hb hr hlocks hM hS (Nat.zero_le _) (Nat.zero_le _) dL_packet_24
def hs_L_why : Nat → Nat := fun j => if j = 1 then 1 else 0
def f_L_why (a0 : Nat) (p1 : Int32) (a2 : Nat) (M : Mem) : Option (Int32 × Mem) := wb (f_X8_why a0 p1 M) hs_L_why (fun r N => sJ N a2 r.toInt64)
set_option maxHeartbeats 4000000 in
set_option maxRecDepth 100000 in
theorem k_L_why (G : Gt) (hG : gOK G) (hN0 : gNc G) (l : Launch) (hfl : l.stackTraces = false) (a0 : Nat) (h0 : gK G a0 = 9) (p1 : Int32) (a2 : Nat) (h2 : gK G a2 = 9001) (M : Mem) {r : Int32} {M' : Mem} (hf : f_L_why a0 p1 a2 M = some (r, M')) : Kw G l yL_why cL_why 4 [(0, 9, 12, 13)] ({ frames := 8, cells := 1, slots := 6, locals := 156 } : Room) [.ref a0, .int p1, .ref a2] M r M' := by
  refine startW (by decide) (Nat.le_of_ble_eq_true rfl) ?_
  intro p e s m args below meth c ls hx hb hr hown hml hlocks hts hV hM hl ht
  have hown : s.vm.findClass "FoldedVoicesLaw" = some m.cls := hown
  have hK := hG.1.moved hV
  have hS : va_S (gA G) s.heap s.heap [] := va_S.rf
  have hl : lv_has ls 4 [(0, .ref a0), (1, .int p1), (2, .ref a2)] := hl
  have hN : gNc G := hN0
  refine lv_aload_n hx hb dL_why_0 rfl (lv_at hl 2 rfl) ?_
  refine lv_iconst (v := 0) hx hb dL_why_1 (by decide) ?_
  refine lv_aload_n hx hb dL_why_2 rfl (lv_at hl 0 rfl) ?_
  refine lv_iload_n hx hb dL_why_3 rfl (lv_at hl 1 rfl) ?_
  rcases wb_e hf with ⟨j, x, hj, e1, hj2, hr1⟩ | ⟨x, N, e1, hr1, hM1⟩
  · refine c_Vx hx hb hml hown hts hV hK hM hS (As := [.int p1]) (rest := [.int 0, .ref a2]) (x_X8_why G hG l hfl a0 h0 p1 M hj e1) w_X8_why (tk_910 hts) (c_9 h0) rfl rfl ⟨⟨rfl, rfl⟩, Nat.le_of_ble_eq_true rfl, Nat.le_of_ble_eq_true rfl⟩ ⟨Nat.le_of_ble_eq_true rfl, Nat.le_of_ble_eq_true rfl⟩ rfl hl.1 rfl (Nat.le_of_ble_eq_true rfl) dL_why_4 (fun ce q9 H locs hM hS hq9 hv9 hcl9 => ?_)
    by_cases g1 : j = 1
    · subst g1
      refine vx_catch hown [] ⟨0, 9, 12, 13⟩ [] (by rw [ht]; rfl) (fun z hz => nomatch hz) (by decide) (by decide) (tk_565 hts) (tk_578 hts) hq9 hv9 hcl9 ?_
      refine lv_astore_n (lv' := [(3, .ref q9), (0, .ref a0), (1, .int p1), (2, .ref a2)]) hx hb dL_why_12 rfl hl (by decide) rfl (fun ls hl => ?_)
      refine lv_iconst (v := 1) hx hb dL_why_13 (by decide) ?_
      have hr2 : r = 1 := hr1
      subst hr2
      exact e_w hx hb hr hlocks hM hS (Nat.le_refl _) (Nat.le_refl _) dL_why_14
    exact absurd (show hs_L_why j = 0 by simp [hs_L_why, g1]) hj2
  · subst hr1
    refine c_Vi hx hb hml hown hts hV hK hM hS (As := [.int p1]) (rest := [.int 0, .ref a2]) (k_X8_why G hG l a0 h0 p1 M e1) w_X8_why (tk_910 hts) (c_9 h0) rfl rfl ⟨⟨rfl, rfl⟩, Nat.le_of_ble_eq_true rfl, Nat.le_of_ble_eq_true rfl⟩ ⟨Nat.zero_le _, Nat.zero_le _⟩ rfl hl.1 rfl (Nat.le_of_ble_eq_true rfl) dL_why_4 (fun H locs hM hS => ?_)
    refine lv_i2l hx hb dL_why_7 rfl ?_
    refine s_last hx hb hK hM hS h2 (ky_b hG h2) (by decide) dL_why_8 (fun H locs hM hS => ?_)
    refine lv_goto (tgt := 15) hx hb dL_why_9 (by decide) ?_
    refine lv_iconst (v := 0) hx hb dL_why_15 (by decide) ?_
    subst hM1
    exact e_w hx hb hr hlocks hM hS (Nat.zero_le _) (Nat.zero_le _) dL_why_16
def hs_L_count : Nat → Nat := fun j => if j = 2 then 1 else 0
def f_L_count (a0 : Nat) (p1 : Int32) (a2 : Nat) (M : Mem) : Option (Int32 × Mem) := wb (f_X8_count a0 p1 M) hs_L_count (fun r N => sJ N a2 r.toInt64)
set_option maxHeartbeats 4000000 in
set_option maxRecDepth 100000 in
theorem k_L_count (G : Gt) (hG : gOK G) (hN0 : gNc G) (l : Launch) (hfl : l.stackTraces = false) (a0 : Nat) (h0 : gK G a0 = 9) (p1 : Int32) (a2 : Nat) (h2 : gK G a2 = 9001) (M : Mem) {r : Int32} {M' : Mem} (hf : f_L_count a0 p1 a2 M = some (r, M')) : Kw G l yL_count cL_count 4 [(0, 9, 12, 15)] ({ frames := 8, cells := 1, slots := 6, locals := 179 } : Room) [.ref a0, .int p1, .ref a2] M r M' := by
  refine startW (by decide) (Nat.le_of_ble_eq_true rfl) ?_
  intro p e s m args below meth c ls hx hb hr hown hml hlocks hts hV hM hl ht
  have hown : s.vm.findClass "FoldedVoicesLaw" = some m.cls := hown
  have hK := hG.1.moved hV
  have hS : va_S (gA G) s.heap s.heap [] := va_S.rf
  have hl : lv_has ls 4 [(0, .ref a0), (1, .int p1), (2, .ref a2)] := hl
  have hN : gNc G := hN0
  refine lv_aload_n hx hb dL_count_0 rfl (lv_at hl 2 rfl) ?_
  refine lv_iconst (v := 0) hx hb dL_count_1 (by decide) ?_
  refine lv_aload_n hx hb dL_count_2 rfl (lv_at hl 0 rfl) ?_
  refine lv_iload_n hx hb dL_count_3 rfl (lv_at hl 1 rfl) ?_
  rcases wb_e hf with ⟨j, x, hj, e1, hj2, hr1⟩ | ⟨x, N, e1, hr1, hM1⟩
  · refine c_Vx hx hb hml hown hts hV hK hM hS (As := [.int p1]) (rest := [.int 0, .ref a2]) (x_X8_count G hG l hfl a0 h0 p1 M hj e1) w_X8_count (tk_917 hts) (c_9 h0) rfl rfl ⟨⟨rfl, rfl⟩, Nat.le_of_ble_eq_true rfl, Nat.le_of_ble_eq_true rfl⟩ ⟨Nat.le_of_ble_eq_true rfl, Nat.le_of_ble_eq_true rfl⟩ rfl hl.1 rfl (Nat.le_of_ble_eq_true rfl) dL_count_4 (fun ce q9 H locs hM hS hq9 hv9 hcl9 => ?_)
    by_cases g2 : j = 2
    · subst g2
      refine vx_catch hown [] ⟨0, 9, 12, 15⟩ [] (by rw [ht]; rfl) (fun z hz => nomatch hz) (by decide) (by decide) (tk_566 hts) (tk_649 hts) hq9 hv9 hcl9 ?_
      refine lv_astore_n (lv' := [(3, .ref q9), (0, .ref a0), (1, .int p1), (2, .ref a2)]) hx hb dL_count_12 rfl hl (by decide) rfl (fun ls hl => ?_)
      refine lv_iconst (v := 1) hx hb dL_count_13 (by decide) ?_
      have hr2 : r = 1 := hr1
      subst hr2
      exact e_w hx hb hr hlocks hM hS (Nat.le_refl _) (Nat.le_refl _) dL_count_14
    exact absurd (show hs_L_count j = 0 by simp [hs_L_count, g2]) hj2
  · subst hr1
    refine c_Vi hx hb hml hown hts hV hK hM hS (As := [.int p1]) (rest := [.int 0, .ref a2]) (k_X8_count G hG l a0 h0 p1 M e1) w_X8_count (tk_917 hts) (c_9 h0) rfl rfl ⟨⟨rfl, rfl⟩, Nat.le_of_ble_eq_true rfl, Nat.le_of_ble_eq_true rfl⟩ ⟨Nat.zero_le _, Nat.zero_le _⟩ rfl hl.1 rfl (Nat.le_of_ble_eq_true rfl) dL_count_4 (fun H locs hM hS => ?_)
    refine lv_i2l hx hb dL_count_7 rfl ?_
    refine s_last hx hb hK hM hS h2 (ky_b hG h2) (by decide) dL_count_8 (fun H locs hM hS => ?_)
    refine lv_goto (tgt := 15) hx hb dL_count_9 (by decide) ?_
    refine lv_iconst (v := 0) hx hb dL_count_15 (by decide) ?_
    subst hM1
    exact e_w hx hb hr hlocks hM hS (Nat.zero_le _) (Nat.zero_le _) dL_count_16
def hs_L_setting : Nat → Nat := fun j => if j = 1 then 1 else 0
def f_L_setting (a0 : Nat) (p1 : Int32) (a2 : Nat) (M : Mem) : Option (Int32 × Mem) := wb (f_X8_setting a0 p1 M) hs_L_setting (fun r N => sJ N a2 r.toInt64)
set_option maxHeartbeats 4000000 in
set_option maxRecDepth 100000 in
theorem k_L_setting (G : Gt) (hG : gOK G) (hN0 : gNc G) (l : Launch) (hfl : l.stackTraces = false) (a0 : Nat) (h0 : gK G a0 = 9) (p1 : Int32) (a2 : Nat) (h2 : gK G a2 = 9001) (M : Mem) {r : Int32} {M' : Mem} (hf : f_L_setting a0 p1 a2 M = some (r, M')) : Kw G l yL_setting cL_setting 4 [(0, 9, 12, 13)] ({ frames := 8, cells := 1, slots := 6, locals := 123 } : Room) [.ref a0, .int p1, .ref a2] M r M' := by
  refine startW (by decide) (Nat.le_of_ble_eq_true rfl) ?_
  intro p e s m args below meth c ls hx hb hr hown hml hlocks hts hV hM hl ht
  have hown : s.vm.findClass "FoldedVoicesLaw" = some m.cls := hown
  have hK := hG.1.moved hV
  have hS : va_S (gA G) s.heap s.heap [] := va_S.rf
  have hl : lv_has ls 4 [(0, .ref a0), (1, .int p1), (2, .ref a2)] := hl
  have hN : gNc G := hN0
  refine lv_aload_n hx hb dL_setting_0 rfl (lv_at hl 2 rfl) ?_
  refine lv_iconst (v := 0) hx hb dL_setting_1 (by decide) ?_
  refine lv_aload_n hx hb dL_setting_2 rfl (lv_at hl 0 rfl) ?_
  refine lv_iload_n hx hb dL_setting_3 rfl (lv_at hl 1 rfl) ?_
  rcases wb_e hf with ⟨j, x, hj, e1, hj2, hr1⟩ | ⟨x, N, e1, hr1, hM1⟩
  · refine c_Vx hx hb hml hown hts hV hK hM hS (As := [.int p1]) (rest := [.int 0, .ref a2]) (x_X8_setting G hG l hfl a0 h0 p1 M hj e1) w_X8_setting (tk_924 hts) (c_9 h0) rfl rfl ⟨⟨rfl, rfl⟩, Nat.le_of_ble_eq_true rfl, Nat.le_of_ble_eq_true rfl⟩ ⟨Nat.le_of_ble_eq_true rfl, Nat.le_of_ble_eq_true rfl⟩ rfl hl.1 rfl (Nat.le_of_ble_eq_true rfl) dL_setting_4 (fun ce q9 H locs hM hS hq9 hv9 hcl9 => ?_)
    by_cases g1 : j = 1
    · subst g1
      refine vx_catch hown [] ⟨0, 9, 12, 13⟩ [] (by rw [ht]; rfl) (fun z hz => nomatch hz) (by decide) (by decide) (tk_565 hts) (tk_578 hts) hq9 hv9 hcl9 ?_
      refine lv_astore_n (lv' := [(3, .ref q9), (0, .ref a0), (1, .int p1), (2, .ref a2)]) hx hb dL_setting_12 rfl hl (by decide) rfl (fun ls hl => ?_)
      refine lv_iconst (v := 1) hx hb dL_setting_13 (by decide) ?_
      have hr2 : r = 1 := hr1
      subst hr2
      exact e_w hx hb hr hlocks hM hS (Nat.le_refl _) (Nat.le_refl _) dL_setting_14
    exact absurd (show hs_L_setting j = 0 by simp [hs_L_setting, g1]) hj2
  · subst hr1
    refine c_Vi hx hb hml hown hts hV hK hM hS (As := [.int p1]) (rest := [.int 0, .ref a2]) (k_X8_setting G hG l a0 h0 p1 M e1) w_X8_setting (tk_924 hts) (c_9 h0) rfl rfl ⟨⟨rfl, rfl⟩, Nat.le_of_ble_eq_true rfl, Nat.le_of_ble_eq_true rfl⟩ ⟨Nat.zero_le _, Nat.zero_le _⟩ rfl hl.1 rfl (Nat.le_of_ble_eq_true rfl) dL_setting_4 (fun H locs hM hS => ?_)
    refine lv_i2l hx hb dL_setting_7 rfl ?_
    refine s_last hx hb hK hM hS h2 (ky_b hG h2) (by decide) dL_setting_8 (fun H locs hM hS => ?_)
    refine lv_goto (tgt := 15) hx hb dL_setting_9 (by decide) ?_
    refine lv_iconst (v := 0) hx hb dL_setting_15 (by decide) ?_
    subst hM1
    exact e_w hx hb hr hlocks hM hS (Nat.zero_le _) (Nat.zero_le _) dL_setting_16
def hs_L_code : Nat → Nat := fun j => if j = 1 then 1 else if j = 2 then 2 else 0
def f_L_code (a0 : Nat) (p1 : Int32) (p2 : Int32) (p3 : Int32) (a4 : Nat) (M : Mem) : Option (Int32 × Mem) := wb (f_X8_code a0 p1 p2 p3 M) hs_L_code (fun r N => sJ N a4 r.toInt64)
set_option maxHeartbeats 4000000 in
set_option maxRecDepth 100000 in
theorem k_L_code (G : Gt) (hG : gOK G) (hN0 : gNc G) (l : Launch) (hfl : l.stackTraces = false) (a0 : Nat) (h0 : gK G a0 = 9) (p1 : Int32) (p2 : Int32) (p3 : Int32) (a4 : Nat) (h4 : gK G a4 = 9001) (M : Mem) {r : Int32} {M' : Mem} (hf : f_L_code a0 p1 p2 p3 a4 M = some (r, M')) : Kw G l yL_code cL_code 6 [(0, 12, 15, 13), (0, 12, 19, 15)] ({ frames := 8, cells := 1, slots := 6, locals := 127 } : Room) [.ref a0, .int p1, .int p2, .int p3, .ref a4] M r M' := by
  refine startW (by decide) (Nat.le_of_ble_eq_true rfl) ?_
  intro p e s m args below meth c ls hx hb hr hown hml hlocks hts hV hM hl ht
  have hown : s.vm.findClass "FoldedVoicesLaw" = some m.cls := hown
  have hK := hG.1.moved hV
  have hS : va_S (gA G) s.heap s.heap [] := va_S.rf
  have hl : lv_has ls 6 [(0, .ref a0), (1, .int p1), (2, .int p2), (3, .int p3), (4, .ref a4)] := hl
  have hN : gNc G := hN0
  refine lv_aload hx hb dL_code_0 (lv_at hl 4 rfl) ?_
  refine lv_iconst (v := 0) hx hb dL_code_2 (by decide) ?_
  refine lv_aload_n hx hb dL_code_3 rfl (lv_at hl 0 rfl) ?_
  refine lv_iload_n hx hb dL_code_4 rfl (lv_at hl 1 rfl) ?_
  refine lv_iload_n hx hb dL_code_5 rfl (lv_at hl 2 rfl) ?_
  refine lv_iload_n hx hb dL_code_6 rfl (lv_at hl 3 rfl) ?_
  rcases wb_e hf with ⟨j, x, hj, e1, hj2, hr1⟩ | ⟨x, N, e1, hr1, hM1⟩
  · refine c_Vx hx hb hml hown hts hV hK hM hS (As := [.int p1, .int p2, .int p3]) (rest := [.int 0, .ref a4]) (x_X8_code G hG l hfl a0 h0 p1 p2 p3 M hj e1) w_X8_code (tk_931 hts) (c_9 h0) rfl rfl ⟨⟨rfl, rfl⟩, Nat.le_of_ble_eq_true rfl, Nat.le_of_ble_eq_true rfl⟩ ⟨Nat.le_of_ble_eq_true rfl, Nat.le_of_ble_eq_true rfl⟩ rfl hl.1 rfl (Nat.le_of_ble_eq_true rfl) dL_code_7 (fun ce q9 H locs hM hS hq9 hv9 hcl9 => ?_)
    by_cases g1 : j = 1
    · subst g1
      refine vx_catch hown [] ⟨0, 12, 15, 13⟩ [⟨0, 12, 19, 15⟩] (by rw [ht]; rfl) (fun z hz => nomatch hz) (by decide) (by decide) (tk_565 hts) (tk_578 hts) hq9 hv9 hcl9 ?_
      refine lv_astore (lv' := [(5, .ref q9), (0, .ref a0), (1, .int p1), (2, .int p2), (3, .int p3), (4, .ref a4)]) hx hb dL_code_15 hl (by decide) rfl (fun ls hl => ?_)
      refine lv_iconst (v := 1) hx hb dL_code_17 (by decide) ?_
      have hr2 : r = 1 := hr1
      subst hr2
      exact e_w hx hb hr hlocks hM hS (Nat.le_refl _) (Nat.le_refl _) dL_code_18
    by_cases g2 : j = 2
    · subst g2
      refine vx_catch hown [⟨0, 12, 15, 13⟩] ⟨0, 12, 19, 15⟩ [] (by rw [ht]; rfl) (List.forall_mem_cons.mpr ⟨Or.inr ⟨by decide, _, tk_565 hts, hN.1.moved hV⟩, fun z hz => nomatch hz⟩) (by decide) (by decide) (tk_566 hts) (tk_649 hts) hq9 hv9 hcl9 ?_
      refine lv_astore (lv' := [(5, .ref q9), (0, .ref a0), (1, .int p1), (2, .int p2), (3, .int p3), (4, .ref a4)]) hx hb dL_code_19 hl (by decide) rfl (fun ls hl => ?_)
      refine lv_iconst (v := 2) hx hb dL_code_21 (by decide) ?_
      have hr2 : r = 2 := hr1
      subst hr2
      exact e_w hx hb hr hlocks hM hS (Nat.le_refl _) (Nat.le_refl _) dL_code_22
    exact absurd (show hs_L_code j = 0 by simp [hs_L_code, g1, g2]) hj2
  · subst hr1
    refine c_Vi hx hb hml hown hts hV hK hM hS (As := [.int p1, .int p2, .int p3]) (rest := [.int 0, .ref a4]) (k_X8_code G hG l a0 h0 p1 p2 p3 M e1) w_X8_code (tk_931 hts) (c_9 h0) rfl rfl ⟨⟨rfl, rfl⟩, Nat.le_of_ble_eq_true rfl, Nat.le_of_ble_eq_true rfl⟩ ⟨Nat.zero_le _, Nat.zero_le _⟩ rfl hl.1 rfl (Nat.le_of_ble_eq_true rfl) dL_code_7 (fun H locs hM hS => ?_)
    refine lv_i2l hx hb dL_code_10 rfl ?_
    refine s_last hx hb hK hM hS h4 (ky_b hG h4) (by decide) dL_code_11 (fun H locs hM hS => ?_)
    refine lv_goto (tgt := 23) hx hb dL_code_12 (by decide) ?_
    refine lv_iconst (v := 0) hx hb dL_code_23 (by decide) ?_
    subst hM1
    exact e_w hx hb hr hlocks hM hS (Nat.zero_le _) (Nat.zero_le _) dL_code_24
def hs_L_settles : Nat → Nat := fun j => if j = 1 then 1 else if j = 2 then 2 else 0
def f_L_settles (a0 : Nat) (p1 : Int32) (p2 : Int32) (p3 : Int32) (a4 : Nat) (M : Mem) : Option (Int32 × Mem) := wb (f_X8_settles a0 p1 p2 p3 M) hs_L_settles (fun r N => sJ N a4 r.toInt64)
set_option maxHeartbeats 4000000 in
set_option maxRecDepth 100000 in
theorem k_L_settles (G : Gt) (hG : gOK G) (hN0 : gNc G) (l : Launch) (hfl : l.stackTraces = false) (a0 : Nat) (h0 : gK G a0 = 9) (p1 : Int32) (p2 : Int32) (p3 : Int32) (a4 : Nat) (h4 : gK G a4 = 9001) (M : Mem) {r : Int32} {M' : Mem} (hf : f_L_settles a0 p1 p2 p3 a4 M = some (r, M')) : Kw G l yL_settles cL_settles 6 [(0, 12, 15, 13), (0, 12, 19, 15)] ({ frames := 8, cells := 1, slots := 6, locals := 127 } : Room) [.ref a0, .int p1, .int p2, .int p3, .ref a4] M r M' := by
  refine startW (by decide) (Nat.le_of_ble_eq_true rfl) ?_
  intro p e s m args below meth c ls hx hb hr hown hml hlocks hts hV hM hl ht
  have hown : s.vm.findClass "FoldedVoicesLaw" = some m.cls := hown
  have hK := hG.1.moved hV
  have hS : va_S (gA G) s.heap s.heap [] := va_S.rf
  have hl : lv_has ls 6 [(0, .ref a0), (1, .int p1), (2, .int p2), (3, .int p3), (4, .ref a4)] := hl
  have hN : gNc G := hN0
  refine lv_aload hx hb dL_settles_0 (lv_at hl 4 rfl) ?_
  refine lv_iconst (v := 0) hx hb dL_settles_2 (by decide) ?_
  refine lv_aload_n hx hb dL_settles_3 rfl (lv_at hl 0 rfl) ?_
  refine lv_iload_n hx hb dL_settles_4 rfl (lv_at hl 1 rfl) ?_
  refine lv_iload_n hx hb dL_settles_5 rfl (lv_at hl 2 rfl) ?_
  refine lv_iload_n hx hb dL_settles_6 rfl (lv_at hl 3 rfl) ?_
  rcases wb_e hf with ⟨j, x, hj, e1, hj2, hr1⟩ | ⟨x, N, e1, hr1, hM1⟩
  · refine c_Vx hx hb hml hown hts hV hK hM hS (As := [.int p1, .int p2, .int p3]) (rest := [.int 0, .ref a4]) (x_X8_settles G hG l hfl a0 h0 p1 p2 p3 M hj e1) w_X8_settles (tk_938 hts) (c_9 h0) rfl rfl ⟨⟨rfl, rfl⟩, Nat.le_of_ble_eq_true rfl, Nat.le_of_ble_eq_true rfl⟩ ⟨Nat.le_of_ble_eq_true rfl, Nat.le_of_ble_eq_true rfl⟩ rfl hl.1 rfl (Nat.le_of_ble_eq_true rfl) dL_settles_7 (fun ce q9 H locs hM hS hq9 hv9 hcl9 => ?_)
    by_cases g1 : j = 1
    · subst g1
      refine vx_catch hown [] ⟨0, 12, 15, 13⟩ [⟨0, 12, 19, 15⟩] (by rw [ht]; rfl) (fun z hz => nomatch hz) (by decide) (by decide) (tk_565 hts) (tk_578 hts) hq9 hv9 hcl9 ?_
      refine lv_astore (lv' := [(5, .ref q9), (0, .ref a0), (1, .int p1), (2, .int p2), (3, .int p3), (4, .ref a4)]) hx hb dL_settles_15 hl (by decide) rfl (fun ls hl => ?_)
      refine lv_iconst (v := 1) hx hb dL_settles_17 (by decide) ?_
      have hr2 : r = 1 := hr1
      subst hr2
      exact e_w hx hb hr hlocks hM hS (Nat.le_refl _) (Nat.le_refl _) dL_settles_18
    by_cases g2 : j = 2
    · subst g2
      refine vx_catch hown [⟨0, 12, 15, 13⟩] ⟨0, 12, 19, 15⟩ [] (by rw [ht]; rfl) (List.forall_mem_cons.mpr ⟨Or.inr ⟨by decide, _, tk_565 hts, hN.1.moved hV⟩, fun z hz => nomatch hz⟩) (by decide) (by decide) (tk_566 hts) (tk_649 hts) hq9 hv9 hcl9 ?_
      refine lv_astore (lv' := [(5, .ref q9), (0, .ref a0), (1, .int p1), (2, .int p2), (3, .int p3), (4, .ref a4)]) hx hb dL_settles_19 hl (by decide) rfl (fun ls hl => ?_)
      refine lv_iconst (v := 2) hx hb dL_settles_21 (by decide) ?_
      have hr2 : r = 2 := hr1
      subst hr2
      exact e_w hx hb hr hlocks hM hS (Nat.le_refl _) (Nat.le_refl _) dL_settles_22
    exact absurd (show hs_L_settles j = 0 by simp [hs_L_settles, g1, g2]) hj2
  · subst hr1
    refine c_Vi hx hb hml hown hts hV hK hM hS (As := [.int p1, .int p2, .int p3]) (rest := [.int 0, .ref a4]) (k_X8_settles G hG l a0 h0 p1 p2 p3 M e1) w_X8_settles (tk_938 hts) (c_9 h0) rfl rfl ⟨⟨rfl, rfl⟩, Nat.le_of_ble_eq_true rfl, Nat.le_of_ble_eq_true rfl⟩ ⟨Nat.zero_le _, Nat.zero_le _⟩ rfl hl.1 rfl (Nat.le_of_ble_eq_true rfl) dL_settles_7 (fun H locs hM hS => ?_)
    refine lv_i2l hx hb dL_settles_10 rfl ?_
    refine s_last hx hb hK hM hS h4 (ky_b hG h4) (by decide) dL_settles_11 (fun H locs hM hS => ?_)
    refine lv_goto (tgt := 23) hx hb dL_settles_12 (by decide) ?_
    refine lv_iconst (v := 0) hx hb dL_settles_23 (by decide) ?_
    subst hM1
    exact e_w hx hb hr hlocks hM hS (Nat.zero_le _) (Nat.zero_le _) dL_settles_24
def hs_L_ifDelivered : Nat → Nat := fun j => if j = 1 then 1 else if j = 2 then 2 else 0
def f_L_ifDelivered (a0 : Nat) (p1 : Int32) (p2 : Int32) (a3 : Nat) (M : Mem) : Option (Int32 × Mem) := wb (f_X8_ifDelivered a0 p1 p2 M) hs_L_ifDelivered (fun r N => sJ N a3 r.toInt64)
set_option maxHeartbeats 4000000 in
set_option maxRecDepth 100000 in
theorem k_L_ifDelivered (G : Gt) (hG : gOK G) (hN0 : gNc G) (l : Launch) (hfl : l.stackTraces = false) (a0 : Nat) (h0 : gK G a0 = 9) (p1 : Int32) (p2 : Int32) (a3 : Nat) (h3 : gK G a3 = 9001) (M : Mem) {r : Int32} {M' : Mem} (hf : f_L_ifDelivered a0 p1 p2 a3 M = some (r, M')) : Kw G l yL_ifDelivered cL_ifDelivered 5 [(0, 10, 13, 13), (0, 10, 17, 15)] ({ frames := 8, cells := 1, slots := 6, locals := 158 } : Room) [.ref a0, .int p1, .int p2, .ref a3] M r M' := by
  refine startW (by decide) (Nat.le_of_ble_eq_true rfl) ?_
  intro p e s m args below meth c ls hx hb hr hown hml hlocks hts hV hM hl ht
  have hown : s.vm.findClass "FoldedVoicesLaw" = some m.cls := hown
  have hK := hG.1.moved hV
  have hS : va_S (gA G) s.heap s.heap [] := va_S.rf
  have hl : lv_has ls 5 [(0, .ref a0), (1, .int p1), (2, .int p2), (3, .ref a3)] := hl
  have hN : gNc G := hN0
  refine lv_aload_n hx hb dL_ifDelivered_0 rfl (lv_at hl 3 rfl) ?_
  refine lv_iconst (v := 0) hx hb dL_ifDelivered_1 (by decide) ?_
  refine lv_aload_n hx hb dL_ifDelivered_2 rfl (lv_at hl 0 rfl) ?_
  refine lv_iload_n hx hb dL_ifDelivered_3 rfl (lv_at hl 1 rfl) ?_
  refine lv_iload_n hx hb dL_ifDelivered_4 rfl (lv_at hl 2 rfl) ?_
  rcases wb_e hf with ⟨j, x, hj, e1, hj2, hr1⟩ | ⟨x, N, e1, hr1, hM1⟩
  · refine c_Vx hx hb hml hown hts hV hK hM hS (As := [.int p1, .int p2]) (rest := [.int 0, .ref a3]) (x_X8_ifDelivered G hG l hfl a0 h0 p1 p2 M hj e1) w_X8_ifDelivered (tk_946 hts) (c_9 h0) rfl rfl ⟨⟨rfl, rfl⟩, Nat.le_of_ble_eq_true rfl, Nat.le_of_ble_eq_true rfl⟩ ⟨Nat.le_of_ble_eq_true rfl, Nat.le_of_ble_eq_true rfl⟩ rfl hl.1 rfl (Nat.le_of_ble_eq_true rfl) dL_ifDelivered_5 (fun ce q9 H locs hM hS hq9 hv9 hcl9 => ?_)
    by_cases g1 : j = 1
    · subst g1
      refine vx_catch hown [] ⟨0, 10, 13, 13⟩ [⟨0, 10, 17, 15⟩] (by rw [ht]; rfl) (fun z hz => nomatch hz) (by decide) (by decide) (tk_565 hts) (tk_578 hts) hq9 hv9 hcl9 ?_
      refine lv_astore (lv' := [(4, .ref q9), (0, .ref a0), (1, .int p1), (2, .int p2), (3, .ref a3)]) hx hb dL_ifDelivered_13 hl (by decide) rfl (fun ls hl => ?_)
      refine lv_iconst (v := 1) hx hb dL_ifDelivered_15 (by decide) ?_
      have hr2 : r = 1 := hr1
      subst hr2
      exact e_w hx hb hr hlocks hM hS (Nat.le_refl _) (Nat.le_refl _) dL_ifDelivered_16
    by_cases g2 : j = 2
    · subst g2
      refine vx_catch hown [⟨0, 10, 13, 13⟩] ⟨0, 10, 17, 15⟩ [] (by rw [ht]; rfl) (List.forall_mem_cons.mpr ⟨Or.inr ⟨by decide, _, tk_565 hts, hN.1.moved hV⟩, fun z hz => nomatch hz⟩) (by decide) (by decide) (tk_566 hts) (tk_649 hts) hq9 hv9 hcl9 ?_
      refine lv_astore (lv' := [(4, .ref q9), (0, .ref a0), (1, .int p1), (2, .int p2), (3, .ref a3)]) hx hb dL_ifDelivered_17 hl (by decide) rfl (fun ls hl => ?_)
      refine lv_iconst (v := 2) hx hb dL_ifDelivered_19 (by decide) ?_
      have hr2 : r = 2 := hr1
      subst hr2
      exact e_w hx hb hr hlocks hM hS (Nat.le_refl _) (Nat.le_refl _) dL_ifDelivered_20
    exact absurd (show hs_L_ifDelivered j = 0 by simp [hs_L_ifDelivered, g1, g2]) hj2
  · subst hr1
    refine c_Vi hx hb hml hown hts hV hK hM hS (As := [.int p1, .int p2]) (rest := [.int 0, .ref a3]) (k_X8_ifDelivered G hG l a0 h0 p1 p2 M e1) w_X8_ifDelivered (tk_946 hts) (c_9 h0) rfl rfl ⟨⟨rfl, rfl⟩, Nat.le_of_ble_eq_true rfl, Nat.le_of_ble_eq_true rfl⟩ ⟨Nat.zero_le _, Nat.zero_le _⟩ rfl hl.1 rfl (Nat.le_of_ble_eq_true rfl) dL_ifDelivered_5 (fun H locs hM hS => ?_)
    refine lv_i2l hx hb dL_ifDelivered_8 rfl ?_
    refine s_last hx hb hK hM hS h3 (ky_b hG h3) (by decide) dL_ifDelivered_9 (fun H locs hM hS => ?_)
    refine lv_goto (tgt := 21) hx hb dL_ifDelivered_10 (by decide) ?_
    refine lv_iconst (v := 0) hx hb dL_ifDelivered_21 (by decide) ?_
    subst hM1
    exact e_w hx hb hr hlocks hM hS (Nat.zero_le _) (Nat.zero_le _) dL_ifDelivered_22
def hs_L_meanError : Nat → Nat := fun j => if j = 1 then 1 else 0
def f_L_meanError (a0 : Nat) (p1 : Int32) (a2 : Nat) (M : Mem) : Option (Int32 × Mem) := wb (f_X8_meanError a0 p1 M) hs_L_meanError (fun r N => sD N a2 r)
set_option maxHeartbeats 4000000 in
set_option maxRecDepth 100000 in
theorem k_L_meanError (G : Gt) (hG : gOK G) (hN0 : gNc G) (l : Launch) (hfl : l.stackTraces = false) (a0 : Nat) (h0 : gK G a0 = 9) (p1 : Int32) (a2 : Nat) (h2 : gK G a2 = 10001) (M : Mem) {r : Int32} {M' : Mem} (hf : f_L_meanError a0 p1 a2 M = some (r, M')) : Kw G l yL_meanError cL_meanError 4 [(0, 8, 11, 13)] ({ frames := 8, cells := 1, slots := 6, locals := 124 } : Room) [.ref a0, .int p1, .ref a2] M r M' := by
  refine startW (by decide) (Nat.le_of_ble_eq_true rfl) ?_
  intro p e s m args below meth c ls hx hb hr hown hml hlocks hts hV hM hl ht
  have hown : s.vm.findClass "FoldedVoicesLaw" = some m.cls := hown
  have hK := hG.1.moved hV
  have hS : va_S (gA G) s.heap s.heap [] := va_S.rf
  have hl : lv_has ls 4 [(0, .ref a0), (1, .int p1), (2, .ref a2)] := hl
  have hN : gNc G := hN0
  refine lv_aload_n hx hb dL_meanError_0 rfl (lv_at hl 2 rfl) ?_
  refine lv_iconst (v := 0) hx hb dL_meanError_1 (by decide) ?_
  refine lv_aload_n hx hb dL_meanError_2 rfl (lv_at hl 0 rfl) ?_
  refine lv_iload_n hx hb dL_meanError_3 rfl (lv_at hl 1 rfl) ?_
  rcases wb_e hf with ⟨j, x, hj, e1, hj2, hr1⟩ | ⟨x, N, e1, hr1, hM1⟩
  · refine c_Vx hx hb hml hown hts hV hK hM hS (As := [.int p1]) (rest := [.int 0, .ref a2]) (x_X8_meanError G hG l hfl a0 h0 p1 M hj e1) w_X8_meanError (tk_953 hts) (c_9 h0) rfl rfl ⟨⟨rfl, rfl⟩, Nat.le_of_ble_eq_true rfl, Nat.le_of_ble_eq_true rfl⟩ ⟨Nat.le_of_ble_eq_true rfl, Nat.le_of_ble_eq_true rfl⟩ rfl hl.1 rfl (Nat.le_of_ble_eq_true rfl) dL_meanError_4 (fun ce q9 H locs hM hS hq9 hv9 hcl9 => ?_)
    by_cases g1 : j = 1
    · subst g1
      refine vx_catch hown [] ⟨0, 8, 11, 13⟩ [] (by rw [ht]; rfl) (fun z hz => nomatch hz) (by decide) (by decide) (tk_565 hts) (tk_578 hts) hq9 hv9 hcl9 ?_
      refine lv_astore_n (lv' := [(3, .ref q9), (0, .ref a0), (1, .int p1), (2, .ref a2)]) hx hb dL_meanError_11 rfl hl (by decide) rfl (fun ls hl => ?_)
      refine lv_iconst (v := 1) hx hb dL_meanError_12 (by decide) ?_
      have hr2 : r = 1 := hr1
      subst hr2
      exact e_w hx hb hr hlocks hM hS (Nat.le_refl _) (Nat.le_refl _) dL_meanError_13
    exact absurd (show hs_L_meanError j = 0 by simp [hs_L_meanError, g1]) hj2
  · subst hr1
    refine c_Vd hx hb hml hown hts hV hK hM hS (As := [.int p1]) (rest := [.int 0, .ref a2]) (k_X8_meanError G hG l a0 h0 p1 M e1) w_X8_meanError (tk_953 hts) (c_9 h0) rfl rfl ⟨⟨rfl, rfl⟩, Nat.le_of_ble_eq_true rfl, Nat.le_of_ble_eq_true rfl⟩ ⟨Nat.zero_le _, Nat.zero_le _⟩ rfl hl.1 rfl (Nat.le_of_ble_eq_true rfl) dL_meanError_4 (fun H locs hM hS => ?_)
    refine s_dast hx hb hK hM hS h2 (ky_b hG h2) (by decide) dL_meanError_7 (fun H locs hM hS => ?_)
    refine lv_goto (tgt := 14) hx hb dL_meanError_8 (by decide) ?_
    refine lv_iconst (v := 0) hx hb dL_meanError_14 (by decide) ?_
    subst hM1
    exact e_w hx hb hr hlocks hM hS (Nat.zero_le _) (Nat.zero_le _) dL_meanError_15
