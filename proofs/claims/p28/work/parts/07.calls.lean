/-! puts, contracts, calls -/
section PUTS
variable {p : Program} {l : Launch} {e : Env} {R : Room} {s : State} {m : MethodId} {args : Array Value} {below : List Frame} {meth : Method} {c : Code} {H : Heap} {locs : List Loc} {cells slots : Nat} {Q : State → Prop} {cc : ByteArray} {pc : Nat} {ls : Array Slot} {rest : List Value} {G : Gt} {M : Mem} {a : Nat} {H0 : Heap}
theorem s_put {own ref C : String} {T : u_T} {N ci index : Nat} {fs : List Value} {M' : Mem} (ty0 : Nat → FieldType) (hx : p.tables.exec = Jvm.exec) (hb : c.code = cc) (hL : ∀ w ∈ u_ws C T N, w.before args s = true) (hty : ∀ k, k < N → parseFieldDescriptor (T k).2.2.1 = some (ty0 k)) (hnm : ∀ a, a < N → ∀ b, b < N → a ≠ b → (T a).2.1 ≠ (T b).2.1) (hown : s.vm.findClass own = some m.cls) (hK : va_K (gD G) vwCl (gT G) s) (hM : Mh G M H) (hS : va_S (gA G) H0 H locs) (hB : gB G ≤ a) (hc : cel G M a = some (.inr (ci, fs))) (hci : vwCl[ci]? = some (C, T, N)) (k : Nat) (hk : k < N) (hfin : (T k).2.2.2 = false) {v : Value} (hn : narrow (ty0 k) v = v) (hfit : fits (ty0 k) v = true) (hl : k < fs.length) (hc' : cel G M' a = some (.inr (ci, fs.set k v))) (hne : ∀ b, b ≠ a → cel G M' b = cel G M b) (hw : wfM G M')
    (hre : (T k).1 = ref) (hlink : (Cond.fieldLink own index ref (T k).2.1 (T k).2.2.1).before args s = true) (hdg : decode cc pc = .ok (.putfield index, 3))
    (kk : ∀ (H1 : Heap) (locs1 : List Loc), Mh G M' H1 → va_S (gA G) H0 H1 locs1 → W p l e R s m args below meth c H1 locs1 cells slots Q (F0 m (pc + 3) ls rest)) : W p l e R s m args below meth c H locs cells slots Q (F0 m pc ls (v :: .ref a :: rest)) := by
  have hap := va_apart (own := own) hL (fun _ h => h) ty0 hty hnm hK hci
  obtain ⟨r, h1, cell, q1, q2, q3, q4⟩ := hM.one hc 0 _ rfl
  have hr : r = (C, T, N) := Option.some.inj (h1.symm.trans hci)
  subst hr
  obtain ⟨hSl, hfc, kC, hkC, hkind⟩ := hK.1 ci _ hci
  obtain ⟨cf, kf, fi, f, hi, hsl⟩ := hSl k hk
  have hlay := hL _ (u_in_lay hk)
  unfold u_lay at hlay
  rw [if_neg (by rw [hfin]; decide)] at hlay
  have hst := (u_facts hfc hkC (u_lays hL (fun _ h => h) hk) hi).1
  have h6 := u_store hfc hkC hkind hlay hi (hty k hk) hn hfit
  refine W.putK hx hb (f := f) ⟨hown, hlink, ⟨_, _, _, by rw [← hre]; exact hi⟩, hst⟩ (by rw [q2]; exact h6) q1 q3 (by rw [hsl]; exact k2_hasslot (q4 k hk)) rfl rfl hdg fun H' e1 e2 e3 => ?_
  rw [hsl] at e1 ⊢
  exact kk H' _ (hM.put hc' ⟨_, hci, t_OB.to (V := updV (vp_V fs) k v) ⟨_, e1, q2, q3, t_set q4 hap hk v⟩ (fun j _ => vp_updV_set hl v j)⟩ e2 e3 hne hB hw) (hS.put e2 e3 hB)
theorem s_putN {own ref C host : String} {T : u_T} {N ci index : Nat} {fs : List Value} {M' : Mem} (ty0 : Nat → FieldType) (hx : p.tables.exec = Jvm.exec) (hb : c.code = cc) (hL : ∀ w ∈ u_ws C T N, w.before args s = true) (hty : ∀ k, k < N → parseFieldDescriptor (T k).2.2.1 = some (ty0 k)) (hnm : ∀ a, a < N → ∀ b, b < N → a ≠ b → (T a).2.1 ≠ (T b).2.1) (hown : s.vm.findClass own = some m.cls) (hK : va_K (gD G) vwCl (gT G) s) (hM : Mh G M H) (hS : va_S (gA G) H0 H locs) (hB : gB G ≤ a) (hc : cel G M a = some (.inr (ci, fs))) (hci : vwCl[ci]? = some (C, T, N)) (k : Nat) (hk : k < N) (hfin : (T k).2.2.2 = false) {v : Value} (hn : narrow (ty0 k) v = v) (hfit : fits (ty0 k) v = true) (hl : k < fs.length) (hc' : cel G M' a = some (.inr (ci, fs.set k v))) (hne : ∀ b, b ≠ a → cel G M' b = cel G M b) (hw : wfM G M')
    (hre : (T k).1 = ref) (hlink : (Cond.fieldLinkNest own index ref (T k).2.1 (T k).2.2.1 host).before args s = true) (hdg : decode cc pc = .ok (.putfield index, 3))
    (kk : ∀ (H1 : Heap) (locs1 : List Loc), Mh G M' H1 → va_S (gA G) H0 H1 locs1 → W p l e R s m args below meth c H1 locs1 cells slots Q (F0 m (pc + 3) ls rest)) : W p l e R s m args below meth c H locs cells slots Q (F0 m pc ls (v :: .ref a :: rest)) := by
  have hap := va_apart (own := own) hL (fun _ h => h) ty0 hty hnm hK hci
  obtain ⟨r, h1, cell, q1, q2, q3, q4⟩ := hM.one hc 0 _ rfl
  have hr : r = (C, T, N) := Option.some.inj (h1.symm.trans hci)
  subst hr
  obtain ⟨hSl, hfc, kC, hkC, hkind⟩ := hK.1 ci _ hci
  obtain ⟨cf, kf, fi, f, hi, hsl⟩ := hSl k hk
  have hlay := hL _ (u_in_lay hk)
  unfold u_lay at hlay
  rw [if_neg (by rw [hfin]; decide)] at hlay
  have hst := (u_facts hfc hkC (u_lays hL (fun _ h => h) hk) hi).1
  have h6 := u_store hfc hkC hkind hlay hi (hty k hk) hn hfit
  refine va_WputK hx hb (f := f) hown hlink (by rw [← hre]; exact hi) hst (by rw [q2]; exact h6) q1 q3 (by rw [hsl]; exact k2_hasslot (q4 k hk)) rfl rfl hdg fun H' e1 e2 e3 => ?_
  rw [hsl] at e1 ⊢
  exact kk H' _ (hM.put hc' ⟨_, hci, t_OB.to (V := updV (vp_V fs) k v) ⟨_, e1, q2, q3, t_set q4 hap hk v⟩ (fun j _ => vp_updV_set hl v j)⟩ e2 e3 hne hB hw) (hS.put e2 e3 hB)
end PUTS
def Pre (G : Gt) (M : Mem) (U : State) : Prop := KK U ∧ (gS G).vm.Alike U.vm ∧ Mh G M U.heap
def QV (G : Gt) (ov : Option Value) (M' : Mem) : Array Value → State → Outcome → State → Prop := fun _ st oc t => oc = .returned ov ∧ Mh G M' t.heap ∧ va_F (gA G) st t
/-- a contract: with these arguments over this memory it returns this, over that memory -/
def Kc (G : Gt) (l : Launch) (y : MethodName) (cc : ByteArray) (maxL : Nat) (ret : Option FieldType) (rm : Room) (As : List Value) (M : Mem) (ov : Option Value) (M' : Mem) : Prop :=
  Met l y [.code y cc maxL ret] rm (va_Pc As (Pre G M)) (QV G ov M') 0 0 (gA G)
theorem pre_blind {G : Gt} {M : Mem} {As : List Value} : FrameBlind (va_Pc As (Pre G M)) := fun _ _ _ _ h => ⟨h.1, h.2.1.blind, h.2.2.1, h.2.2.2⟩
theorem start {G : Gt} {l : Launch} {y : MethodName} {cc : ByteArray} {maxL : Nat} {ret : Option FieldType} {rm : Room} {As : List Value} {M M' : Mem} {ov : Option Value} (hy : plainName y.cls = true) (hlen : (lg_sl As).length ≤ maxL)
    (body : ∀ (p : Program) (e : Env) (s : State) (m : MethodId) (args : Array Value) (below : List Frame) (meth : Method) (c : Code) (ls : Array Slot), p.tables.exec = Jvm.exec → c.code = cc → meth.sig.returnType = ret → s.vm.findClass y.cls = some m.cls → c.maxLocals = maxL → meth.locks = false → KK s → (gS G).vm.Alike s.vm → Mh G M s.heap → lv_has ls maxL (lv_args 0 As) →
      W p l e rm s m args below meth c s.heap [] 0 0 (MQ below (QV G ov M') args s 0 0 (gA G)) (F0 m 0 ls [])) : Kc G l y cc maxL ret rm As M ov M' := by
  refine Met.ofW (cc := cc) (maxL := maxL) (ret := ret) hy rfl ?_
  intro p e s m args below meth c s₁ B hml hv
  obtain ⟨rfl, hts, hV, hM⟩ := hv
  have hl := lv_entry As (n := maxL) hlen
  rw [lg_entry_eq]
  exact body p e s m _ below meth c _ B.exec B.bytes B.returns (findClass_of_methodNamed B.named) hml B.notSynchronized hts hV hM hl
def pkgV (y : MethodName) (bytes : ByteArray) (maxL : Nat) (ret : Option FieldType) (n : Nat) : Prop := (Cond.code y bytes maxL ret ∈ lw_tbl ∧ Cond.initialized y.cls ∈ lw_tbl) ∧ (Cond.instanceMethod y ∈ lw_tbl ∧ Cond.selects y.cls y y ∈ lw_tbl) ∧ (y.cls ≠ "java/lang/invoke/MethodHandle" ∧ y.cls ≠ "java/lang/invoke/VarHandle") ∧ (parseMethodDescriptor y.desc).map (fun d => d.parameters.length) = some n
def pkgS (y : MethodName) (bytes : ByteArray) (maxL : Nat) (ret : Option FieldType) (n : Nat) : Prop := (Cond.code y bytes maxL ret ∈ lw_tbl ∧ Cond.initialized y.cls ∈ lw_tbl) ∧ Cond.static y ∈ lw_tbl ∧ (y.cls ≠ "java/lang/invoke/MethodHandle" ∧ y.cls ≠ "java/lang/invoke/VarHandle") ∧ (parseMethodDescriptor y.desc).map (fun d => d.parameters.length) = some n
section CALLS
variable {p : Program} {l : Launch} {e : Env} {R : Room} {s : State} {m : MethodId} {args : Array Value} {below : List Frame} {meth : Method} {c : Code} {H : Heap} {locs : List Loc} {cells slots : Nat} {Q : State → Prop} {cc : ByteArray} {pc nL : Nat} {ls : Array Slot} {rest st0 : List Value} {G : Gt} {M M1 : Mem} {H0 : Heap} {y : MethodName} {bytes : ByteArray} {maxL n idx : Nat} {ret : Option FieldType} {rm : Room} {As : List Value} {ov : Option Value} {own host : String}
theorem code_moves {w : Cond} (hw : ∀ y b k r, w = Cond.code y b k r → True) (hts : KK s) (hm : w ∈ lw_tbl) (ht : tw w = true) : ∀ w' ∈ [w], ∀ (a' : Array Value) (U : State), s.WarmedH U.vm → w'.before a' U = true := by
  intro w' h a' U hW
  rw [List.mem_singleton.mp h]
  exact tw_moves (a := #[]) hW ht (hts.1 w hm ht #[])
theorem c_go {a : Array Value} (hr : va_Run p l e R s m args below meth c H locs cells slots 0 0 (F0 m pc ls st0) rest (QV G ov M1 a) (gA G)) (hS : va_S (gA G) H0 H locs)
    (kk : ∀ (H1 : Heap) (locs1 : List Loc), Mh G M1 H1 → va_S (gA G) H0 H1 locs1 → W p l e R s m args below meth c H1 locs1 cells slots Q (F0 m (pc + 3) ls (ov.toList ++ rest))) : W p l e R s m args below meth c H locs cells slots Q (F0 m pc ls st0) := by
  intro T hT X
  obtain ⟨v, st₀, t, T', L, h0, X', hL, e1, e2, ⟨hv, hM, hz, hk⟩, st⟩ := hr T hT X
  cases hv
  rw [h0] at hz hk
  obtain ⟨t2, a1, b1⟩ := kk T'.heap (locs ++ L) (by rw [e1]; exact hM)
    ⟨Nat.le_trans hS.1 (by rw [e1]; exact hz), fun q h1 h2 => by rw [e1, hk q (Nat.lt_of_lt_of_le h1 hS.1) h2]; exact hS.2.1 q h1 h2, fun q hq => by
      rcases List.mem_append.mp hq with h | h
      · exact hS.2.2 q h
      · exact hL q h⟩ T' rfl X'
  exact ⟨t2, st t2 a1, b1⟩
theorem c_V {b ci : Nat} {fs : List Value} {q : vw_C} (hx : p.tables.exec = Jvm.exec) (hb : c.code = cc) (hml : c.maxLocals = nL) (hown : s.vm.findClass own = some m.cls) (hts : KK s) (hV : (gS G).vm.Alike s.vm) (hK : va_K (gD G) vwCl (gT G) s) (hM : Mh G M H) (hS : va_S (gA G) H0 H locs) (hk : Kc G l y bytes maxL ret rm (.ref b :: As) M ov M1) (w : pkgV y bytes maxL ret n) (hl : (Cond.methodLink own idx y).before args s = true)
    (hc : cel G M b = some (.inr (ci, fs))) (hci : vwCl[ci]? = some q) (hq : q.1 = y.cls) (hrm : (rm.cells = 0 ∧ rm.slots = 0) ∧ rm.frames + 1 ≤ R.frames ∧ 8 + (maxL + 11) + rm.locals ≤ R.locals) (hcs : cells ≤ R.cells ∧ slots ≤ R.slots) (hn : As.length = n) (hsz : ls.size = nL) (hst : st0 = As.reverse ++ .ref b :: rest) (hW : (rest.map fun v => v.category).sum ≤ 8) (hdg : decode cc pc = .ok (.invokevirtual idx, 3))
    (kk : ∀ (H1 : Heap) (locs1 : List Loc), Mh G M1 H1 → va_S (gA G) H0 H1 locs1 → W p l e R s m args below meth c H1 locs1 cells slots Q (F0 m (pc + 3) ls (ov.toList ++ rest))) : W p l e R s m args below meth c H locs cells slots Q (F0 m pc ls st0) := by
  obtain ⟨⟨w1, w2⟩, ⟨w3, w4⟩, w5, w6⟩ := w
  have hcw : CallW R s args own y.cls idx y bytes maxL ret [.code y bytes maxL ret] rm 0 0 n := by
    refine ⟨⟨hrm.1.1, hrm.1.2, hrm.2.1, hrm.2.2, code_moves (fun _ _ _ _ _ => trivial) hts w1 rfl, List.mem_singleton.mpr rfl, hts.1 _ w1 rfl _, hts.1 _ w2 rfl _, w5, fun sig h => ?_, hl⟩, hts.1 _ w3 rfl _, hts.1 _ w4 rfl _⟩
    rw [h] at w6
    exact (Option.some.inj w6).symm
  exact c_go (va_runV (Ts := []) ⟨hx, hb, hml, hown, fun _ h => absurd h List.not_mem_nil⟩ hk hcw ⟨pre_blind, by rw [← hq]; exact va_recv hK (hM.one hc) hci (q0 := 0) rfl, fun U hU hW1 => ⟨rfl, hts.moves hW1, ⟨hV.trans hW1.alike, by rw [hU]; exact hM⟩⟩⟩ rfl hn hsz hst (lv_room hW) hdg hcs) hS kk
theorem c_S (hx : p.tables.exec = Jvm.exec) (hb : c.code = cc) (hml : c.maxLocals = nL) (hown : s.vm.findClass own = some m.cls) (hts : KK s) (hV : (gS G).vm.Alike s.vm) (hM : Mh G M H) (hS : va_S (gA G) H0 H locs) (hk : Kc G l y bytes maxL ret rm As M ov M1) (w : pkgS y bytes maxL ret n) (hl : (Cond.methodLink own idx y).before args s = true)
    (hrm : (rm.cells = 0 ∧ rm.slots = 0) ∧ rm.frames + 1 ≤ R.frames ∧ 8 + (maxL + 11) + rm.locals ≤ R.locals) (hcs : cells ≤ R.cells ∧ slots ≤ R.slots) (hn : As.length = n) (hsz : ls.size = nL) (hst : st0 = As.reverse ++ rest) (hW : (rest.map fun v => v.category).sum ≤ 8) (hdg : decode cc pc = .ok (.invokestatic idx, 3))
    (kk : ∀ (H1 : Heap) (locs1 : List Loc), Mh G M1 H1 → va_S (gA G) H0 H1 locs1 → W p l e R s m args below meth c H1 locs1 cells slots Q (F0 m (pc + 3) ls (ov.toList ++ rest))) : W p l e R s m args below meth c H locs cells slots Q (F0 m pc ls st0) := by
  obtain ⟨⟨w1, w2⟩, w3, w5, w6⟩ := w
  have hcw : CallB R s args own idx y bytes maxL ret [.code y bytes maxL ret] rm 0 0 n ∧ (Cond.static y).before args s = true := by
    refine ⟨⟨hrm.1.1, hrm.1.2, hrm.2.1, hrm.2.2, code_moves (fun _ _ _ _ _ => trivial) hts w1 rfl, List.mem_singleton.mpr rfl, hts.1 _ w1 rfl _, hts.1 _ w2 rfl _, w5, fun sig h => ?_, hl⟩, hts.1 _ w3 rfl _⟩
    rw [h] at w6
    exact (Option.some.inj w6).symm
  exact c_go (va_runS (Ts := []) ⟨hx, hb, hml, hown, fun _ h => absurd h List.not_mem_nil⟩ hk hcw ⟨pre_blind, fun U hU hW1 => ⟨rfl, hts.moves hW1, ⟨hV.trans hW1.alike, by rw [hU]; exact hM⟩⟩⟩ rfl hn hsz hst (lv_room hW) hdg hcs) hS kk
theorem c_SN (hx : p.tables.exec = Jvm.exec) (hb : c.code = cc) (hml : c.maxLocals = nL) (hown : s.vm.findClass own = some m.cls) (hts : KK s) (hV : (gS G).vm.Alike s.vm) (hM : Mh G M H) (hS : va_S (gA G) H0 H locs) (hk : Kc G l y bytes maxL ret rm As M ov M1) (w : pkgS y bytes maxL ret n) (hl : (Cond.methodLinkNest own idx y host).before args s = true)
    (hrm : (rm.cells = 0 ∧ rm.slots = 0) ∧ rm.frames + 1 ≤ R.frames ∧ 8 + (maxL + 11) + rm.locals ≤ R.locals) (hcs : cells ≤ R.cells ∧ slots ≤ R.slots) (hn : As.length = n) (hsz : ls.size = nL) (hst : st0 = As.reverse ++ rest) (hW : (rest.map fun v => v.category).sum ≤ 8) (hdg : decode cc pc = .ok (.invokestatic idx, 3))
    (kk : ∀ (H1 : Heap) (locs1 : List Loc), Mh G M1 H1 → va_S (gA G) H0 H1 locs1 → W p l e R s m args below meth c H1 locs1 cells slots Q (F0 m (pc + 3) ls (ov.toList ++ rest))) : W p l e R s m args below meth c H locs cells slots Q (F0 m pc ls st0) := by
  obtain ⟨⟨w1, w2⟩, w3, w5, w6⟩ := w
  have hcw : va_CN R s args own idx y host bytes maxL ret [.code y bytes maxL ret] rm 0 0 n ∧ (Cond.static y).before args s = true ∧ True := by
    refine ⟨⟨⟨hrm.1.1, hrm.1.2, hrm.2.1, hrm.2.2, code_moves (fun _ _ _ _ _ => trivial) hts w1 rfl, List.mem_singleton.mpr rfl⟩, hts.1 _ w1 rfl _, hts.1 _ w2 rfl _, w5, fun sig h => ?_, hl⟩, hts.1 _ w3 rfl _, trivial⟩
    rw [h] at w6
    exact (Option.some.inj w6).symm
  exact c_go (va_runSN (Ts := []) ⟨hx, hb, hml, hown, fun _ h => absurd h List.not_mem_nil⟩ hk hcw ⟨pre_blind, fun U hU hW1 => ⟨rfl, hts.moves hW1, ⟨hV.trans hW1.alike, by rw [hU]; exact hM⟩⟩⟩ rfl hn hsz hst (lv_room hW) hdg hcs) hS kk
/-- the ends -/
theorem e_i {v : Int32} {M' : Mem} {H : Heap} {locs : List Loc} (hx : p.tables.exec = Jvm.exec) (hb : c.code = cc) (hr : meth.sig.returnType = some .int) (hlocks : meth.locks = false) (hM : Mh G M' H) (hS : va_S (gA G) s.heap H locs) (hdg : decode cc pc = .ok (.ireturn, 1)) : W p l e R s m args below meth c H locs 0 0 (MQ below (QV G (some (.int v)) M') args s 0 0 (gA G)) (F0 m pc ls [.int v]) :=
  W.iret hx hb hr (fun t ht _ => ⟨rfl, by rw [ht]; exact hM, hS.F ht⟩) hS.2.2 hdg hlocks
theorem e_z {v : Int32} {M' : Mem} {H : Heap} {locs : List Loc} {ty : FieldType} (hx : p.tables.exec = Jvm.exec) (hb : c.code = cc) (hr : meth.sig.returnType = some ty) (hlocks : meth.locks = false) (hM : Mh G M' H) (hS : va_S (gA G) s.heap H locs) (hn : narrow ty (.int v) = .int v) (hdg : decode cc pc = .ok (.ireturn, 1)) : W p l e R s m args below meth c H locs 0 0 (MQ below (QV G (some (.int v)) M') args s 0 0 (gA G)) (F0 m pc ls [.int v]) :=
  W.zret hx hb hr hn (fun t ht _ => ⟨rfl, by rw [ht]; exact hM, hS.F ht⟩) hS.2.2 hdg hlocks
theorem e_l {v : Int64} {M' : Mem} {H : Heap} {locs : List Loc} (hx : p.tables.exec = Jvm.exec) (hb : c.code = cc) (hr : meth.sig.returnType = some .long) (hlocks : meth.locks = false) (hM : Mh G M' H) (hS : va_S (gA G) s.heap H locs) (hdg : decode cc pc = .ok (.lreturn, 1)) : W p l e R s m args below meth c H locs 0 0 (MQ below (QV G (some (.long v)) M') args s 0 0 (gA G)) (F0 m pc ls [.long v]) :=
  W.lret hx hb hr (fun t ht _ => ⟨rfl, by rw [ht]; exact hM, hS.F ht⟩) hS.2.2 hdg hlocks
theorem e_f {v : UInt32} {M' : Mem} {H : Heap} {locs : List Loc} (hx : p.tables.exec = Jvm.exec) (hb : c.code = cc) (hr : meth.sig.returnType = some .float) (hlocks : meth.locks = false) (hM : Mh G M' H) (hS : va_S (gA G) s.heap H locs) (hdg : decode cc pc = .ok (.freturn, 1)) : W p l e R s m args below meth c H locs 0 0 (MQ below (QV G (some (.float v)) M') args s 0 0 (gA G)) (F0 m pc ls [.float v]) :=
  W.fret hx hb hr (fun t ht _ => ⟨rfl, by rw [ht]; exact hM, hS.F ht⟩) hS.2.2 hdg hlocks
theorem e_d {v : UInt64} {M' : Mem} {H : Heap} {locs : List Loc} (hx : p.tables.exec = Jvm.exec) (hb : c.code = cc) (hr : meth.sig.returnType = some .double) (hlocks : meth.locks = false) (hM : Mh G M' H) (hS : va_S (gA G) s.heap H locs) (hdg : decode cc pc = .ok (.dreturn, 1)) : W p l e R s m args below meth c H locs 0 0 (MQ below (QV G (some (.double v)) M') args s 0 0 (gA G)) (F0 m pc ls [.double v]) :=
  W.dret hx hb hr (fun t ht _ => ⟨rfl, by rw [ht]; exact hM, hS.F ht⟩) hS.2.2 hdg hlocks
theorem e_v {M' : Mem} {H : Heap} {locs : List Loc} (hx : p.tables.exec = Jvm.exec) (hb : c.code = cc) (hr : meth.sig.returnType = none) (hlocks : meth.locks = false) (hM : Mh G M' H) (hS : va_S (gA G) s.heap H locs) (hdg : decode cc pc = .ok (.return_, 1)) : W p l e R s m args below meth c H locs 0 0 (MQ below (QV G none M') args s 0 0 (gA G)) (F0 m pc ls []) :=
  W.vret hx hb hr (fun t ht _ => ⟨rfl, by rw [ht]; exact hM, hS.F ht⟩) hS.2.2 hdg hlocks
end CALLS
