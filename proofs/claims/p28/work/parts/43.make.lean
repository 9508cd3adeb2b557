/-! MAKING: constructors. The memory at the start, what is built so far, rows -/
def cINIT : Nat → Int32 := fun k => match k with
  | 0 => 1
  | 2 => 4
  | 3 => 3
  | _ => 0
/-- the memory of objects just made -/
def M0 (G : Gt) : Mem := (fun a k => if gK G a = 1004 then cINIT k else 0, fun a j => if gK G a = 6008 then a + 1 + 4 * j else a + 6 + 136 * j, fun _ => 0, fun _ => 0)
theorem m0_i {G : Gt} {a n : Nat} (h : gK G a = n) (hn : n ≠ 1004) : mI (M0 G) a = fun _ => 0 := by
  funext k
  show (if gK G a = 1004 then cINIT k else 0) = 0
  rw [h, if_neg hn]
theorem m0_s {G : Gt} {a : Nat} (h : gK G a = 1004) : mI (M0 G) a = cINIT := by
  funext k
  show (if gK G a = 1004 then cINIT k else 0) = _
  rw [if_pos h]
theorem m0_p {G : Gt} {a : Nat} (h : gK G a = 6008) (j : Nat) : mR (M0 G) a j = a + 1 + 4 * j := by
  show (if gK G a = 6008 then a + 1 + 4 * j else a + 6 + 136 * j) = _
  rw [if_pos h]
theorem m0_r {G : Gt} {a : Nat} (h : gK G a = 8006) (j : Nat) : mR (M0 G) a j = a + 6 + 136 * j := by
  show (if gK G a = 6008 then a + 1 + 4 * j else a + 6 + 136 * j) = _
  rw [if_neg (by omega)]
theorem m0_j {G : Gt} {a : Nat} : mJ (M0 G) a = 0 := rfl
/-- built from a on: j cells; those of X are as X says, the others as at the start -/
def Bd (G : Gt) (a j : Nat) (X : va_W) (H0 H : Heap) (locs : List Loc) : Prop :=
  va_P (gD G) vwCl X H ∧ va_D (fun q => a ≤ q) X ∧ H.size = a + j ∧ (∀ (q : Nat) (e : va_E), a ≤ q → q < a + j → (∀ (k : Nat) (p : Nat × va_E), X[k]? = some p → p.1 ≠ q) → cel G (M0 G) q = some e → va_at (gD G) vwCl (q, e) H) ∧ va_S (fun q => a ≤ q) H0 H locs
def AOk (U : State) : Prop := va_AO "FoldedVoices$Packet" U ∧ va_AO "FoldedVoices$Voice" U ∧ va_AO "FoldedVoices$State" U
theorem AOk.moved {u U : State} (hvm : u.vm.Alike U.vm) (h : AOk u) : AOk U := ⟨h.1.moved hvm, h.2.1.moved hvm, h.2.2.moved hvm⟩
def PreN (G : Gt) (a ci : Nat) (fs : List Value) (U : State) : Prop := KK U ∧ (gS G).vm.Alike U.vm ∧ AOk U ∧ va_at (gD G) vwCl (a, .inr (ci, fs)) U.heap ∧ U.heap.size = a + 1
def QN (G : Gt) (a n : Nat) : Array Value → State → Outcome → State → Prop := fun _ st oc t => oc = .returned none ∧ (t.heap.size = a + n ∧ ∀ (q : Nat) (e : va_E), a ≤ q → q < a + n → cel G (M0 G) q = some e → va_at (gD G) vwCl (q, e) t.heap) ∧ va_F (fun q => a ≤ q) st t
/-- a constructor: from the blank object at the heap's end on, n cells of the start's memory -/
def Kn (G : Gt) (l : Launch) (y : MethodName) (cc : ByteArray) (maxL : Nat) (rm : Room) (a ci : Nat) (fs : List Value) (n : Nat) : Prop :=
  Met l y [.code y cc maxL none] rm (va_Pc [.ref a] (PreN G a ci fs)) (QN G a n) rm.cells rm.slots (fun q => a ≤ q)
theorem preN_blind {G : Gt} {a ci : Nat} {fs : List Value} : FrameBlind (va_Pc [.ref a] (PreN G a ci fs)) := fun _ _ _ _ h => ⟨h.1, h.2.1.blind, h.2.2.1, h.2.2.2.1.moved (Vm.Alike.refl _), h.2.2.2.2⟩
theorem Bd.one {G : Gt} {a ci : Nat} {fs : List Value} {H : Heap} (h : va_at (gD G) vwCl (a, .inr (ci, fs)) H) (hz : H.size = a + 1) : Bd G a 1 [(a, .inr (ci, fs))] H H [] := by
  refine ⟨fun k q hk => ?_, ⟨fun i j p q hi hj _ => ?_, fun k q hk => ?_⟩, hz, fun q e h1 h2 h3 => absurd (show a = q by omega) (h3 0 _ rfl), va_S.rf⟩
  · match k, hk with
    | 0, hk => cases hk; exact h
    | k + 1, hk => simp at hk
  · have h1 : i < 1 := (List.getElem?_eq_some_iff.mp hi).1
    have h2 : j < 1 := (List.getElem?_eq_some_iff.mp hj).1
    omega
  · match k, hk with
    | 0, hk => cases hk; exact Nat.le_refl _
    | k + 1, hk => simp at hk
theorem startN {G : Gt} {l : Launch} {y : MethodName} {cc : ByteArray} {maxL : Nat} {rm : Room} {a ci : Nat} {fs : List Value} {n : Nat} (hy : plainName y.cls = true) (hin : y.name = "<init>") (hlen : 1 ≤ maxL)
    (body : ∀ (p : Program) (e : Env) (s : State) (m : MethodId) (args : Array Value) (below : List Frame) (meth : Method) (c : Code) (ls : Array Slot), p.tables.exec = Jvm.exec → c.code = cc → meth.sig.returnType = none → s.vm.findClass y.cls = some m.cls → c.maxLocals = maxL → meth.locks = false → meth.name = "<init>" → KK s → (gS G).vm.Alike s.vm → AOk s → Bd G a 1 [(a, .inr (ci, fs))] s.heap s.heap [] → lv_has ls maxL (lv_args 0 [.ref a]) →
      W p l e rm s m args below meth c s.heap [] 0 0 (MQ below (QN G a n) args s rm.cells rm.slots (fun q => a ≤ q)) (F0 m 0 ls [])) : Kn G l y cc maxL rm a ci fs n := by
  refine Met.ofW (cc := cc) (maxL := maxL) (ret := none) hy rfl ?_
  intro p e s m args below meth c s₁ B hml hv
  obtain ⟨rfl, hts, hV, hA, hat, hz⟩ := hv
  have hl := lv_entry [.ref a] (n := maxL) hlen
  rw [lg_entry_eq]
  exact body p e s m _ below meth c _ B.exec B.bytes B.returns (findClass_of_methodNamed B.named) hml B.notSynchronized ((name_of_methodNamed B.named B.method).1.trans hin) hts hV hA (Bd.one hat hz) hl
theorem Bd.push {G : Gt} {a j : Nat} {X : va_W} {H0 H H1 : Heap} {locs : List Loc} {e : va_E} (hB : Bd G a j X H0 H locs) (he : va_at (gD G) vwCl (a + j, e) H1) (hz : H1.size = H.size + 1) (ho : ∀ q : Nat, q < H.size → H1[q]? = H[q]?) : Bd G a (j + 1) (X ++ [(a + j, e)]) H0 H1 locs := by
  obtain ⟨hP, hD, hs, hm, hS⟩ := hB
  have hk : ∀ (k : Nat) (x : Nat × va_E), X[k]? = some x → H1[x.1]? = H[x.1]? := fun k x hx => ho x.1 ((hP k x hx).lt)
  refine ⟨(hP.kept hk).app (fun k x hx => ?_), hD.push hP hs.symm (Nat.le_add_right _ _), by omega, fun q e1 h1 h2 h3 h4 => ?_, ⟨Nat.le_trans hS.1 (by omega), fun x h1 h2 => (ho x (Nat.lt_of_lt_of_le h1 hS.1)).trans (hS.2.1 x h1 h2), hS.2.2⟩⟩
  · have hz : k < 1 := (List.getElem?_eq_some_iff.mp hx).1
    rw [show k = 0 by omega] at hx
    cases hx
    exact he
  · have hne : q ≠ a + j := fun h => h3 X.length (a + j, e) (by simp) h.symm
    refine (hm q e1 h1 (by omega) (fun k p hp => h3 k p ?_) h4).kept (ho q (by omega))
    rw [List.getElem?_append_left (List.getElem?_eq_some_iff.mp hp).1]
    exact hp
theorem Bd.set {G : Gt} {a j : Nat} {X : va_W} {H0 H H1 : Heap} {locs : List Loc} {b k q0 : Nat} {e0 e : va_E} (hB : Bd G a j X H0 H locs) (hx : X[q0]? = some (b, e0)) (he : va_at (gD G) vwCl (b, e) H1) (hz : H1.size = H.size) (ho : ∀ q : Nat, q ≠ b → H1[q]? = H[q]?) : Bd G a j (X.set q0 (b, e)) H0 H1 (locs ++ [⟨b, k⟩]) := by
  obtain ⟨hP, hD, hs, hm, hS⟩ := hB
  have hl := (List.getElem?_eq_some_iff.mp hx).1
  refine ⟨hP.set hD hx he ho, hD.set hx, by omega, fun q e1 h1 h2 h3 h4 => ?_, hS.put hz ho (hD.2 q0 _ hx)⟩
  have hne : q ≠ b := fun h => h3 q0 (b, e) (by rw [List.getElem?_set_self hl]) h.symm
  refine (hm q e1 h1 h2 (fun k p hp => ?_) h4).kept (ho q hne)
  by_cases hkq : k = q0
  · subst hkq
    rw [hx] at hp
    cases hp
    exact fun h => hne h.symm
  · exact h3 k p (by rw [List.getElem?_set_ne (Ne.symm hkq)]; exact hp)
theorem Bd.done {G : Gt} {a n : Nat} {X : va_W} {H0 H : Heap} {locs : List Loc} (hB : Bd G a n X H0 H locs) (hf : ∀ p ∈ X, ∀ (e : va_E) (H : Heap), cel G (M0 G) p.1 = some e → va_at (gD G) vwCl p H → va_at (gD G) vwCl (p.1, e) H) (q : Nat) (e : va_E) (h1 : a ≤ q) (h2 : q < a + n) (h3 : cel G (M0 G) q = some e) : va_at (gD G) vwCl (q, e) H := by
  by_cases hq : ∃ p ∈ X, p.1 = q
  · obtain ⟨p, hp, rfl⟩ := hq
    obtain ⟨k, hk⟩ := List.getElem?_of_mem hp
    exact hf p hp e H h3 (hB.1 k p hk)
  · exact hB.2.2.2.1 q e h1 h2 (fun k p hk h => hq ⟨p, List.mem_of_getElem? hk, h⟩) h3
theorem fin_eq {G : Gt} {p : Nat × va_E} {e : va_E} {H : Heap} (h1 : cel G (M0 G) p.1 = some p.2) (h : cel G (M0 G) p.1 = some e) (h2 : va_at (gD G) vwCl p H) : va_at (gD G) vwCl (p.1, e) H := by
  rw [h1] at h
  cases h
  exact h2
theorem fin_arr {G : Gt} {q n : Nat} {cA : ClassId} {f g : Nat → Option Nat} {e : va_E} {H : Heap} (h1 : cel G (M0 G) q = some (.inl (cA, n, .inr (.inr (.inr (.inr g)))))) (hfg : ∀ j, j < n → f j = g j) (h : cel G (M0 G) q = some e) (h2 : va_at (gD G) vwCl (q, .inl (cA, n, .inr (.inr (.inr (.inr f))))) H) : va_at (gD G) vwCl (q, e) H := by
  rw [h1] at h
  cases h
  have hcell : vp_cell cA (n, .inr (.inr (.inr (.inr g)))) = vp_cell cA (n, .inr (.inr (.inr (.inr f)))) := by
    rw [vp_cell_q, vp_cell_q]
    unfold arrV
    congr 1
    congr 1
    funext j
    show va_rf (g j.val) = va_rf (f j.val)
    rw [hfg j.val j.isLt]
  show H[q]? = some (vp_cell _ _)
  rw [hcell]
  exact h2
theorem fin_int {G : Gt} {q n : Nat} {cA : ClassId} {f g : Nat → Int32} {e : va_E} {H : Heap} (h1 : cel G (M0 G) q = some (.inl (cA, n, .inl g))) (hfg : ∀ j, j < n → f j = g j) (h : cel G (M0 G) q = some e) (h2 : va_at (gD G) vwCl (q, .inl (cA, n, .inl f)) H) : va_at (gD G) vwCl (q, e) H := by
  rw [h1] at h
  cases h
  have hcell : vp_cell cA (n, .inl g) = vp_cell cA (n, .inl f) := by
    rw [vp_cell_i, vp_cell_i]
    unfold arrV
    congr 1
    congr 1
    funext j
    show Value.int (g j.val) = Value.int (f j.val)
    rw [hfg j.val j.isLt]
  show H[q]? = some (vp_cell _ _)
  rw [hcell]
  exact h2
section MAKE
variable {p : Program} {l : Launch} {e : Env} {R : Room} {s : State} {m : MethodId} {args : Array Value} {below : List Frame} {meth : Method} {c : Code} {H : Heap} {locs : List Loc} {cells slots : Nat} {Q : State → Prop} {cc : ByteArray} {pc nL : Nat} {ls : Array Slot} {rest : List Value} {G : Gt} {a j b : Nat} {X : va_W} {H0 : Heap}
theorem b_init {own : String} {idx : Nat} (hx : p.tables.exec = Jvm.exec) (hb : c.code = cc) (hml : c.maxLocals = nL) (hown : s.vm.findClass own = some m.cls) (hlink : (Cond.methodLink own idx Lib.objectInit).before args s = true) (hinst : (Cond.instanceMethod Lib.objectInit).before args s = true) (hcode : (Cond.code Lib.objectInit ⟨#[0xb1]⟩ 1 none).before args s = true) (hsz : ls.size = nL) (hfr : 1 ≤ R.frames) (hlo : 12 ≤ R.locals) (hdg : decode cc pc = .ok (.invokespecial idx, 3))
    (kk : W p l e R s m args below meth c H locs cells slots Q (F0 m (pc + 3) ls [])) : W p l e R s m args below meth c H locs cells slots Q (F0 m pc ls [.ref b]) :=
  W.objInit hx hb hown hlink hinst hcode rfl (hsz.trans hml.symm) rfl hdg hfr (by show 2 * 0 + 0 + 12 ≤ _; omega) kk
theorem b_arr {atype : ArrayType} {ty : FieldType} {cI : ClassId} (hty : newarray.typeOf atype = ty) (hd : defaultValue ty = .int 0) (hx : p.tables.exec = Jvm.exec) (hb : c.code = cc) (harr : (Cond.arrayClass ty).before args s = true) (hcI : s.vm.findClass ("[" ++ ty.toString) = some cI) (hB : Bd G a j X H0 H locs) {n : Int32} {N : Nat} (hn : ¬ n < 0) (hN : n.toNatClampNeg = N) (hbytes : N * componentBytes ty ≤ 536870912) (hcells : cells + 1 ≤ R.cells) (hslots : slots + N ≤ R.slots) (hdg : decode cc pc = .ok (.newarray atype, 2))
    (kk : ∀ (H1 : Heap), Bd G a (j + 1) (X ++ [(a + j, .inl (cI, N, .inl fun _ => 0))]) H0 H1 locs → W p l e R s m args below meth c H1 locs (cells + 1) (slots + N) Q (F0 m (pc + 2) ls (.ref (a + j) :: rest))) : W p l e R s m args below meth c H locs cells slots Q (F0 m pc ls (.int n :: rest)) := by
  subst hty
  refine va_newaK hx hb harr rfl hdg rfl hn hN hbytes hcells hslots hB.2.2.1 fun H1 cA e1 z1 o1 hAr hNm => ?_
  have hc : cA = cI := Option.some.inj (hNm.symm.trans hcI)
  subst hc
  refine kk H1 (hB.push ?_ (by rw [z1, hB.2.2.1]) (fun q hq => o1 q (by rw [← hB.2.2.1]; exact hq)))
  show H1[a + j]? = some (vp_cell _ _)
  rw [vp_cell_i, e1, hd]
theorem b_anew {own C : String} {index : Nat} {cI : ClassId} (hx : p.tables.exec = Jvm.exec) (hb : c.code = cc) (hown : s.vm.findClass own = some m.cls) (hclink : (Cond.classLink own index C).before args s = true) (hover : va_AO C s) (hcI : s.vm.findClass ("[" ++ (FieldType.object C).toString) = some cI) (hB : Bd G a j X H0 H locs) {n : Int32} {N : Nat} (hn : ¬ n < 0) (hN : n.toNatClampNeg = N) (hbytes : N * 4 ≤ 536870912) (hcells : cells + 1 ≤ R.cells) (hslots : slots + N ≤ R.slots) (hdg : decode cc pc = .ok (.anewarray index, 3))
    (kk : ∀ (H1 : Heap), Bd G a (j + 1) (X ++ [(a + j, .inl (cI, N, .inr (.inr (.inr (.inr fun _ => none)))))]) H0 H1 locs → W p l e R s m args below meth c H1 locs (cells + 1) (slots + N) Q (F0 m (pc + 3) ls (.ref (a + j) :: rest))) : W p l e R s m args below meth c H locs cells slots Q (F0 m pc ls (.int n :: rest)) := by
  subst hN
  refine W.anew hx hb hown hclink (va_AO.use hover) rfl hdg rfl hn hbytes hcells hslots fun cA kA comp f1 f2 f3 f4 => ?_
  have hc : cA = cI := Option.some.inj (f1.symm.trans hcI)
  subst hc
  generalize hH1 : H.push ({ cls := cA, slots := Array.replicate n.toNatClampNeg .null, vm := .none } : Cell) = H1
  have z1 : H1.size = H.size + 1 := by rw [← hH1, Array.size_push]
  have e1 : H1[H.size]? = some (arrV cA n.toNatClampNeg (fun _ => .null)) := by rw [← hH1, Array.getElem?_push_size, ← arrV_new]
  have o1 : ∀ q : Nat, q < H.size → H1[q]? = H[q]? := fun q hq => by rw [← hH1, Array.getElem?_push, if_neg (Nat.ne_of_lt hq)]
  have hz := hB.2.2.1
  rw [hz] at e1 ⊢
  refine kk H1 (hB.push ?_ z1 o1)
  show H1[a + j]? = some (vp_cell _ _)
  rw [vp_cell_q, e1]
  rfl
theorem b_put {own ref C : String} {T : u_T} {N ci index : Nat} {fs : List Value} (ty0 : Nat → FieldType) (hx : p.tables.exec = Jvm.exec) (hb : c.code = cc) (hL : ∀ w ∈ u_ws C T N, w.before args s = true) (hty : ∀ k, k < N → parseFieldDescriptor (T k).2.2.1 = some (ty0 k)) (hnm : ∀ a, a < N → ∀ b, b < N → a ≠ b → (T a).2.1 ≠ (T b).2.1) (hown : s.vm.findClass own = some m.cls) (hK : va_K (gD G) vwCl (gT G) s) (hin2 : meth.name = "<init>") (hB : Bd G a j X H0 H locs) (q0 : Nat) (hX : X[q0]? = some (b, .inr (ci, fs))) (hci : vwCl[ci]? = some (C, T, N)) (k : Nat) (hk : k < N) (hfin : (T k).2.2.2 = true) (hdecl : (T k).1 = own) {v : Value} (hn : narrow (ty0 k) v = v) (hfit : fits (ty0 k) v = true) (hl : k < fs.length)
    (hre : (T k).1 = ref) (hlink : (Cond.fieldLink own index ref (T k).2.1 (T k).2.2.1).before args s = true) (hdg : decode cc pc = .ok (.putfield index, 3))
    (kk : ∀ (H1 : Heap) (locs1 : List Loc), Bd G a j (X.set q0 (b, .inr (ci, fs.set k v))) H0 H1 locs1 → W p l e R s m args below meth c H1 locs1 cells slots Q (F0 m (pc + 3) ls rest)) : W p l e R s m args below meth c H locs cells slots Q (F0 m pc ls (v :: .ref b :: rest)) := by
  have hap := va_apart (own := own) hL (fun _ h => h) ty0 hty hnm hK hci
  obtain ⟨r, h1, cell, q1, q2, q3, q4⟩ := hB.1 q0 _ hX
  have hr : r = (C, T, N) := Option.some.inj (h1.symm.trans hci)
  subst hr
  obtain ⟨hSl, hfc, kC, hkC, hkind⟩ := hK.1 ci _ hci
  obtain ⟨cf, kf, fi, f, hi, hsl⟩ := hSl k hk
  have hlay := hL _ (u_in_lay hk)
  unfold u_lay at hlay
  rw [if_pos hfin] at hlay
  have hst := (u_facts hfc hkC (u_lays hL (fun _ h => h) hk) hi).1
  have hcf : m.cls = cf := by
    obtain ⟨_, _, c', _, _, _, -, -, hf', -, -, -, hown2, -⟩ := Cond.laysFinal_spec hlay
    have e1 : c' = cf := by have := hi.symm.trans hf'; simp at this; exact this.1.symm
    rw [hdecl] at hown2
    rw [← e1]; exact Option.some.inj (hown.symm.trans hown2)
  have h6 := u_fits hfc hkC hkind (Or.inr hlay) hi (hty k hk) hn hfit
  refine W.putFinK hx hb hown hlink (by rw [← hre]; exact hi) hst hcf hin2 (by rw [q2]; exact h6) q1 q3 (by rw [hsl]; exact k2_hasslot (q4 k hk)) rfl rfl hdg fun H' e1 e2 e3 => ?_
  rw [hsl] at e1 ⊢
  exact kk H' _ (hB.set hX ⟨_, hci, t_OB.to (V := updV (vp_V fs) k v) ⟨_, e1, q2, q3, t_set q4 hap hk v⟩ (fun j _ => vp_updV_set hl v j)⟩ e2 e3)
theorem b_ist {t0 n : Nat} {cA : ClassId} {f : Nat → Int32} (hx : p.tables.exec = Jvm.exec) (hb : c.code = cc) (hK : va_K (gD G) vwCl (gT G) s) (hB : Bd G a j X H0 H locs) (q0 : Nat) (hX : X[q0]? = some (b, .inl (cA, n, .inl f))) (ht : (gT G)[t0]? = some (cA, .int)) {i x : Int32} (hi : ix i n) (hdg : decode cc pc = .ok (.iastore, 1))
    (kk : ∀ (H1 : Heap) (locs1 : List Loc), Bd G a j (X.set q0 (b, .inl (cA, n, .inl (upd f i.toNatClampNeg x)))) H0 H1 locs1 → W p l e R s m args below meth c H1 locs1 cells slots Q (F0 m (pc + 1) ls rest)) : W p l e R s m args below meth c H locs cells slots Q (F0 m pc ls (.int x :: .int i :: .ref b :: rest)) := by
  refine W.iast hx hb (hB.1 q0 _ hX) ((hK.2 t0 _ ht).1 n (fun j => .int (f j))) (fun q => by cases q) (by show ¬ (i < 0 ∨ (arrV _ _ _).slots.size ≤ _); rw [arrV_size]; exact hi) rfl rfl hdg fun H1 e z oq => ?_
  refine kk H1 _ (hB.set hX ?_ z oq)
  show H1[b]? = some (vp_cell _ _)
  rw [e, vp_cell_i, vp_cell_i, arrV_store]
  congr 2
  funext q
  by_cases hq : q = i.toNatClampNeg
  · subst hq; simp [updV, upd]
  · simp [updV, upd, hq]
theorem b_aast {t0 n ci v : Nat} {cA : ClassId} {r : vw_C} {vs : List Value} {f : Nat → Option Nat} (hx : p.tables.exec = Jvm.exec) (hb : c.code = cc) (hK : va_K (gD G) vwCl (gT G) s) (hB : Bd G a j X H0 H locs) (q0 : Nat) (hX : X[q0]? = some (b, .inl (cA, n, .inr (.inr (.inr (.inr f)))))) (ht : (gT G)[t0]? = some (cA, .object r.1)) (hv : cel G (M0 G) v = some (.inr (ci, vs))) (h1 : a ≤ v) (h2 : v < a + j) (h3 : ∀ (k : Nat) (p : Nat × va_E), X[k]? = some p → p.1 ≠ v) (hc : vwCl[ci]? = some r) {i : Int32} (hi : ix i n) (hdg : decode cc pc = .ok (.aastore, 1))
    (kk : ∀ (H1 : Heap) (locs1 : List Loc), Bd G a j (X.set q0 (b, .inl (cA, n, .inr (.inr (.inr (.inr (va_up f i.toNatClampNeg (some v)))))))) H0 H1 locs1 → W p l e R s m args below meth c H1 locs1 cells slots Q (F0 m (pc + 1) ls rest)) : W p l e R s m args below meth c H locs cells slots Q (F0 m pc ls (.ref v :: .int i :: .ref b :: rest)) := by
  have hlt : i.toNatClampNeg < n := Nat.not_le.mp fun q => hi (Or.inr q)
  have h0 : ¬ i < 0 := fun q => hi (Or.inl q)
  obtain ⟨r', hr', cellV, g1, g2, g3, -⟩ := hB.2.2.2.1 v _ h1 h2 h3 hv
  have hcls := (hK.1 ci r hc).2
  obtain ⟨kA, comp, k1, k2, k3, -⟩ := (hK.2 t0 _ ht).2
  have hcomp : comp = (gD G).1 ci := Option.some.inj (k3.symm.trans hcls.1)
  subst hcomp
  obtain ⟨kC, hkC, -⟩ := hcls.2
  refine W.aast hx hb (hB.1 q0 _ hX) (fun q h => by cases h) (fun h => by cases h) k1 k2 rfl hkC ⟨h0, by show _ < (arrV _ _ _).slots.size; rw [arrV_size]; exact hlt⟩ g1 (fun q h => by rw [g3] at h; cases h) (by rw [g2]; exact hkC) (by rw [g2]; exact va_assign hcls) rfl rfl hdg fun H1 e z oq => ?_
  refine kk H1 _ (hB.set hX ?_ z oq)
  show H1[b]? = some (vp_cell _ _)
  rw [e]
  rw [vp_cell_q, vp_cell_q, arrV_store]
  congr 2
  funext q
  by_cases hq : q = i.toNatClampNeg
  · subst hq
    simp [updV, va_up, va_rf]
  · simp [updV, va_up, hq]
/-- what a constructor's call leaves -/
theorem b_back {n mc ms : Nat} {st0 : List Value} {H1 : Heap} {x : Array Value} (hz : H1.size = a + j + 1) (ho : ∀ q : Nat, q < a + j → H1[q]? = H[q]?) (hB : Bd G a j X H0 H locs) (hn : 1 ≤ n) (hr : va_Run p l e R s m args below meth c H1 locs cells slots mc ms (F0 m pc ls st0) rest (QN G (a + j) n x) (fun q => a + j ≤ q))
    (kk : ∀ (H2 : Heap) (locs1 : List Loc), Bd G a (j + n) X H0 H2 locs1 → W p l e R s m args below meth c H2 locs1 (cells + mc) (slots + ms) Q (F0 m (pc + 3) ls rest)) : W p l e R s m args below meth c H1 locs cells slots Q (F0 m pc ls st0) := by
  obtain ⟨hP, hD, hs, hm, hS⟩ := hB
  intro T hT Xs
  obtain ⟨v, st₀, t, T', L, h0, X', hL, e1, e2, ⟨hv, ⟨hz2, hM⟩, -, hk⟩, st⟩ := hr T hT Xs
  cases hv
  rw [h0] at hk
  have hold : ∀ q : Nat, q < a + j → T'.heap[q]? = H[q]? := fun q hq => by rw [e1, hk q (by omega) (by omega)]; exact ho q hq
  have hsz : T'.heap.size = a + (j + n) := by rw [e1, hz2]; omega
  have hm2 : ∀ (q : Nat) (e3 : va_E), a ≤ q → q < a + (j + n) → (∀ (k : Nat) (p : Nat × va_E), X[k]? = some p → p.1 ≠ q) → cel G (M0 G) q = some e3 → va_at (gD G) vwCl (q, e3) T'.heap := fun q e3 h1 h2 h3 h4 => by
    by_cases hq : q < a + j
    · exact (hm q e3 h1 hq h3 h4).kept (hold q hq)
    · rw [e1]
      exact hM q e3 (by omega) (by omega) h4
  obtain ⟨t2, a1, b1⟩ := kk T'.heap (locs ++ L) ⟨hP.kept (fun k x hx => hold x.1 (by have := (hP k x hx).lt; omega)), hD, hsz, hm2, ⟨Nat.le_trans hS.1 (by omega), fun q h1 h2 => (hold q (by have := hS.1; omega)).trans (hS.2.1 q h1 h2), fun q hq => by
      rcases List.mem_append.mp hq with h | h
      · exact hS.2.2 q h
      · exact Nat.le_trans (Nat.le_add_right _ _) (hL q h)⟩⟩ T' rfl X'
  exact ⟨t2, st t2 a1, b1⟩
def pkgN (y : MethodName) (bytes : ByteArray) (maxL : Nat) (N : Nat) : Prop := (Cond.code y bytes maxL none ∈ lw_tbl ∧ Cond.initialized y.cls ∈ lw_tbl) ∧ (Cond.instanceMethod y ∈ lw_tbl ∧ Cond.instantiable y.cls N ∈ lw_tbl) ∧ (y.cls ≠ "java/lang/invoke/MethodHandle" ∧ y.cls ≠ "java/lang/invoke/VarHandle") ∧ (parseMethodDescriptor y.desc).map (fun d => d.parameters.length) = some 0 ∧ y.name = "<init>"
theorem b_new {own : String} {T : u_T} {N ci index idx n maxL : Nat} {y : MethodName} {bytes : ByteArray} {rm : Room} {fs : List Value} (ty : Nat → FieldType) (hx : p.tables.exec = Jvm.exec) (hb : c.code = cc) (hml : c.maxLocals = nL) (hown : s.vm.findClass own = some m.cls) (hts : KK s) (hV : (gS G).vm.Alike s.vm) (hA : AOk s) (hK : va_K (gD G) vwCl (gT G) s) (hB : Bd G a j X H0 H locs) (hk : Kn G l y bytes maxL rm (a + j) ci fs n) (w : pkgN y bytes maxL N) (hL : ∀ w ∈ u_ws y.cls T N, w.before args s = true) (hty : ∀ k, k < N → parseFieldDescriptor (T k).2.2.1 = some (ty k)) (hci : vwCl[ci]? = some (y.cls, T, N)) (hfs : ∀ j, j < N → defaultValue (ty j) = vp_V fs j) (hn : 1 ≤ n)
    (hcl : (Cond.classLink own index y.cls).before args s = true) (hl : (Cond.methodLink own idx y).before args s = true) (hrm : rm.frames + 1 ≤ R.frames ∧ 8 + (maxL + 11) + rm.locals ≤ R.locals) (hcs : cells + 1 + rm.cells ≤ R.cells ∧ slots + N + rm.slots ≤ R.slots) (hsz : ls.size = nL) (hW : ((Value.ref (a + j) :: rest).map fun v => v.category).sum ≤ 8)
    (hd1 : decode cc pc = .ok (.new index, 3)) (hd2 : decode cc (pc + 3) = .ok (.dup, 1)) (hd3 : decode cc (pc + 3 + 1) = .ok (.invokespecial idx, 3))
    (kk : ∀ (H1 : Heap) (locs1 : List Loc), Bd G a (j + n) X H0 H1 locs1 → W p l e R s m args below meth c H1 locs1 (cells + 1 + rm.cells) (slots + N + rm.slots) Q (F0 m (pc + 3 + 1 + 3) ls (.ref (a + j) :: rest))) : W p l e R s m args below meth c H locs cells slots Q (F0 m pc ls rest) := by
  obtain ⟨⟨w1, w2⟩, ⟨w3, w4⟩, w5, w6, w7⟩ := w
  have hKn := hK.1 ci _ hci
  refine W.newcK hx hb hown hcl (hts.1 _ w4 rfl _) (hts.1 _ w2 rfl _) rfl hd1 (by omega) (by omega) hKn.2.1 hB.2.2.1 fun H1 kC hkC e1 z1 o1 => ?_
  have hat : va_at (gD G) vwCl (a + j, .inr (ci, fs)) H1 := ⟨_, hci, (u_born ty hL (fun _ h => h) hKn hkC e1 hty).to hfs⟩
  refine lv_dup hx hb hd2 rfl ?_
  have hcw : CallB R s args own idx y bytes maxL none [.code y bytes maxL none] rm rm.cells rm.slots 0 ∧ y.name = "<init>" ∧ (Cond.instanceMethod y).before args s = true := by
    refine ⟨⟨rfl, rfl, hrm.1, hrm.2, code_moves (fun _ _ _ _ _ => trivial) hts w1 rfl, List.mem_singleton.mpr rfl, hts.1 _ w1 rfl _, hts.1 _ w2 rfl _, w5, fun sig h => ?_, hl⟩, w7, hts.1 _ w3 rfl _⟩
    rw [h] at w6
    exact (Option.some.inj w6).symm
  exact b_back z1 o1 hB hn (va_runI (Ts := []) (As := []) ⟨hx, hb, hml, hown, fun _ h => absurd h List.not_mem_nil⟩ hk hcw ⟨preN_blind, fun U hU hW1 => ⟨rfl, hts.moves hW1, hV.trans hW1.alike, hA.moved hW1.alike, by rw [hU]; exact ⟨hat, z1⟩⟩⟩ rfl rfl hsz rfl (lv_room hW) hd3 hcs) kk
theorem b_newN {own host : String} {T : u_T} {N ci index idx n maxL : Nat} {y : MethodName} {bytes : ByteArray} {rm : Room} {fs : List Value} (ty : Nat → FieldType) (hx : p.tables.exec = Jvm.exec) (hb : c.code = cc) (hml : c.maxLocals = nL) (hown : s.vm.findClass own = some m.cls) (hts : KK s) (hV : (gS G).vm.Alike s.vm) (hA : AOk s) (hK : va_K (gD G) vwCl (gT G) s) (hB : Bd G a j X H0 H locs) (hk : Kn G l y bytes maxL rm (a + j) ci fs n) (w : pkgN y bytes maxL N) (hL : ∀ w ∈ u_ws y.cls T N, w.before args s = true) (hty : ∀ k, k < N → parseFieldDescriptor (T k).2.2.1 = some (ty k)) (hci : vwCl[ci]? = some (y.cls, T, N)) (hfs : ∀ j, j < N → defaultValue (ty j) = vp_V fs j) (hn : 1 ≤ n)
    (hcl : (Cond.classLink own index y.cls).before args s = true) (hl : (Cond.methodLinkNest own idx y host).before args s = true) (hrm : rm.frames + 1 ≤ R.frames ∧ 8 + (maxL + 11) + rm.locals ≤ R.locals) (hcs : cells + 1 + rm.cells ≤ R.cells ∧ slots + N + rm.slots ≤ R.slots) (hsz : ls.size = nL) (hW : ((Value.ref (a + j) :: rest).map fun v => v.category).sum ≤ 8)
    (hd1 : decode cc pc = .ok (.new index, 3)) (hd2 : decode cc (pc + 3) = .ok (.dup, 1)) (hd3 : decode cc (pc + 3 + 1) = .ok (.invokespecial idx, 3))
    (kk : ∀ (H1 : Heap) (locs1 : List Loc), Bd G a (j + n) X H0 H1 locs1 → W p l e R s m args below meth c H1 locs1 (cells + 1 + rm.cells) (slots + N + rm.slots) Q (F0 m (pc + 3 + 1 + 3) ls (.ref (a + j) :: rest))) : W p l e R s m args below meth c H locs cells slots Q (F0 m pc ls rest) := by
  obtain ⟨⟨w1, w2⟩, ⟨w3, w4⟩, w5, w6, w7⟩ := w
  have hKn := hK.1 ci _ hci
  refine W.newcK hx hb hown hcl (hts.1 _ w4 rfl _) (hts.1 _ w2 rfl _) rfl hd1 (by omega) (by omega) hKn.2.1 hB.2.2.1 fun H1 kC hkC e1 z1 o1 => ?_
  have hat : va_at (gD G) vwCl (a + j, .inr (ci, fs)) H1 := ⟨_, hci, (u_born ty hL (fun _ h => h) hKn hkC e1 hty).to hfs⟩
  refine lv_dup hx hb hd2 rfl ?_
  have hcw : va_CN R s args own idx y host bytes maxL none [.code y bytes maxL none] rm rm.cells rm.slots 0 ∧ y.name = "<init>" ∧ (Cond.instanceMethod y).before args s = true := by
    refine ⟨⟨⟨rfl, rfl, hrm.1, hrm.2, code_moves (fun _ _ _ _ _ => trivial) hts w1 rfl, List.mem_singleton.mpr rfl⟩, hts.1 _ w1 rfl _, hts.1 _ w2 rfl _, w5, fun sig h => ?_, hl⟩, w7, hts.1 _ w3 rfl _⟩
    rw [h] at w6
    exact (Option.some.inj w6).symm
  exact b_back z1 o1 hB hn (va_runIN (Ts := []) (As := []) ⟨hx, hb, hml, hown, fun _ h => absurd h List.not_mem_nil⟩ hk hcw ⟨preN_blind, fun U hU hW1 => ⟨rfl, hts.moves hW1, hV.trans hW1.alike, hA.moved hW1.alike, by rw [hU]; exact ⟨hat, z1⟩⟩⟩ rfl rfl hsz rfl (lv_room hW) hd3 hcs) kk
theorem b_end {n : Nat} {locs : List Loc} {H : Heap} (hx : p.tables.exec = Jvm.exec) (hb : c.code = cc) (hr : meth.sig.returnType = none) (hlocks : meth.locks = false) (hB : Bd G a n X s.heap H locs) (hf : ∀ p ∈ X, ∀ (e : va_E) (H : Heap), cel G (M0 G) p.1 = some e → va_at (gD G) vwCl p H → va_at (gD G) vwCl (p.1, e) H) (hdg : decode cc pc = .ok (.return_, 1)) : W p l e R s m args below meth c H locs cells slots (MQ below (QN G a n) args s cells slots (fun q => a ≤ q)) (F0 m pc ls []) :=
  W.vret hx hb hr (fun t ht _ => ⟨rfl, ⟨by rw [ht]; exact hB.2.2.1, fun q e h1 h2 h3 => by rw [ht]; exact hB.done hf q e h1 h2 h3⟩, hB.2.2.2.2.F ht⟩) hB.2.2.2.2.2.2 hdg hlocks
end MAKE
