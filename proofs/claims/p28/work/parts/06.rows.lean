/-! rows over memories -/
theorem cel_o {G : Gt} {M : Mem} {a k : Nat} (h : gK G a = k) (hk : k < 1000) : cel G M a = cob M a k := by simp only [cel, h, if_pos hk]
theorem cel_ia {G : Gt} {M : Mem} {a n : Nat} (h : gK G a = 1000 + n) (hn : n < 4000) : cel G M a = some (.inl (gC G 0, n, .inl (mI M a))) := by
  have e1 : ¬ 1000 + n < 1000 := by omega
  have e2 : 1000 + n < 5000 := by omega
  have e3 : 1000 + n - 1000 = n := by omega
  simp only [cel, h, if_neg e1, if_pos e2, e3]
theorem cel_ca {G : Gt} {M : Mem} {a n : Nat} (h : gK G a = 5000 + n) (hn : n < 1000) : cel G M a = some (.inl (gC G 1, n, .inl (mI M a))) := by
  have e1 : ¬ 5000 + n < 1000 := by omega
  have e2 : ¬ 5000 + n < 5000 := by omega
  have e3 : 5000 + n < 6000 := by omega
  have e4 : 5000 + n - 5000 = n := by omega
  simp only [cel, h, if_neg e1, if_neg e2, if_pos e3, e4]
theorem cel_pa {G : Gt} {M : Mem} {a : Nat} (h : gK G a = 6008) : cel G M a = some (.inl (gC G 2, 8, .inr (.inr (.inr (.inr fun j => some (mR M a j)))))) := by
  simp only [cel, h]; rfl
theorem cel_va {G : Gt} {M : Mem} {a : Nat} (h : gK G a = 7003) : cel G M a = some (.inl (gC G 3, 3, .inr (.inr (.inr (.inr fun j => some (a + 3 + 44 * j)))))) := by
  simp only [cel, h]; rfl
theorem cel_sa {G : Gt} {M : Mem} {a : Nat} (h : gK G a = 8006) : cel G M a = some (.inl (gC G 4, 6, .inr (.inr (.inr (.inr fun j => some (mR M a j)))))) := by
  simp only [cel, h]; rfl
abbrev ix (i : Int32) (n : Nat) : Prop := ¬ (i < 0 ∨ n ≤ i.toNatClampNeg)
theorem ix_lt {i : Int32} {n : Nat} (h : ix i n) : i.toNatClampNeg < n := Nat.not_le.mp fun q => h (Or.inr q)
/-- a value gets a name -/
def nb {α β : Type} (x : α) (k : α → Option β) : Option β := k x
theorem nb_e {α β : Type} {x : α} {k : α → Option β} {r : β} (h : nb x k = some r) : ∃ y, x = y ∧ k y = some r := ⟨x, rfl, h⟩
theorem nb_s {α β : Type} (x : α) (k : α → Option β) : nb x k = k x := rfl
/-- a check -/
def gd {β : Type} (c : Prop) [Decidable c] (x : Option β) : Option β := if c then x else none
theorem gd_e {β : Type} {c : Prop} [Decidable c] {x : Option β} {r : β} (h : gd c x = some r) : c ∧ x = some r := by
  unfold gd at h
  split at h
  · exact ⟨‹_›, h⟩
  · cases h
theorem gd_s {β : Type} {c : Prop} [Decidable c] {x : Option β} (h : c) : gd c x = x := if_pos h
/-- a call: an answer and a memory; an answer alone; a memory alone -/
def cb {α β γ : Type} (o : Option (α × β)) (k : α → β → Option γ) : Option γ := match o with
  | none => none
  | some q => k q.1 q.2
theorem cb_e {α β γ : Type} {o : Option (α × β)} {k : α → β → Option γ} {r : γ} (h : cb o k = some r) : ∃ x y, o = some (x, y) ∧ k x y = some r := by
  cases o with
  | none => cases h
  | some q => exact ⟨q.1, q.2, rfl, h⟩
theorem cb_s {α β γ : Type} (x : α) (y : β) (k : α → β → Option γ) : cb (some (x, y)) k = k x y := rfl
def vb {β γ : Type} (o : Option β) (k : β → Option γ) : Option γ := match o with
  | none => none
  | some q => k q
theorem vb_e {β γ : Type} {o : Option β} {k : β → Option γ} {r : γ} (h : vb o k = some r) : ∃ y, o = some y ∧ k y = some r := by
  cases o with
  | none => cases h
  | some q => exact ⟨q, rfl, h⟩
theorem vb_s {β γ : Type} (y : β) (k : β → Option γ) : vb (some y) k = k y := rfl
section ROWS
variable {p : Program} {l : Launch} {e : Env} {R : Room} {s : State} {m : MethodId} {args : Array Value} {below : List Frame} {meth : Method} {c : Code} {H : Heap} {locs : List Loc} {cells slots : Nat} {Q : State → Prop} {cc : ByteArray} {pc : Nat} {ls : Array Slot} {rest : List Value} {G : Gt} {M : Mem} {a : Nat} {H0 : Heap}
theorem s_nm {x y : Int32} (h : x = y) (k : W p l e R s m args below meth c H locs cells slots Q (F0 m pc ls (.int y :: rest))) : W p l e R s m args below meth c H locs cells slots Q (F0 m pc ls (.int x :: rest)) := by rw [h]; exact k
theorem s_nmr {x y : Nat} (h : x = y) (k : W p l e R s m args below meth c H locs cells slots Q (F0 m pc ls (.ref y :: rest))) : W p l e R s m args below meth c H locs cells slots Q (F0 m pc ls (.ref x :: rest)) := by rw [h]; exact k
theorem s_nml {x y : Int64} (h : x = y) (k : W p l e R s m args below meth c H locs cells slots Q (F0 m pc ls (.long y :: rest))) : W p l e R s m args below meth c H locs cells slots Q (F0 m pc ls (.long x :: rest)) := by rw [h]; exact k
theorem s_nmd {x y : UInt64} (h : x = y) (k : W p l e R s m args below meth c H locs cells slots Q (F0 m pc ls (.double y :: rest))) : W p l e R s m args below meth c H locs cells slots Q (F0 m pc ls (.double x :: rest)) := by rw [h]; exact k
theorem s_iald (n : Nat) (hx : p.tables.exec = Jvm.exec) (hb : c.code = cc) (hK : va_K (gD G) vwCl (gT G) s) (hM : Mh G M H) (ha : gK G a = 1000 + n) (hn : n < 4000) {i : Int32} (hi : ix i n) (hdg : decode cc pc = .ok (.iaload, 1))
    (kk : W p l e R s m args below meth c H locs cells slots Q (F0 m (pc + 1) ls (.int (mI M a i.toNatClampNeg) :: rest))) : W p l e R s m args below meth c H locs cells slots Q (F0 m pc ls (.int i :: .ref a :: rest)) :=
  va_iald hx hb hK (hM.one (cel_ia ha hn)) 0 0 rfl rfl hi hdg kk
theorem s_cald (n : Nat) (hx : p.tables.exec = Jvm.exec) (hb : c.code = cc) (hK : va_K (gD G) vwCl (gT G) s) (hM : Mh G M H) (ha : gK G a = 5000 + n) (hn : n < 1000) {i : Int32} (hi : ix i n) (hdg : decode cc pc = .ok (.caload, 1))
    (kk : W p l e R s m args below meth c H locs cells slots Q (F0 m (pc + 1) ls (.int (mI M a i.toNatClampNeg) :: rest))) : W p l e R s m args below meth c H locs cells slots Q (F0 m pc ls (.int i :: .ref a :: rest)) :=
  va_cald hx hb hK (hM.one (cel_ca ha hn)) 0 1 rfl rfl hi hdg kk
theorem s_paald (hx : p.tables.exec = Jvm.exec) (hb : c.code = cc) (hK : va_K (gD G) vwCl (gT G) s) (hM : Mh G M H) (ha : gK G a = 6008) {i : Int32} (hi : ix i 8) (hdg : decode cc pc = .ok (.aaload, 1))
    (kk : gK G (mR M a i.toNatClampNeg) = 3 → W p l e R s m args below meth c H locs cells slots Q (F0 m (pc + 1) ls (.ref (mR M a i.toNatClampNeg) :: rest))) : W p l e R s m args below meth c H locs cells slots Q (F0 m pc ls (.int i :: .ref a :: rest)) :=
  va_aldq hx hb hK (hM.one (cel_pa ha)) 0 2 rfl rfl hi hdg (kk (hM.2.2.1 a _ ha (ix_lt hi)))
theorem s_saald (hx : p.tables.exec = Jvm.exec) (hb : c.code = cc) (hK : va_K (gD G) vwCl (gT G) s) (hM : Mh G M H) (ha : gK G a = 8006) {i : Int32} (hi : ix i 6) (hdg : decode cc pc = .ok (.aaload, 1))
    (kk : gK G (mR M a i.toNatClampNeg) = 6 → W p l e R s m args below meth c H locs cells slots Q (F0 m (pc + 1) ls (.ref (mR M a i.toNatClampNeg) :: rest))) : W p l e R s m args below meth c H locs cells slots Q (F0 m pc ls (.int i :: .ref a :: rest)) :=
  va_aldq hx hb hK (hM.one (cel_sa ha)) 0 4 rfl rfl hi hdg (kk (hM.2.2.2 a _ ha (ix_lt hi)))
theorem s_vaald (hx : p.tables.exec = Jvm.exec) (hb : c.code = cc) (hK : va_K (gD G) vwCl (gT G) s) (hM : Mh G M H) (hv : ∀ j, j < 3 → gK G (a + 3 + 44 * j) = 8) (ha : gK G a = 7003) {i : Int32} (hi : ix i 3) (hdg : decode cc pc = .ok (.aaload, 1))
    (kk : gK G (a + 3 + 44 * i.toNatClampNeg) = 8 → W p l e R s m args below meth c H locs cells slots Q (F0 m (pc + 1) ls (.ref (a + 3 + 44 * i.toNatClampNeg) :: rest))) : W p l e R s m args below meth c H locs cells slots Q (F0 m pc ls (.int i :: .ref a :: rest)) :=
  va_aldq hx hb hK (hM.one (cel_va ha)) 0 3 rfl rfl hi hdg (kk (hv _ (ix_lt hi)))
theorem s_alen {ty : FieldType} (t0 : Nat) (hx : p.tables.exec = Jvm.exec) (hb : c.code = cc) (hK : va_K (gD G) vwCl (gT G) s) (hM : Mh G M H) {cA : ClassId} {x : vp_A} (hc : cel G M a = some (.inl (cA, x))) (ht : (gT G)[t0]? = some (cA, ty)) {v : Int32} (hv : Int32.ofNat x.1 = v) (hdg : decode cc pc = .ok (.arraylength, 1))
    (kk : W p l e R s m args below meth c H locs cells slots Q (F0 m (pc + 1) ls (.int v :: rest))) : W p l e R s m args below meth c H locs cells slots Q (F0 m pc ls (.ref a :: rest)) :=
  va_alen hx hb hK (hM.one hc) 0 t0 rfl ht hv hdg kk
theorem s_iast (n : Nat) (hx : p.tables.exec = Jvm.exec) (hb : c.code = cc) (hK : va_K (gD G) vwCl (gT G) s) (hM : Mh G M H) (hS : va_S (gA G) H0 H locs) (ha : gK G a = 1000 + n) (hn : n < 4000) (hB : gB G ≤ a) {i x : Int32} (hi : ix i n) (hdg : decode cc pc = .ok (.iastore, 1))
    (kk : ∀ (H1 : Heap) (locs1 : List Loc), Mh G (sI M a i.toNatClampNeg x) H1 → va_S (gA G) H0 H1 locs1 → W p l e R s m args below meth c H1 locs1 cells slots Q (F0 m (pc + 1) ls rest)) : W p l e R s m args below meth c H locs cells slots Q (F0 m pc ls (.int x :: .int i :: .ref a :: rest)) := by
  have hP := hM.one (cel_ia (M := M) ha hn)
  refine W.iast hx hb (hP 0 _ rfl) ((hK.2 0 _ rfl).1 n (fun j => .int (mI M a j))) (fun q => by cases q) (by show ¬ (i < 0 ∨ (arrV _ _ _).slots.size ≤ _); rw [arrV_size]; exact hi) rfl rfl hdg fun H1 e z oq => ?_
  refine kk H1 _ (hM.put (cel_ia ha hn) ?_ z oq (fun b hb2 => cel_sI b hb2) hB hM.2.2.sI) (hS.put z oq hB)
  show H1[a]? = some (vp_cell _ _)
  rw [e, vp_cell_i, vp_cell_i, arrV_store]
  congr 2
  funext q
  by_cases hq : q = i.toNatClampNeg
  · subst hq; simp [updV, mI_sI]
  · simp [updV, mI_sI, hq]
theorem s_cast (n : Nat) (hx : p.tables.exec = Jvm.exec) (hb : c.code = cc) (hK : va_K (gD G) vwCl (gT G) s) (hM : Mh G M H) (hS : va_S (gA G) H0 H locs) (ha : gK G a = 5000 + n) (hn : n < 1000) (hB : gB G ≤ a) {i x : Int32} (hi : ix i n) (hdg : decode cc pc = .ok (.castore, 1))
    (kk : ∀ (H1 : Heap) (locs1 : List Loc), Mh G (sI M a i.toNatClampNeg (vp_nar .char x)) H1 → va_S (gA G) H0 H1 locs1 → W p l e R s m args below meth c H1 locs1 cells slots Q (F0 m (pc + 1) ls rest)) : W p l e R s m args below meth c H locs cells slots Q (F0 m pc ls (.int x :: .int i :: .ref a :: rest)) := by
  have hP := hM.one (cel_ca (M := M) ha hn)
  refine W.cast hx hb (hP 0 _ rfl) ((hK.2 1 _ rfl).1 n (fun j => .int (mI M a j))) (fun q => by cases q) (by show ¬ (i < 0 ∨ (arrV _ _ _).slots.size ≤ _); rw [arrV_size]; exact hi) rfl rfl hdg fun H1 e z oq => ?_
  refine kk H1 _ (hM.put (cel_ca ha hn) ?_ z oq (fun b hb2 => cel_sI b hb2) hB hM.2.2.sI) (hS.put z oq hB)
  show H1[a]? = some (vp_cell _ _)
  rw [e, vp_cell_i, vp_cell_i, arrV_store]
  congr 2
  funext q
  by_cases hq : q = i.toNatClampNeg
  · subst hq
    simp [updV, mI_sI, vp_nar]
    try rfl
  · simp [updV, mI_sI, hq]
/-- a reference is put into a row of references (2 packets, 4 states) -/
theorem s_aast (t0 ci nn : Nat) (hx : p.tables.exec = Jvm.exec) (hb : c.code = cc) (hK : va_K (gD G) vwCl (gT G) s) (hM : Mh G M H) (hS : va_S (gA G) H0 H locs) {cA : ClassId} {r : vw_C} {v : Nat} {vs : List Value} (hB : gB G ≤ a)
    (hc : ∀ N : Mem, cel G N a = some (.inl (cA, nn, .inr (.inr (.inr (.inr fun j => some (mR N a j))))))) (ht : (gT G)[t0]? = some (cA, .object r.1)) (hv : cel G M v = some (.inr (ci, vs))) (hr : vwCl[ci]? = some r) {i : Int32} (hi : ix i nn) (hw : wfM G (sR M a i.toNatClampNeg v)) (hdg : decode cc pc = .ok (.aastore, 1))
    (kk : ∀ (H1 : Heap) (locs1 : List Loc), Mh G (sR M a i.toNatClampNeg v) H1 → va_S (gA G) H0 H1 locs1 → W p l e R s m args below meth c H1 locs1 cells slots Q (F0 m (pc + 1) ls rest)) : W p l e R s m args below meth c H locs cells slots Q (F0 m pc ls (.ref v :: .int i :: .ref a :: rest)) := by
  have hP := hM.one (hc M)
  have hPv := hM.one hv
  have hlt := ix_lt hi
  have h0 : ¬ i < 0 := fun q => hi (Or.inl q)
  obtain ⟨r', hr', cellV, g1, g2, g3, -⟩ := hPv 0 _ rfl
  have hcls := (hK.1 ci r hr).2
  obtain ⟨kA, comp, k1, k2, k3, -⟩ := (hK.2 t0 _ ht).2
  have hcomp : comp = (gD G).1 ci := Option.some.inj (k3.symm.trans hcls.1)
  subst hcomp
  obtain ⟨kC, hkC, -⟩ := hcls.2
  refine W.aast hx hb (hP 0 _ rfl) (fun q h => by cases h) (fun h => by cases h) k1 k2 rfl hkC ⟨h0, by show _ < (arrV _ _ _).slots.size; rw [arrV_size]; exact hlt⟩ g1 (fun q h => by rw [g3] at h; cases h) (by rw [g2]; exact hkC) (by rw [g2]; exact va_assign hcls) rfl rfl hdg fun H1 e z oq => ?_
  refine kk H1 _ (hM.put (hc _) ?_ z oq (fun b hb2 => cel_sR b hb2) hB hw) (hS.put z oq hB)
  show H1[a]? = some (vp_cell _ _)
  rw [e, vp_cell_q, vp_cell_q, arrV_store]
  congr 2
  funext q
  by_cases hq : q = i.toNatClampNeg
  · subst hq; simp [updV, mR_sR, va_rf]
  · simp [updV, mR_sR, hq]
theorem s_get {own ref C : String} {T : u_T} {N ci index : Nat} {fs : List Value} (hx : p.tables.exec = Jvm.exec) (hb : c.code = cc) (hL : ∀ w ∈ u_ws C T N, w.before args s = true) (hown : s.vm.findClass own = some m.cls) (hK : va_K (gD G) vwCl (gT G) s) (hM : Mh G M H) (hc : cel G M a = some (.inr (ci, fs))) (hci : vwCl[ci]? = some (C, T, N)) (k : Nat) (hk : k < N) {v : Value} (hv : fs[k]? = some v) (hre : (T k).1 = ref) (hlink : (Cond.fieldLink own index ref (T k).2.1 (T k).2.2.1).before args s = true) (hdg : decode cc pc = .ok (.getfield index, 3))
    (kk : W p l e R s m args below meth c H locs cells slots Q (F0 m (pc + 3) ls (v :: rest))) : W p l e R s m args below meth c H locs cells slots Q (F0 m pc ls (.ref a :: rest)) :=
  va_get hx hb hL (fun _ h => h) hown hK (hM.one hc) 0 rfl hci k hk hlink (fun _ h => by rw [← hre]; exact h) hv hdg kk
theorem s_getN {own ref C host : String} {T : u_T} {N ci index : Nat} {fs : List Value} (hx : p.tables.exec = Jvm.exec) (hb : c.code = cc) (hL : ∀ w ∈ u_ws C T N, w.before args s = true) (hown : s.vm.findClass own = some m.cls) (hK : va_K (gD G) vwCl (gT G) s) (hM : Mh G M H) (hc : cel G M a = some (.inr (ci, fs))) (hci : vwCl[ci]? = some (C, T, N)) (k : Nat) (hk : k < N) {v : Value} (hv : fs[k]? = some v) (hre : (T k).1 = ref) (hlink : (Cond.fieldLinkNest own index ref (T k).2.1 (T k).2.2.1 host).before args s = true) (hdg : decode cc pc = .ok (.getfield index, 3))
    (kk : W p l e R s m args below meth c H locs cells slots Q (F0 m (pc + 3) ls (v :: rest))) : W p l e R s m args below meth c H locs cells slots Q (F0 m pc ls (.ref a :: rest)) :=
  va_getN hx hb hL (fun _ h => h) hown hK (hM.one hc) 0 rfl hci k hk hlink (fun _ h => by rw [← hre]; exact h) hv hdg kk
end ROWS
