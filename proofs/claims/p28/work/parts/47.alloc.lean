/-! rows of ints that the law's methods make; contracts of methods that make some -/
/-- an address of no cell -/
def fresh (G : Gt) (a : Nat) : Prop := ¬ ((1 ≤ gK G a ∧ gK G a ≤ 9) ∨ 1000 ≤ gK G a)
theorem cel_some {G : Gt} {M : Mem} {a : Nat} (h : (1 ≤ gK G a ∧ gK G a ≤ 9) ∨ 1000 ≤ gK G a) : ∃ e, cel G M a = some e := by
  unfold cel
  rcases h with ⟨h1, h2⟩ | h
  · rw [if_pos (by omega)]
    have h3 : gK G a = 1 ∨ gK G a = 2 ∨ gK G a = 3 ∨ gK G a = 4 ∨ gK G a = 5 ∨ gK G a = 6 ∨ gK G a = 7 ∨ gK G a = 8 ∨ gK G a = 9 := by omega
    rcases h3 with h3 | h3 | h3 | h3 | h3 | h3 | h3 | h3 | h3 <;> rw [h3] <;> exact ⟨_, rfl⟩
  · rw [if_neg (by omega)]
    repeat' split
    all_goals exact ⟨_, rfl⟩
theorem cel_no {G : Gt} {M : Mem} {a : Nat} (h : fresh G a) : cel G M a = none := by
  unfold fresh at h
  unfold cel
  rw [if_pos (by omega)]
  unfold cob
  split <;> first | rfl | (exfalso; omega)
theorem fresh_of {G : Gt} {M : Mem} {H : Heap} (hM : Mh G M H) : fresh G H.size := fun h => by
  obtain ⟨e, he⟩ := cel_some (M := M) h
  exact Nat.lt_irrefl _ (hM.1 _ e he).lt
theorem fresh_ne {G : Gt} {a b k : Nat} (ha : fresh G a) (hb : gK G b = k) (hk : (1 ≤ k ∧ k ≤ 9) ∨ 1000 ≤ k) : b ≠ a := fun e => ha (by rw [← e, hb]; exact hk)
/-- the world with one more row of ints -/
def gN (G : Gt) (a N : Nat) : Gt := (G.1, G.2.1, G.2.2.1, fun b => if b = a then 1000 + N else gK G b)
theorem gN_at {G : Gt} {a N b : Nat} : gK (gN G a N) b = if b = a then 1000 + N else gK G b := rfl
theorem gN_new {G : Gt} {a N : Nat} : gK (gN G a N) a = 1000 + N := if_pos rfl
theorem gN_old {G : Gt} {a N b k : Nat} (ha : fresh G a) (hb : gK G b = k) (hk : (1 ≤ k ∧ k ≤ 9) ∨ 1000 ≤ k) : gK (gN G a N) b = k := by
  rw [gN_at, if_neg (fresh_ne ha hb hk)]
  exact hb
theorem gN_back {G : Gt} {a N b k : Nat} (hb : gK (gN G a N) b = k) (hk : k ≠ 1000 + N) : gK G b = k := by
  rw [gN_at] at hb
  by_cases h : b = a
  · rw [if_pos h] at hb; exact absurd hb.symm hk
  · rw [if_neg h] at hb; exact hb
theorem gN_ok {G : Gt} {a N : Nat} (hG : gOK G) (ha : fresh G a) (hB : gB G ≤ a) (hN : N < 4000) : gOK (gN G a N) := by
  obtain ⟨h1, ⟨y2, y3, y4, y5, y6, y7, y8, y9, yv, yB⟩, h3⟩ := hG
  have up : ∀ {b k : Nat}, gK G b = k → ((1 ≤ k ∧ k ≤ 9) ∨ 1000 ≤ k) → gK (gN G a N) b = k := fun hb hk => gN_old ha hb hk
  refine ⟨h1, ⟨fun b hb => ?_, fun b hb => ?_, fun b hb => ?_, fun b hb => ?_, fun b hb => ?_, fun b hb => ?_, fun b hb => ?_, fun b hb => ?_, fun b hb j hj => ?_, fun b hb => ?_⟩, h3⟩
  · exact up (y2 b (gN_back hb (by omega))) (by omega)
  · obtain ⟨z1, z2, z3⟩ := y3 b (gN_back hb (by omega))
    exact ⟨up z1 (by omega), up z2 (by omega), up z3 (by omega)⟩
  · obtain ⟨z1, z2, z3, z4⟩ := y4 b (gN_back hb (by omega))
    exact ⟨up z1 (by omega), up z2 (by omega), up z3 (by omega), up z4 (by omega)⟩
  · exact up (y5 b (gN_back hb (by omega))) (by omega)
  · obtain ⟨z1, z2⟩ := y6 b (gN_back hb (by omega))
    exact ⟨up z1 (by omega), up z2 (by omega)⟩
  · exact up (y7 b (gN_back hb (by omega))) (by omega)
  · obtain ⟨z1, z2, z3⟩ := y8 b (gN_back hb (by omega))
    exact ⟨up z1 (by omega), up z2 (by omega), up z3 (by omega)⟩
  · obtain ⟨z1, z2, z3, z4, z5, z6⟩ := y9 b (gN_back hb (by omega))
    exact ⟨up z1 (by omega), up z2 (by omega), up z3 (by omega), up z4 (by omega), up z5 (by omega), up z6 (by omega)⟩
  · exact up (yv b (gN_back hb (by omega)) j hj) (by omega)
  · show gB G ≤ b
    by_cases h : b = a
    · rw [h]; exact hB
    · rw [gN_at, if_neg h] at hb
      exact yB b hb
/-- a memory with another row of ints at an address -/
def sA (M : Mem) (a : Nat) (f : Nat → Int32) : Mem := (fun b => if b = a then f else M.1 b, M.2)
theorem Mh.down {G : Gt} {M : Mem} {H : Heap} {a N : Nat} (h : Mh (gN G a N) M H) (ha : fresh G a) (hN : N < 4000) : Mh G M H := by
  obtain ⟨h1, h2, h3, h4⟩ := h
  refine ⟨fun b e he => ?_, h2, fun b j hb hj => ?_, fun b j hb hj => ?_⟩
  · have hba : b ≠ a := fun q => by
      rw [q, cel_no ha] at he
      cases he
    have e1 : gK (gN G a N) b = gK G b := by rw [gN_at, if_neg hba]
    refine h1 b e ?_
    unfold cel at he ⊢
    rw [e1]
    exact he
  · exact gN_back (h3 b j (gN_old ha hb (by omega)) hj) (by omega)
  · exact gN_back (h4 b j (gN_old ha hb (by omega)) hj) (by omega)
theorem Mh.up {G : Gt} {M : Mem} {H H1 : Heap} {N : Nat} (hM : Mh G M H) (hN : N < 4000) (e1 : H1[H.size]? = some (arrV (gC G 0) N (fun _ => .int 0))) (z1 : H1.size = H.size + 1) (o1 : ∀ q : Nat, q < H.size → H1[q]? = H[q]?) : Mh (gN G H.size N) (sA M H.size fun _ => 0) H1 := by
  have hf := fresh_of hM
  refine ⟨fun b e he => ?_, ⟨Nat.le_trans hM.2.1.1 (by omega), fun q hq => ?_⟩, fun b j hb hj => ?_, fun b j hb hj => ?_⟩
  · by_cases hb : b = H.size
    · subst hb
      rw [cel_ia gN_new hN] at he
      cases he
      show H1[H.size]? = some (vp_cell _ _)
      rw [e1, vp_cell_i]
      have e3 : mI (sA M H.size fun _ => 0) H.size = fun _ => 0 := by funext j; simp [mI, sA]
      rw [e3]
      rfl
    · have e2 : cel (gN G H.size N) (sA M H.size fun _ => 0) b = cel G M b := by
        have k1 : gK (gN G H.size N) b = gK G b := by rw [gN_at, if_neg hb]
        have k2 : mI (sA M H.size fun _ => 0) b = mI M b := by funext j; simp [mI, sA, hb]
        have k3 : mR (sA M H.size fun _ => 0) b = mR M b := rfl
        have k4 : mJ (sA M H.size fun _ => 0) b = mJ M b := rfl
        have k5 : mD (sA M H.size fun _ => 0) b = mD M b := rfl
        simp only [cel, cob, k1, k2, k3, k4, k5]
        rfl
      rw [e2] at he
      exact (hM.1 b e he).kept (o1 b (hM.1 b e he).lt)
  · rw [o1 q (Nat.lt_of_lt_of_le hq hM.2.1.1)]
    exact hM.2.1.2 q hq
  · exact gN_old hf (hM.2.2.1 b j (gN_back hb (by omega)) hj) (by omega)
  · exact gN_old hf (hM.2.2.2 b j (gN_back hb (by omega)) hj) (by omega)
/-- a contract: it returns r over a memory of which Φ holds; it makes nc cells of ns slots -/
def KA (G : Gt) (l : Launch) (y : MethodName) (cc : ByteArray) (maxL : Nat) (ret : Option FieldType) (rm : Room) (As : List Value) (M : Mem) (r : Value) (Φ : Mem → Prop) (nc ns : Nat) : Prop :=
  Met l y [.code y cc maxL ret] rm (va_Pc As (Pre G M)) (fun _ st oc t => oc = .returned (some r) ∧ (∃ M', Φ M' ∧ Mh G M' t.heap) ∧ va_F (gA G) st t) nc ns (gA G)
section ALLOC
variable {p : Program} {l : Launch} {e : Env} {R : Room} {s : State} {m : MethodId} {args : Array Value} {below : List Frame} {meth : Method} {c : Code} {H : Heap} {locs : List Loc} {cells slots : Nat} {Q : State → Prop} {cc : ByteArray} {pc nL : Nat} {ls : Array Slot} {rest st0 : List Value} {G : Gt} {M : Mem} {a : Nat} {H0 : Heap} {y : MethodName} {bytes : ByteArray} {maxL n idx nc ns : Nat} {ret : Option FieldType} {rm : Room} {As : List Value} {own : String} {r : Value} {Φ : Mem → Prop}
theorem s_newa {N : Nat} (hx : p.tables.exec = Jvm.exec) (hb : c.code = cc) (harr : (Cond.arrayClass .int).before args s = true) (hK : va_K (gD G) vwCl (gT G) s) (hM : Mh G M H) (hS : va_S (gA G) H0 H locs) {n : Int32} (hn : ¬ n < 0) (hN : n.toNatClampNeg = N) (hN4 : N < 4000) (hcells : cells + 1 ≤ R.cells) (hslots : slots + N ≤ R.slots) (hdg : decode cc pc = .ok (.newarray .int, 2))
    (kk : ∀ (a : Nat) (H1 : Heap), fresh G a → gB G ≤ a → Mh (gN G a N) (sA M a fun _ => 0) H1 → va_S (gA G) H0 H1 locs → W p l e R s m args below meth c H1 locs (cells + 1) (slots + N) Q (F0 m (pc + 2) ls (.ref a :: rest))) : W p l e R s m args below meth c H locs cells slots Q (F0 m pc ls (.int n :: rest)) := by
  refine va_newaK (atype := .int) hx hb harr rfl hdg rfl hn hN (Nat.le_trans (Nat.mul_le_mul_right _ (Nat.le_of_lt hN4)) (Nat.le_of_ble_eq_true rfl)) hcells hslots rfl fun H1 cA e1 z1 o1 hAr hNm => ?_
  have hc : cA = gC G 0 := Option.some.inj (hNm.symm.trans (hK.2 0 _ rfl).2)
  subst hc
  exact kk H.size H1 (fresh_of hM) hM.2.1.1 (hM.up hN4 e1 z1 o1) ⟨Nat.le_trans hS.1 (by omega), fun x h1 h2 => (o1 x (Nat.lt_of_lt_of_le h1 hS.1)).trans (hS.2.1 x h1 h2), hS.2.2⟩
theorem c_SA (hx : p.tables.exec = Jvm.exec) (hb : c.code = cc) (hml : c.maxLocals = nL) (hown : s.vm.findClass own = some m.cls) (hts : KK s) (hV : (gS G).vm.Alike s.vm) (hM : Mh G M H) (hS : va_S (gA G) H0 H locs) (hk : KA G l y bytes maxL ret rm As M r Φ nc ns) (w : pkgS y bytes maxL ret n) (hl : (Cond.methodLink own idx y).before args s = true)
    (hrm : (rm.cells = nc ∧ rm.slots = ns) ∧ rm.frames + 1 ≤ R.frames ∧ 8 + (maxL + 11) + rm.locals ≤ R.locals) (hcs : cells + nc ≤ R.cells ∧ slots + ns ≤ R.slots) (hn : As.length = n) (hsz : ls.size = nL) (hst : st0 = As.reverse ++ rest) (hW : (rest.map fun v => v.category).sum ≤ 8) (hdg : decode cc pc = .ok (.invokestatic idx, 3))
    (kk : ∀ (M1 : Mem) (H1 : Heap) (locs1 : List Loc), Φ M1 → Mh G M1 H1 → va_S (gA G) H0 H1 locs1 → W p l e R s m args below meth c H1 locs1 (cells + nc) (slots + ns) Q (F0 m (pc + 3) ls (r :: rest))) : W p l e R s m args below meth c H locs cells slots Q (F0 m pc ls st0) := by
  obtain ⟨⟨w1, w2⟩, w3, w5, w6⟩ := w
  have hcw : CallB R s args own idx y bytes maxL ret [.code y bytes maxL ret] rm nc ns n ∧ (Cond.static y).before args s = true := by
    refine ⟨⟨hrm.1.1, hrm.1.2, hrm.2.1, hrm.2.2, code_moves (fun _ _ _ _ _ => trivial) hts w1 rfl, List.mem_singleton.mpr rfl, hts.1 _ w1 rfl _, hts.1 _ w2 rfl _, w5, fun sig h => ?_, hl⟩, hts.1 _ w3 rfl _⟩
    rw [h] at w6
    exact (Option.some.inj w6).symm
  have hr := va_runS (e := e) (below := below) (meth := meth) (cells := cells) (slots := slots) (locs := locs) (g := F0 m pc ls st0) (rest := rest) (Ts := []) ⟨hx, hb, hml, hown, fun _ h => absurd h List.not_mem_nil⟩ hk hcw ⟨pre_blind, fun U hU hW1 => ⟨rfl, hts.moves hW1, ⟨hV.trans hW1.alike, by rw [hU]; exact hM⟩⟩⟩ rfl hn hsz hst (lv_room hW) hdg hcs
  intro T hT X
  obtain ⟨v, st₀, t, T', L, h0, X', hL, e1, e2, ⟨hv, ⟨M1, hΦ, hM1⟩, hz, hk1⟩, st⟩ := hr T hT X
  cases hv
  rw [h0] at hz hk1
  obtain ⟨t2, a1, b1⟩ := kk M1 T'.heap (locs ++ L) hΦ (by rw [e1]; exact hM1)
    ⟨Nat.le_trans hS.1 (by rw [e1]; exact hz), fun q h1 h2 => by rw [e1, hk1 q (Nat.lt_of_lt_of_le h1 hS.1) h2]; exact hS.2.1 q h1 h2, fun q hq => by
      rcases List.mem_append.mp hq with h | h
      · exact hS.2.2 q h
      · exact hL q h⟩ T' rfl X'
  exact ⟨t2, st t2 a1, b1⟩
end ALLOC
theorem startA {G : Gt} {l : Launch} {y : MethodName} {cc : ByteArray} {maxL : Nat} {ret : Option FieldType} {rm : Room} {As : List Value} {M : Mem} {r : Value} {Φ : Mem → Prop} {nc ns : Nat} (hy : plainName y.cls = true) (hlen : (lg_sl As).length ≤ maxL)
    (body : ∀ (p : Program) (e : Env) (s : State) (m : MethodId) (args : Array Value) (below : List Frame) (meth : Method) (c : Code) (ls : Array Slot), p.tables.exec = Jvm.exec → c.code = cc → meth.sig.returnType = ret → s.vm.findClass y.cls = some m.cls → c.maxLocals = maxL → meth.locks = false → KK s → (gS G).vm.Alike s.vm → Mh G M s.heap → lv_has ls maxL (lv_args 0 As) →
      W p l e rm s m args below meth c s.heap [] 0 0 (MQ below (fun _ st oc t => oc = .returned (some r) ∧ (∃ M', Φ M' ∧ Mh G M' t.heap) ∧ va_F (gA G) st t) args s nc ns (gA G)) (F0 m 0 ls [])) : KA G l y cc maxL ret rm As M r Φ nc ns := by
  refine Met.ofW (cc := cc) (maxL := maxL) (ret := ret) hy rfl ?_
  intro p e s m args below meth c s₁ B hml hv
  obtain ⟨rfl, hts, hV, hM⟩ := hv
  have hl := lv_entry As (n := maxL) hlen
  rw [lg_entry_eq]
  exact body p e s m _ below meth c _ B.exec B.bytes B.returns (findClass_of_methodNamed B.named) hml B.notSynchronized hts hV hM hl
/-- what 'reason' does, over the rows that it makes -/
def HR (G : Gt) (o e w c p : Nat) (v r : Int32) (M : Mem) (Φ : Mem → Prop) : Prop := ∀ x y z, fresh G x → gB G ≤ x → fresh (gN G x 60) y → gB G ≤ y → fresh (gN (gN G x 60) y 14) z → gB G ≤ z → ∃ M', f_sreason o e w c p v x y z (sA (sA (sA M x fun _ => 0) y fun _ => 0) z fun _ => 0) = some (r, M') ∧ Φ M'
set_option maxHeartbeats 4000000 in
set_option maxRecDepth 100000 in
theorem k_L_reason (G : Gt) (hG : gOK G) (l : Launch) (a0 : Nat) (h0 : gK G a0 = 9) (a1 : Nat) (h1 : gK G a1 = 1060) (a2 : Nat) (h2 : gK G a2 = 1014) (a3 : Nat) (h3 : gK G a3 = 1024) (a4 : Nat) (h4 : gK G a4 = 1064) (p5 : Int32) (M : Mem) {r : Int32} {Φ : Mem → Prop} (hf : HR G a0 a1 a2 a3 a4 p5 r M Φ) : KA G l yL_reason cL_reason 13 (some .int) ({ frames := 8, cells := 3, slots := 138, locals := 158 } : Room) [.ref a0, .ref a1, .ref a2, .ref a3, .ref a4, .int p5] M (.int r) Φ 3 138 := by
  refine startA (by decide) (Nat.le_of_ble_eq_true rfl) ?_
  intro p e s m args below meth c ls hx hb hr hown hml hlocks hts hV hM hl
  have hown : s.vm.findClass "FoldedVoicesLaw" = some m.cls := hown
  have hK := hG.1.moved hV
  have hS : va_S (gA G) s.heap s.heap [] := va_S.rf
  have hl : lv_has ls 13 [(0, .ref a0), (1, .ref a1), (2, .ref a2), (3, .ref a3), (4, .ref a4), (5, .int p5)] := hl
  refine lv_bipush (v := 60) hx hb dL_reason_0 (by decide) ?_
  refine s_newa (N := 60) hx hb (tk_44 hts) hK hM hS (by decide) (by decide) (by decide) (Nat.le_of_ble_eq_true rfl) (Nat.le_of_ble_eq_true rfl) dL_reason_2 (fun x H hx0 hxB hM hS => ?_)
  have hG1 := gN_ok (N := 60) hG hx0 hxB (by decide)
  refine lv_astore (lv' := [(6, .ref x), (0, .ref a0), (1, .ref a1), (2, .ref a2), (3, .ref a3), (4, .ref a4), (5, .int p5)]) hx hb dL_reason_4 hl (by decide) rfl (fun ls hl => ?_)
  refine lv_bipush (v := 14) hx hb dL_reason_6 (by decide) ?_
  refine s_newa (G := gN G x 60) (N := 14) hx hb (tk_44 hts) hK hM hS (by decide) (by decide) (by decide) (Nat.le_of_ble_eq_true rfl) (Nat.le_of_ble_eq_true rfl) dL_reason_8 (fun y H hy0 hyB hM hS => ?_)
  have hG2 := gN_ok (N := 14) hG1 hy0 hyB (by decide)
  refine lv_astore (lv' := [(7, .ref y), (6, .ref x), (0, .ref a0), (1, .ref a1), (2, .ref a2), (3, .ref a3), (4, .ref a4), (5, .int p5)]) hx hb dL_reason_10 hl (by decide) rfl (fun ls hl => ?_)
  refine lv_bipush (v := 64) hx hb dL_reason_12 (by decide) ?_
  refine s_newa (G := gN (gN G x 60) y 14) (N := 64) hx hb (tk_44 hts) hK hM hS (by decide) (by decide) (by decide) (Nat.le_of_ble_eq_true rfl) (Nat.le_of_ble_eq_true rfl) dL_reason_14 (fun z H hz0 hzB hM hS => ?_)
  have hG3 := gN_ok (N := 64) hG2 hz0 hzB (by decide)
  refine lv_astore (lv' := [(8, .ref z), (7, .ref y), (6, .ref x), (0, .ref a0), (1, .ref a1), (2, .ref a2), (3, .ref a3), (4, .ref a4), (5, .int p5)]) hx hb dL_reason_16 hl (by decide) rfl (fun ls hl => ?_)
  obtain ⟨M', hf, hΦ⟩ := hf x y z hx0 hxB hy0 hyB hz0 hzB
  have up : ∀ {b k : Nat}, gK G b = k → ((1 ≤ k ∧ k ≤ 9) ∨ 1000 ≤ k) → gK (gN (gN (gN G x 60) y 14) z 64) b = k := fun hb hk => gN_old hz0 (gN_old hy0 (gN_old hx0 hb hk) hk) hk
  refine k_sreason (gN (gN (gN G x 60) y 14) z 64) hG3 l hx hb hml hown hts hV a0 (up h0 (by omega)) a1 (up h1 (by omega)) a2 (up h2 (by omega)) a3 (up h3 (by omega)) a4 (up h4 (by omega)) p5 x (gN_old hz0 (gN_old hy0 gN_new (by omega)) (by omega)) y (gN_old hz0 gN_new (by omega)) z gN_new _ hf ⟨Nat.le_of_ble_eq_true rfl, Nat.le_of_ble_eq_true rfl⟩ (fun H locs ls hM hS hl => ?_) H _ ls hM hS (lv_sub hl [3, 4, 5, 6, 7, 8, 2, 1, 0] rfl)
  have hM1 : Mh G M' H := ((hM.down hz0 (by decide)).down hy0 (by decide)).down hx0 (by decide)
  exact W.iret hx hb hr (fun t ht _ => ⟨rfl, ⟨M', hΦ, by rw [ht]; exact hM1⟩, hS.F ht⟩) hS.2.2 dL_reason_354 hlocks
/-- what 'would' does, over the row that it makes -/
def HW (G : Gt) (o e : Nat) (v z : Int32) (M : Mem) (Φ : Mem → Prop) : Prop := ∃ (o4 o5 o6 o9 : Int32) (M1 : Mem), f_swould0 o e v z M = some (o4, o5, o6, o9, M1) ∧ ∀ x, fresh G x → gB G ≤ x → ∃ M', f_swould1 o e v o4 o5 o6 o9 x (sA M1 x fun _ => 0) = some (1, M') ∧ Φ M'
set_option maxHeartbeats 4000000 in
set_option maxRecDepth 100000 in
theorem k_L_would (G : Gt) (hG : gOK G) (l : Launch) (a0 : Nat) (h0 : gK G a0 = 9) (a1 : Nat) (h1 : gK G a1 = 1060) (p2 p3 : Int32) (M : Mem) {Φ : Mem → Prop} (hf : HW G a0 a1 p2 p3 M Φ) : KA G l yL_would cL_would 12 (some .boolean) ({ frames := 8, cells := 1, slots := 2, locals := 127 } : Room) [.ref a0, .ref a1, .int p2, .int p3] M (.int 1) Φ 1 2 := by
  refine startA (by decide) (Nat.le_of_ble_eq_true rfl) ?_
  intro p e s m args below meth c ls hx hb hr hown hml hlocks hts hV hM hl
  have hown : s.vm.findClass "FoldedVoicesLaw" = some m.cls := hown
  have hK := hG.1.moved hV
  have hS : va_S (gA G) s.heap s.heap [] := va_S.rf
  have hl : lv_has ls 12 [(0, .ref a0), (1, .ref a1), (2, .int p2), (3, .int p3)] := hl
  obtain ⟨o4, o5, o6, o9, M1, e1, hf⟩ := hf
  refine k_swould0 G hG l hx hb hml hown hts hV a0 h0 a1 h1 p2 p3 M e1 ⟨Nat.zero_le _, Nat.zero_le _⟩ (fun H locs ls hM hS hl => ?_) _ _ ls hM hS hl
  refine lv_iconst (v := 2) hx hb dL_would_228 (by decide) ?_
  refine s_newa (N := 2) hx hb (tk_44 hts) hK hM hS (by decide) (by decide) (by decide) (Nat.le_of_ble_eq_true rfl) (Nat.le_of_ble_eq_true rfl) dL_would_229 (fun x H hx0 hxB hM hS => ?_)
  have hG1 := gN_ok (N := 2) hG hx0 hxB (by decide)
  refine lv_astore (lv' := [(10, .ref x), (0, .ref a0), (1, .ref a1), (2, .int p2), (3, .int p3), (4, .int o4), (5, .int o5), (6, .int o6), (9, .int o9)]) hx hb dL_would_231 hl (by decide) rfl (fun ls hl => ?_)
  obtain ⟨M', hf, hΦ⟩ := hf x hx0 hxB
  refine k_swould1 (gN G x 2) hG1 l hx hb hml hown hts hV a0 (gN_old hx0 h0 (by omega)) a1 (gN_old hx0 h1 (by omega)) p2 o4 o5 o6 o9 x gN_new _ hf ⟨Nat.le_of_ble_eq_true rfl, Nat.le_of_ble_eq_true rfl⟩ (fun H locs ls hM hS hl => ?_) H _ ls hM hS (lv_sub hl [1, 2, 3, 5, 6, 7, 8, 0] rfl)
  exact W.zret hx hb hr (nz_n (Or.inr rfl)) (fun t ht _ => ⟨rfl, ⟨M', hΦ, by rw [ht]; exact hM.down hx0 (by decide)⟩, hS.F ht⟩) hS.2.2 dL_would_338 hlocks
