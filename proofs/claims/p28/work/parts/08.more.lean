/-! copies of rows; the kinds' layout; what holds of the start -/
def cpI (M : Mem) (b a sp dp n : Nat) : Mem := (fun x => if x = a then va_cpy (M.1 b) (M.1 a) sp dp n else M.1 x, M.2)
theorem cel_cpI {G : Gt} {M : Mem} {b0 a sp dp n : Nat} (b : Nat) (hb : b ≠ a) : cel G (cpI M b0 a sp dp n) b = cel G M b := by
  have e1 : mI (cpI M b0 a sp dp n) b = mI M b := by funext j; simp [mI, cpI, hb]
  have e2 : mR (cpI M b0 a sp dp n) b = mR M b := rfl
  have e3 : mJ (cpI M b0 a sp dp n) b = mJ M b := rfl
  have e4 : mD (cpI M b0 a sp dp n) b = mD M b := rfl
  simp only [cel, cob, e1, e2, e3, e4]
theorem mI_cpI {M : Mem} {b a sp dp n x j : Nat} : mI (cpI M b a sp dp n) x j = if x = a ∧ (dp ≤ j ∧ j < dp + n) then mI M b (sp + (j - dp)) else mI M x j := by
  by_cases h : x = a
  · subst h
    by_cases h2 : dp ≤ j ∧ j < dp + n
    · simp [mI, cpI, va_cpy, h2]
    · simp [mI, cpI, va_cpy, h2]
  · simp [mI, cpI, h]
theorem mR_cpI {M : Mem} {b0 a sp dp n b j : Nat} : mR (cpI M b0 a sp dp n) b j = mR M b j := rfl
theorem mJ_cpI {M : Mem} {b0 a sp dp n b : Nat} : mJ (cpI M b0 a sp dp n) b = mJ M b := rfl
theorem mD_cpI {M : Mem} {b0 a sp dp n b : Nat} : mD (cpI M b0 a sp dp n) b = mD M b := rfl
section COPY
variable {p : Program} {l : Launch} {e : Env} {R : Room} {s : State} {m : MethodId} {args : Array Value} {below : List Frame} {meth : Method} {c : Code} {H : Heap} {locs : List Loc} {cells slots : Nat} {Q : State → Prop} {cc : ByteArray} {pc : Nat} {ls : Array Slot} {rest : List Value} {G : Gt} {M : Mem} {a b : Nat} {H0 : Heap}
theorem s_copy (n0 n1 : Nat) (hx : p.tables.exec = Jvm.exec) (hb : c.code = cc) (hml : c.maxLocals = ls.size) {own : String} {index : Nat} (hown : s.vm.findClass own = some m.cls) (hlink : (Cond.methodLink own index arraycopyName).before args s = true) (hnat : (Cond.native arraycopyName).before args s = true) (hstat : (Cond.static arraycopyName).before args s = true) (hini : (Cond.initialized "java/lang/System").before args s = true)
    (hK : va_K (gD G) vwCl (gT G) s) (hM : Mh G M H) (hS : va_S (gA G) H0 H locs) (hkb : gK G b = 1000 + n0) (hn0 : n0 < 4000) (hka : gK G a = 1000 + n1) (hn1 : n1 < 4000) (hB : gB G ≤ a) {sp dp n : Int32} (h123 : (¬ sp < 0 ∧ ¬ dp < 0 ∧ ¬ n < 0) ∧ sp.toNatClampNeg + n.toNatClampNeg ≤ n0 ∧ dp.toNatClampNeg + n.toNatClampNeg ≤ n1)
    (hframes : 1 ≤ R.frames) (hlocals : (rest.map fun v => v.category).sum + 18 ≤ R.locals) (hdg : decode cc pc = .ok (.invokestatic index, 3))
    (kk : ∀ (H1 : Heap) (locs1 : List Loc), Mh G (cpI M b a sp.toNatClampNeg dp.toNatClampNeg n.toNatClampNeg) H1 → va_S (gA G) H0 H1 locs1 → W p l e R s m args below meth c H1 locs1 cells slots Q (F0 m (pc + 3) ls rest)) : W p l e R s m args below meth c H locs cells slots Q (F0 m pc ls (.int n :: .int dp :: .ref a :: .int sp :: .ref b :: rest)) := by
  obtain ⟨⟨h1, h2, h3⟩, h4, h5⟩ := h123
  have nn : ∀ z : Int32, ¬ z < 0 → z.toInt = (z.toNatClampNeg : Int) := by
    intro z hz
    have hz0 : (0 : Int) ≤ z.toInt := by
      have := Int32.not_lt.mp hz
      simpa using Int32.le_iff_toInt_le.mp this
    show z.toInt = ((z.toInt.toNat : Nat) : Int)
    omega
  have hw : nativeFrameWords "java/lang/System" "arraycopy" 5 + 11 ≤ 18 := by decide
  have hc0 : H[b]? = some (vp_cell (gC G 0) (n0, .inl (mI M b))) := hM.one (cel_ia hkb hn0) 0 _ rfl
  have hc1 : H[a]? = some (vp_cell (gC G 0) (n1, .inl (mI M a))) := hM.one (cel_ia hka hn1) 0 _ rfl
  obtain ⟨-, k0, hk0, cm0, hkk0⟩ := (hK.2 0 _ rfl).1 n0 (fun j => .int (mI M b j))
  obtain ⟨-, k1, hk1, cm1, hkk1⟩ := (hK.2 0 _ rfl).1 n1 (fun j => .int (mI M a j))
  intro T hT X
  obtain ⟨vm', X', step⟩ := X.arraycopy hx hown hlink hnat hstat hini (src := b) (dst := a) (cs := vp_cell (gC G 0) (n0, .inl (mI M b))) (cd := vp_cell (gC G 0) (n1, .inl (mI M a))) (srcPos := sp) (destPos := dp) (n := n) (by rw [hT]; exact hc0) (by rw [hT]; exact hc1)
    (fun _ h => by cases h) (fun _ h => by cases h) (fun h => by cases h) (fun h => by cases h) hk0 hk1 hkk0 hkk1 (by simp [refKind]) h1 h2 h3
    (by rw [nn sp h1, nn n h3]; show ¬ _ > ((arrV (gC G 0) n0 (fun j => .int (mI M b j))).slots.size : Int); rw [arrV_size]; omega)
    (by rw [nn dp h2, nn n h3]; show ¬ _ > ((arrV (gC G 0) n1 (fun j => .int (mI M a j))).slots.size : Int); rw [arrV_size]; omega)
    (fun vm₁ _ i hi => by
      have e : (vp_cell (gC G 0) (n0, .inl (mI M b))).slots.getD (sp.toNatClampNeg + i) .null = .int (mI M b (sp.toNatClampNeg + i)) := by
        show (arrV (gC G 0) n0 (fun j => .int (mI M b j))).slots.getD _ _ = _
        rw [Array.getD_eq_getD_getElem?, arrV_read _ _ (by omega)]
        rfl
      refine ⟨?_, ?_⟩
      · rw [e]; rfl
      · rw [e]; exact trivial)
    (g := F0 m pc ls (.int n :: .int dp :: .ref a :: .int sp :: .ref b :: rest)) rfl (by rw [hml]) (rest := rest) rfl (by rw [hb]; exact hdg) hframes (by show 2 * 0 + _ + _ ≤ _; omega)
  have e1 : copied (vp_cell (gC G 0) (n0, .inl (mI M b))) (vp_cell (gC G 0) (n1, .inl (mI M a))) sp dp n = vp_cell (gC G 0) (n1, .inl (va_cpy (mI M b) (mI M a) sp.toNatClampNeg dp.toNatClampNeg n.toNatClampNeg)) := va_copied (fun z => .int z) _ _ _ _ h4
  rw [e1] at X' step
  have hl : a < H.size := (Array.getElem?_eq_some_iff.mp hc1).1
  have e2 : mI (cpI M b a sp.toNatClampNeg dp.toNatClampNeg n.toNatClampNeg) a = va_cpy (mI M b) (mI M a) sp.toNatClampNeg dp.toNatClampNeg n.toNatClampNeg := by funext j; simp [mI, cpI]; rfl
  have hheap : ((T.setVm vm').setCell a (vp_cell (gC G 0) (n1, .inl (va_cpy (mI M b) (mI M a) sp.toNatClampNeg dp.toNatClampNeg n.toNatClampNeg)))).heap = H.setIfInBounds a (vp_cell (gC G 0) (n1, .inl (va_cpy (mI M b) (mI M a) sp.toNatClampNeg dp.toNatClampNeg n.toNatClampNeg))) := by rw [← hT]; rfl
  have oq : ∀ q : Nat, q ≠ a → (H.setIfInBounds a (vp_cell (gC G 0) (n1, .inl (va_cpy (mI M b) (mI M a) sp.toNatClampNeg dp.toNatClampNeg n.toNatClampNeg))))[q]? = H[q]? := fun q hq => by simp [Array.getElem?_setIfInBounds, Ne.symm hq]
  have hc := cel_ia (M := cpI M b a sp.toNatClampNeg dp.toNatClampNeg n.toNatClampNeg) hka hn1
  rw [e2] at hc
  obtain ⟨t, a1, b1⟩ := kk _ _ (hM.put hc (show (H.setIfInBounds a _)[a]? = some _ by simp [Array.getElem?_setIfInBounds, hl]) (by simp) oq (fun x hx2 => cel_cpI x hx2) hB hM.2.2) ⟨by simp; exact hS.1, fun q g1 g2 => by
      rw [oq q (fun e => g2 (by rw [e]; exact hB))]
      exact hS.2.1 q g1 g2, fun q hq => by
      rcases List.mem_append.mp hq with h | h
      · exact hS.2.2 q h
      · obtain ⟨z, -, hz⟩ := List.mem_map.mp h
        rw [← hz]
        exact hB⟩ _ hheap X'
  exact ⟨t, step t a1, b1⟩
end COPY
def cSTEPS (j : Nat) : Int32 := ([8, 10, 12, 15, 18, 22, 27, 33, 41, 51, 63, 78, 97, 121, 151, 188, 235, 293, 366, 457, 571, 713, 891, 1113, 1391] : List Int32).getD j 0
def cLEAST (j : Nat) : Int32 := ([1, 0, 1, 1] : List Int32).getD j 0
def cMOST (j : Nat) : Int32 := ([4, 99, 8, 9] : List Int32).getD j 0
def gSt (G : Gt) (nm : String) (n : Nat) (f : Nat → Int32) : Prop := ∃ t : Nat, va_Z "FoldedVoices" nm "[I" (.ref t) (gA G) (gS G) (gS G).heap ∧ va_T .int t n (fun j => .int (f j)) (gA G) (gS G) (gS G).heap
/-- where the parts of an object lie -/
def gLy (G : Gt) : Prop := (∀ a, gK G a = 2 → gK G (a + 1) = 1) ∧ (∀ a, gK G a = 3 → gK G (a + 1) = 1008 ∧ gK G (a + 2) = 1008 ∧ gK G (a + 3) = 1) ∧ (∀ a, gK G a = 4 → gK G (a + 1) = 1 ∧ gK G (a + 2) = 3 ∧ gK G (a + 6) = 1 ∧ gK G (a + 7) = 1072) ∧ (∀ a, gK G a = 5 → gK G (a + 1) = 1004) ∧ (∀ a, gK G a = 6 → gK G (a + 1) = 7003 ∧ gK G (a + 2) = 5) ∧ (∀ a, gK G a = 7 → gK G (a + 1) = 5060) ∧ (∀ a, gK G a = 8 → gK G (a + 1) = 4 ∧ gK G (a + 9) = 2 ∧ gK G (a + 11) = 6008) ∧ (∀ a, gK G a = 9 → gK G (a + 1) = 6 ∧ gK G (a + 137) = 6 ∧ gK G (a + 273) = 8006 ∧ gK G (a + 274) = 7 ∧ gK G (a + 276) = 1 ∧ gK G (a + 277) = 2) ∧ (∀ a, gK G a = 7003 → ∀ j, j < 3 → gK G (a + 3 + 44 * j) = 8) ∧ (∀ a, gK G a ≠ 0 → gB G ≤ a)
def gOK (G : Gt) : Prop := va_K (gD G) vwCl (gT G) (gS G) ∧ gLy G ∧ gSt G "STEPS" 25 cSTEPS ∧ gSt G "LEAST_SETTINGS" 4 cLEAST ∧ gSt G "MOST_SETTINGS" 4 cMOST
theorem ky_2_0 {G : Gt} (h : gOK G) {a : Nat} (k : gK G a = 2) : gK G (a + 1) = 1 := h.2.1.1 a k
theorem ky_3_0 {G : Gt} (h : gOK G) {a : Nat} (k : gK G a = 3) : gK G (a + 1) = 1008 := (h.2.1.2.1 a k).1
theorem ky_3_1 {G : Gt} (h : gOK G) {a : Nat} (k : gK G a = 3) : gK G (a + 2) = 1008 := (h.2.1.2.1 a k).2.1
theorem ky_3_5 {G : Gt} (h : gOK G) {a : Nat} (k : gK G a = 3) : gK G (a + 3) = 1 := (h.2.1.2.1 a k).2.2
theorem ky_4_0 {G : Gt} (h : gOK G) {a : Nat} (k : gK G a = 4) : gK G (a + 1) = 1 := (h.2.1.2.2.1 a k).1
theorem ky_4_4 {G : Gt} (h : gOK G) {a : Nat} (k : gK G a = 4) : gK G (a + 2) = 3 := (h.2.1.2.2.1 a k).2.1
theorem ky_4_8 {G : Gt} (h : gOK G) {a : Nat} (k : gK G a = 4) : gK G (a + 6) = 1 := (h.2.1.2.2.1 a k).2.2.1
theorem ky_4_9 {G : Gt} (h : gOK G) {a : Nat} (k : gK G a = 4) : gK G (a + 7) = 1072 := (h.2.1.2.2.1 a k).2.2.2
theorem ky_5_0 {G : Gt} (h : gOK G) {a : Nat} (k : gK G a = 5) : gK G (a + 1) = 1004 := h.2.1.2.2.2.1 a k
theorem ky_6_0 {G : Gt} (h : gOK G) {a : Nat} (k : gK G a = 6) : gK G (a + 1) = 7003 := (h.2.1.2.2.2.2.1 a k).1
theorem ky_6_1 {G : Gt} (h : gOK G) {a : Nat} (k : gK G a = 6) : gK G (a + 2) = 5 := (h.2.1.2.2.2.2.1 a k).2
theorem ky_7_0 {G : Gt} (h : gOK G) {a : Nat} (k : gK G a = 7) : gK G (a + 1) = 5060 := h.2.1.2.2.2.2.2.1 a k
theorem ky_8_0 {G : Gt} (h : gOK G) {a : Nat} (k : gK G a = 8) : gK G (a + 1) = 4 := (h.2.1.2.2.2.2.2.2.1 a k).1
theorem ky_8_1 {G : Gt} (h : gOK G) {a : Nat} (k : gK G a = 8) : gK G (a + 9) = 2 := (h.2.1.2.2.2.2.2.2.1 a k).2.1
theorem ky_8_2 {G : Gt} (h : gOK G) {a : Nat} (k : gK G a = 8) : gK G (a + 11) = 6008 := (h.2.1.2.2.2.2.2.2.1 a k).2.2
theorem ky_9_0 {G : Gt} (h : gOK G) {a : Nat} (k : gK G a = 9) : gK G (a + 1) = 6 := (h.2.1.2.2.2.2.2.2.2.1 a k).1
theorem ky_9_1 {G : Gt} (h : gOK G) {a : Nat} (k : gK G a = 9) : gK G (a + 137) = 6 := (h.2.1.2.2.2.2.2.2.2.1 a k).2.1
theorem ky_9_3 {G : Gt} (h : gOK G) {a : Nat} (k : gK G a = 9) : gK G (a + 273) = 8006 := (h.2.1.2.2.2.2.2.2.2.1 a k).2.2.1
theorem ky_9_5 {G : Gt} (h : gOK G) {a : Nat} (k : gK G a = 9) : gK G (a + 274) = 7 := (h.2.1.2.2.2.2.2.2.2.1 a k).2.2.2.1
theorem ky_9_6 {G : Gt} (h : gOK G) {a : Nat} (k : gK G a = 9) : gK G (a + 276) = 1 := (h.2.1.2.2.2.2.2.2.2.1 a k).2.2.2.2.1
theorem ky_9_7 {G : Gt} (h : gOK G) {a : Nat} (k : gK G a = 9) : gK G (a + 277) = 2 := (h.2.1.2.2.2.2.2.2.2.1 a k).2.2.2.2.2
theorem ky_vs {G : Gt} (h : gOK G) {a : Nat} (k : gK G a = 7003) : ∀ j, j < 3 → gK G (a + 3 + 44 * j) = 8 := h.2.1.2.2.2.2.2.2.2.2.1 a k
theorem ky_B {G : Gt} (h : gOK G) {a : Nat} (k : gK G a ≠ 0) : gB G ≤ a := h.2.1.2.2.2.2.2.2.2.2.2 a k
theorem ky_b {G : Gt} (h : gOK G) {a n : Nat} (k : gK G a = n) (hn : n ≠ 0 := by decide) : gB G ≤ a := ky_B h (by rw [k]; exact hn)
theorem gA_old {G : Gt} : ∀ a : Nat, a < (gS G).heap.size → ¬ gA G a := fun _ h q => absurd h (Nat.not_lt.mpr q)
theorem gSt_at {G : Gt} {nm : String} {n : Nat} {f : Nat → Int32} {s : State} {M : Mem} (h : gSt G nm n f) (hV : (gS G).vm.Alike s.vm) (hM : Mh G M s.heap) : ∃ t : Nat, va_Z "FoldedVoices" nm "[I" (.ref t) (gA G) s s.heap ∧ va_T .int t n (fun j => .int (f j)) (gA G) s s.heap := by
  obtain ⟨t, h1, h2⟩ := h
  have hq : ∀ a : Nat, a < (gS G).heap.size → ¬ gA G a → s.heap[a]? = (gS G).heap[a]? := fun a ha _ => hM.2.1.2 a ha
  exact ⟨t, (h1.kept hq).moved hV, (h2.kept hq).moved hV⟩
theorem Mh.grow {G : Gt} {M : Mem} {H H1 : Heap} (h : Mh G M H) (hz : H.size ≤ H1.size) (hq : ∀ q : Nat, q < H.size → H1[q]? = H[q]?) : Mh G M H1 :=
  ⟨fun a e hc => (h.1 a e hc).kept (hq a (h.1 a e hc).lt), ⟨Nat.le_trans h.2.1.1 hz, fun q hlt => by rw [hq q (Nat.lt_of_lt_of_le hlt h.2.1.1)]; exact h.2.1.2 q hlt⟩, h.2.2⟩

