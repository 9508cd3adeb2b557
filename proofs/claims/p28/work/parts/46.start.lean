/-! the law's start -/
def Kpk (o : Nat) : Nat := ([3, 1008, 1008, 1] : List Nat).getD o 0
def Kvo (o : Nat) : Nat := if o < 12 then ([8, 4, 1, 3, 1008, 1008, 1, 1, 1072, 2, 1, 6008] : List Nat).getD o 0 else if o < 44 then Kpk ((o - 12) % 4) else 0
def Kst (o : Nat) : Nat := if o < 4 then ([6, 7003, 5, 1004] : List Nat).getD o 0 else if o < 136 then Kvo ((o - 4) % 44) else 0
/-- the kind of the cell that lies o behind the start -/
def Kof (o : Nat) : Nat := if o = 0 then 9 else if o < 137 then Kst (o - 1) else if o < 273 then Kst (o - 137) else if o < 279 then ([8006, 7, 5060, 1, 2, 1] : List Nat).getD (o - 273) 0 else if o < 1095 then Kst ((o - 279) % 136) else ([1060, 1014, 1024, 1064, 1064, 1064] : List Nat).getD (o - 1095) 0
def Kch (o : Nat) : Bool := match Kof o with
  | 2 => Kof (o + 1) == 1
  | 3 => Kof (o + 1) == 1008 && Kof (o + 2) == 1008 && Kof (o + 3) == 1
  | 4 => Kof (o + 1) == 1 && Kof (o + 2) == 3 && Kof (o + 6) == 1 && Kof (o + 7) == 1072
  | 5 => Kof (o + 1) == 1004
  | 6 => Kof (o + 1) == 7003 && Kof (o + 2) == 5
  | 7 => Kof (o + 1) == 5060
  | 8 => Kof (o + 1) == 4 && Kof (o + 9) == 2 && Kof (o + 11) == 6008
  | 9 => Kof (o + 1) == 6 && Kof (o + 137) == 6 && Kof (o + 273) == 8006 && Kof (o + 274) == 7 && Kof (o + 276) == 1 && Kof (o + 277) == 2
  | 7003 => (List.range 3).all fun j => Kof (o + 3 + 44 * j) == 8
  | 6008 => (List.range 8).all fun j => Kof (o + 1 + 4 * j) == 3
  | 8006 => (List.range 6).all fun j => Kof (o + 6 + 136 * j) == 6
  | _ => true
theorem Kch_all : (List.range 1101).all Kch = true := by decide +kernel
theorem Kof_out {o : Nat} (h : 1101 ≤ o) : Kof o = 0 := by
  unfold Kof
  rw [if_neg (by omega), if_neg (by omega), if_neg (by omega), if_neg (by omega), if_neg (by omega), List.getD_eq_getElem?_getD, List.getElem?_eq_none (by simp; omega)]
  rfl
theorem Kch_at {o n : Nat} (h : Kof o = n) (hn : n ≠ 0) : Kch o = true := by
  by_cases ho : o < 1101
  · exact List.all_eq_true.mp Kch_all o (List.mem_range.mpr ho)
  · exact absurd (h.symm.trans (Kof_out (by omega))) hn
def gKof (B a : Nat) : Nat := if a < B then 0 else Kof (a - B)
theorem gKof_at {B a n d : Nat} (h : gKof B a = n) (hn : n ≠ 0) : B ≤ a ∧ Kof (a - B) = n ∧ gKof B (a + d) = Kof (a - B + d) := by
  unfold gKof at h
  split at h
  · exact absurd h.symm hn
  · refine ⟨by omega, h, ?_⟩
    unfold gKof
    rw [if_neg (by omega)]
    congr 1
    omega
theorem Kk_2 {B a : Nat} (h : gKof B a = 2) : gKof B (a + 1) = 1 := by
  have hb := gKof_at (d := 0) h (by decide)
  have hc := Kch_at hb.2.1 (by decide)
  simp only [Kch, hb.2.1, Bool.and_eq_true, beq_iff_eq] at hc
  have h1 := (gKof_at (d := 1) h (by decide)).2.2
  simp only [h1]
  exact hc
theorem Kk_3 {B a : Nat} (h : gKof B a = 3) : gKof B (a + 1) = 1008 ∧ gKof B (a + 2) = 1008 ∧ gKof B (a + 3) = 1 := by
  have hb := gKof_at (d := 0) h (by decide)
  have hc := Kch_at hb.2.1 (by decide)
  simp only [Kch, hb.2.1, Bool.and_eq_true, beq_iff_eq] at hc
  have h1 := (gKof_at (d := 1) h (by decide)).2.2
  have h2 := (gKof_at (d := 2) h (by decide)).2.2
  have h3 := (gKof_at (d := 3) h (by decide)).2.2
  simp only [h1, h2, h3]
  exact ⟨hc.1.1, hc.1.2, hc.2⟩
theorem Kk_4 {B a : Nat} (h : gKof B a = 4) : gKof B (a + 1) = 1 ∧ gKof B (a + 2) = 3 ∧ gKof B (a + 6) = 1 ∧ gKof B (a + 7) = 1072 := by
  have hb := gKof_at (d := 0) h (by decide)
  have hc := Kch_at hb.2.1 (by decide)
  simp only [Kch, hb.2.1, Bool.and_eq_true, beq_iff_eq] at hc
  have h1 := (gKof_at (d := 1) h (by decide)).2.2
  have h2 := (gKof_at (d := 2) h (by decide)).2.2
  have h6 := (gKof_at (d := 6) h (by decide)).2.2
  have h7 := (gKof_at (d := 7) h (by decide)).2.2
  simp only [h1, h2, h6, h7]
  exact ⟨hc.1.1.1, hc.1.1.2, hc.1.2, hc.2⟩
theorem Kk_5 {B a : Nat} (h : gKof B a = 5) : gKof B (a + 1) = 1004 := by
  have hb := gKof_at (d := 0) h (by decide)
  have hc := Kch_at hb.2.1 (by decide)
  simp only [Kch, hb.2.1, Bool.and_eq_true, beq_iff_eq] at hc
  have h1 := (gKof_at (d := 1) h (by decide)).2.2
  simp only [h1]
  exact hc
theorem Kk_6 {B a : Nat} (h : gKof B a = 6) : gKof B (a + 1) = 7003 ∧ gKof B (a + 2) = 5 := by
  have hb := gKof_at (d := 0) h (by decide)
  have hc := Kch_at hb.2.1 (by decide)
  simp only [Kch, hb.2.1, Bool.and_eq_true, beq_iff_eq] at hc
  have h1 := (gKof_at (d := 1) h (by decide)).2.2
  have h2 := (gKof_at (d := 2) h (by decide)).2.2
  simp only [h1, h2]
  exact ⟨hc.1, hc.2⟩
theorem Kk_7 {B a : Nat} (h : gKof B a = 7) : gKof B (a + 1) = 5060 := by
  have hb := gKof_at (d := 0) h (by decide)
  have hc := Kch_at hb.2.1 (by decide)
  simp only [Kch, hb.2.1, Bool.and_eq_true, beq_iff_eq] at hc
  have h1 := (gKof_at (d := 1) h (by decide)).2.2
  simp only [h1]
  exact hc
theorem Kk_8 {B a : Nat} (h : gKof B a = 8) : gKof B (a + 1) = 4 ∧ gKof B (a + 9) = 2 ∧ gKof B (a + 11) = 6008 := by
  have hb := gKof_at (d := 0) h (by decide)
  have hc := Kch_at hb.2.1 (by decide)
  simp only [Kch, hb.2.1, Bool.and_eq_true, beq_iff_eq] at hc
  have h1 := (gKof_at (d := 1) h (by decide)).2.2
  have h9 := (gKof_at (d := 9) h (by decide)).2.2
  have h11 := (gKof_at (d := 11) h (by decide)).2.2
  simp only [h1, h9, h11]
  exact ⟨hc.1.1, hc.1.2, hc.2⟩
theorem Kk_9 {B a : Nat} (h : gKof B a = 9) : gKof B (a + 1) = 6 ∧ gKof B (a + 137) = 6 ∧ gKof B (a + 273) = 8006 ∧ gKof B (a + 274) = 7 ∧ gKof B (a + 276) = 1 ∧ gKof B (a + 277) = 2 := by
  have hb := gKof_at (d := 0) h (by decide)
  have hc := Kch_at hb.2.1 (by decide)
  simp only [Kch, hb.2.1, Bool.and_eq_true, beq_iff_eq] at hc
  have h1 := (gKof_at (d := 1) h (by decide)).2.2
  have h137 := (gKof_at (d := 137) h (by decide)).2.2
  have h273 := (gKof_at (d := 273) h (by decide)).2.2
  have h274 := (gKof_at (d := 274) h (by decide)).2.2
  have h276 := (gKof_at (d := 276) h (by decide)).2.2
  have h277 := (gKof_at (d := 277) h (by decide)).2.2
  simp only [h1, h137, h273, h274, h276, h277]
  exact ⟨hc.1.1.1.1.1, hc.1.1.1.1.2, hc.1.1.1.2, hc.1.1.2, hc.1.2, hc.2⟩
theorem Kk_7003 {B a : Nat} (h : gKof B a = 7003) : ∀ j, j < 3 → gKof B (a + 3 + 44 * j) = 8 := by
  intro j hj
  have hb := gKof_at (d := 3 + 44 * j) h (by decide)
  have hc := Kch_at hb.2.1 (by decide)
  simp only [Kch, hb.2.1, List.all_eq_true, List.mem_range, beq_iff_eq] at hc
  rw [Nat.add_assoc, hb.2.2, ← Nat.add_assoc]
  exact hc j hj
theorem Kk_6008 {B a : Nat} (h : gKof B a = 6008) : ∀ j, j < 8 → gKof B (a + 1 + 4 * j) = 3 := by
  intro j hj
  have hb := gKof_at (d := 1 + 4 * j) h (by decide)
  have hc := Kch_at hb.2.1 (by decide)
  simp only [Kch, hb.2.1, List.all_eq_true, List.mem_range, beq_iff_eq] at hc
  rw [Nat.add_assoc, hb.2.2, ← Nat.add_assoc]
  exact hc j hj
theorem Kk_8006 {B a : Nat} (h : gKof B a = 8006) : ∀ j, j < 6 → gKof B (a + 6 + 136 * j) = 6 := by
  intro j hj
  have hb := gKof_at (d := 6 + 136 * j) h (by decide)
  have hc := Kch_at hb.2.1 (by decide)
  simp only [Kch, hb.2.1, List.all_eq_true, List.mem_range, beq_iff_eq] at hc
  rw [Nat.add_assoc, hb.2.2, ← Nat.add_assoc]
  exact hc j hj
theorem KK_start {s : State} {x : Array Value} (hts : ∀ w ∈ lw_tbl, w.before x s = true) (hg : (Jvm.Cond.and given_1 narrow_1).before x s = true) : KK s := by
  have hs := flat_of_before _ hg
  refine ⟨fun w hw ht a => tw_moves (a := x) (State.WarmedH.refl s) ht (hts w hw), ?_⟩
  exact fun q hq => absurd hq List.not_mem_nil
theorem AO_start {s : State} {x : Array Value} (hts : ∀ w ∈ lw_tbl, w.before x s = true) : AOk s := ⟨va_AO.of (A := x) (hts _ (tin_1 (List.mem_of_getElem? (i := 207) (by decide +kernel)))), va_AO.of (A := x) (hts _ (tin_1 (List.mem_of_getElem? (i := 33) (by decide +kernel)))), va_AO.of (A := x) (hts _ (tin_1 (List.mem_of_getElem? (i := 239) (by decide +kernel))))⟩
set_option maxRecDepth 100000 in
theorem st_STEPS {s : State} {x : Array Value} {A : Nat → Prop} (hts : ∀ w ∈ lw_tbl, w.before x s = true) (hg : (Jvm.Cond.and given_1 narrow_1).before x s = true) (hA : ∀ a : Nat, a < s.heap.size → ¬ A a) : ∃ t : Nat, va_Z "FoldedVoices" "STEPS" "[I" (.ref t) A s s.heap ∧ va_T .int t 25 (fun j => .int (cSTEPS j)) A s s.heap := by
  have hs := flat_of_before _ hg
  have he : ∀ j : Nat, j < 25 → (Term.elem (.static "FoldedVoices" "STEPS" "[I") (.int (Int32.ofNat j))).eval x s none [] s = some (.int (cSTEPS j)) := fun j hj => by
    match j, hj with
    | 0, _ => exact va_eqt (t := .elem (.static "FoldedVoices" "STEPS" "[I") (.int 0)) (z := 8) (hs _ (by decide +kernel))
    | 1, _ => exact va_eqt (t := .elem (.static "FoldedVoices" "STEPS" "[I") (.int 1)) (z := 10) (hs _ (by decide +kernel))
    | 2, _ => exact va_eqt (t := .elem (.static "FoldedVoices" "STEPS" "[I") (.int 2)) (z := 12) (hs _ (by decide +kernel))
    | 3, _ => exact va_eqt (t := .elem (.static "FoldedVoices" "STEPS" "[I") (.int 3)) (z := 15) (hs _ (by decide +kernel))
    | 4, _ => exact va_eqt (t := .elem (.static "FoldedVoices" "STEPS" "[I") (.int 4)) (z := 18) (hs _ (by decide +kernel))
    | 5, _ => exact va_eqt (t := .elem (.static "FoldedVoices" "STEPS" "[I") (.int 5)) (z := 22) (hs _ (by decide +kernel))
    | 6, _ => exact va_eqt (t := .elem (.static "FoldedVoices" "STEPS" "[I") (.int 6)) (z := 27) (hs _ (by decide +kernel))
    | 7, _ => exact va_eqt (t := .elem (.static "FoldedVoices" "STEPS" "[I") (.int 7)) (z := 33) (hs _ (by decide +kernel))
    | 8, _ => exact va_eqt (t := .elem (.static "FoldedVoices" "STEPS" "[I") (.int 8)) (z := 41) (hs _ (by decide +kernel))
    | 9, _ => exact va_eqt (t := .elem (.static "FoldedVoices" "STEPS" "[I") (.int 9)) (z := 51) (hs _ (by decide +kernel))
    | 10, _ => exact va_eqt (t := .elem (.static "FoldedVoices" "STEPS" "[I") (.int 10)) (z := 63) (hs _ (by decide +kernel))
    | 11, _ => exact va_eqt (t := .elem (.static "FoldedVoices" "STEPS" "[I") (.int 11)) (z := 78) (hs _ (by decide +kernel))
    | 12, _ => exact va_eqt (t := .elem (.static "FoldedVoices" "STEPS" "[I") (.int 12)) (z := 97) (hs _ (by decide +kernel))
    | 13, _ => exact va_eqt (t := .elem (.static "FoldedVoices" "STEPS" "[I") (.int 13)) (z := 121) (hs _ (by decide +kernel))
    | 14, _ => exact va_eqt (t := .elem (.static "FoldedVoices" "STEPS" "[I") (.int 14)) (z := 151) (hs _ (by decide +kernel))
    | 15, _ => exact va_eqt (t := .elem (.static "FoldedVoices" "STEPS" "[I") (.int 15)) (z := 188) (hs _ (by decide +kernel))
    | 16, _ => exact va_eqt (t := .elem (.static "FoldedVoices" "STEPS" "[I") (.int 16)) (z := 235) (hs _ (by decide +kernel))
    | 17, _ => exact va_eqt (t := .elem (.static "FoldedVoices" "STEPS" "[I") (.int 17)) (z := 293) (hs _ (by decide +kernel))
    | 18, _ => exact va_eqt (t := .elem (.static "FoldedVoices" "STEPS" "[I") (.int 18)) (z := 366) (hs _ (by decide +kernel))
    | 19, _ => exact va_eqt (t := .elem (.static "FoldedVoices" "STEPS" "[I") (.int 19)) (z := 457) (hs _ (by decide +kernel))
    | 20, _ => exact va_eqt (t := .elem (.static "FoldedVoices" "STEPS" "[I") (.int 20)) (z := 571) (hs _ (by decide +kernel))
    | 21, _ => exact va_eqt (t := .elem (.static "FoldedVoices" "STEPS" "[I") (.int 21)) (z := 713) (hs _ (by decide +kernel))
    | 22, _ => exact va_eqt (t := .elem (.static "FoldedVoices" "STEPS" "[I") (.int 22)) (z := 891) (hs _ (by decide +kernel))
    | 23, _ => exact va_eqt (t := .elem (.static "FoldedVoices" "STEPS" "[I") (.int 23)) (z := 1113) (hs _ (by decide +kernel))
    | 24, _ => exact va_eqt (t := .elem (.static "FoldedVoices" "STEPS" "[I") (.int 24)) (z := 1391) (hs _ (by decide +kernel))
    | j + 25, hj => omega
  obtain ⟨t, h1, h2⟩ := va_Tof (N := 25) (f := fun j => .int (cSTEPS j)) (A := A) (tm := .static "FoldedVoices" "STEPS" "[I") (ty := .int) (by decide) (hs _ (by decide +kernel)) (va_eqt (t := .length (.static "FoldedVoices" "STEPS" "[I")) (z := 25) (hs _ (by decide +kernel))) he hA
  exact ⟨t, va_Zof (hts _ (tin_2 (List.mem_of_getElem? (i := 166) (by decide +kernel)))) (hts _ (tin_1 (List.mem_of_getElem? (i := 1) (by decide +kernel)))) h1 hA, h2⟩
set_option maxRecDepth 100000 in
theorem st_LEAST_SETTINGS {s : State} {x : Array Value} {A : Nat → Prop} (hts : ∀ w ∈ lw_tbl, w.before x s = true) (hg : (Jvm.Cond.and given_1 narrow_1).before x s = true) (hA : ∀ a : Nat, a < s.heap.size → ¬ A a) : ∃ t : Nat, va_Z "FoldedVoices" "LEAST_SETTINGS" "[I" (.ref t) A s s.heap ∧ va_T .int t 4 (fun j => .int (cLEAST j)) A s s.heap := by
  have hs := flat_of_before _ hg
  have he : ∀ j : Nat, j < 4 → (Term.elem (.static "FoldedVoices" "LEAST_SETTINGS" "[I") (.int (Int32.ofNat j))).eval x s none [] s = some (.int (cLEAST j)) := fun j hj => by
    match j, hj with
    | 0, _ => exact va_eqt (t := .elem (.static "FoldedVoices" "LEAST_SETTINGS" "[I") (.int 0)) (z := 1) (hs _ (by decide +kernel))
    | 1, _ => exact va_eqt (t := .elem (.static "FoldedVoices" "LEAST_SETTINGS" "[I") (.int 1)) (z := 0) (hs _ (by decide +kernel))
    | 2, _ => exact va_eqt (t := .elem (.static "FoldedVoices" "LEAST_SETTINGS" "[I") (.int 2)) (z := 1) (hs _ (by decide +kernel))
    | 3, _ => exact va_eqt (t := .elem (.static "FoldedVoices" "LEAST_SETTINGS" "[I") (.int 3)) (z := 1) (hs _ (by decide +kernel))
    | j + 4, hj => omega
  obtain ⟨t, h1, h2⟩ := va_Tof (N := 4) (f := fun j => .int (cLEAST j)) (A := A) (tm := .static "FoldedVoices" "LEAST_SETTINGS" "[I") (ty := .int) (by decide) (hs _ (by decide +kernel)) (va_eqt (t := .length (.static "FoldedVoices" "LEAST_SETTINGS" "[I")) (z := 4) (hs _ (by decide +kernel))) he hA
  exact ⟨t, va_Zof (hts _ (tin_4 (List.mem_of_getElem? (i := 36) (by decide +kernel)))) (hts _ (tin_1 (List.mem_of_getElem? (i := 1) (by decide +kernel)))) h1 hA, h2⟩
set_option maxRecDepth 100000 in
theorem st_MOST_SETTINGS {s : State} {x : Array Value} {A : Nat → Prop} (hts : ∀ w ∈ lw_tbl, w.before x s = true) (hg : (Jvm.Cond.and given_1 narrow_1).before x s = true) (hA : ∀ a : Nat, a < s.heap.size → ¬ A a) : ∃ t : Nat, va_Z "FoldedVoices" "MOST_SETTINGS" "[I" (.ref t) A s s.heap ∧ va_T .int t 4 (fun j => .int (cMOST j)) A s s.heap := by
  have hs := flat_of_before _ hg
  have he : ∀ j : Nat, j < 4 → (Term.elem (.static "FoldedVoices" "MOST_SETTINGS" "[I") (.int (Int32.ofNat j))).eval x s none [] s = some (.int (cMOST j)) := fun j hj => by
    match j, hj with
    | 0, _ => exact va_eqt (t := .elem (.static "FoldedVoices" "MOST_SETTINGS" "[I") (.int 0)) (z := 4) (hs _ (by decide +kernel))
    | 1, _ => exact va_eqt (t := .elem (.static "FoldedVoices" "MOST_SETTINGS" "[I") (.int 1)) (z := 99) (hs _ (by decide +kernel))
    | 2, _ => exact va_eqt (t := .elem (.static "FoldedVoices" "MOST_SETTINGS" "[I") (.int 2)) (z := 8) (hs _ (by decide +kernel))
    | 3, _ => exact va_eqt (t := .elem (.static "FoldedVoices" "MOST_SETTINGS" "[I") (.int 3)) (z := 9) (hs _ (by decide +kernel))
    | j + 4, hj => omega
  obtain ⟨t, h1, h2⟩ := va_Tof (N := 4) (f := fun j => .int (cMOST j)) (A := A) (tm := .static "FoldedVoices" "MOST_SETTINGS" "[I") (ty := .int) (by decide) (hs _ (by decide +kernel)) (va_eqt (t := .length (.static "FoldedVoices" "MOST_SETTINGS" "[I")) (z := 4) (hs _ (by decide +kernel))) he hA
  exact ⟨t, va_Zof (hts _ (tin_4 (List.mem_of_getElem? (i := 38) (by decide +kernel)))) (hts _ (tin_1 (List.mem_of_getElem? (i := 1) (by decide +kernel)))) h1 hA, h2⟩
theorem arr_start {s : State} {ty : FieldType} (hn : ∀ C, ty ≠ .object C) (hr : ty.isReference = false) (h : (Cond.arrayClass ty).before #[] s = true) : ∃ cA : ClassId, ArrOfT s cA ty ∧ va_RA s cA ty := by
  obtain ⟨c, k, comp, h1, h2, h3⟩ := Cond.arrayClass_spec (args := #[]) (first := s) (o := none) (s := s) (idx := []) (type := ty) h
  refine ⟨c, fun n z => ⟨fun k h => (by cases h), k, h2, comp, h3⟩, ?_⟩
  cases ty with
  | object C => exact absurd rfl (hn C)
  | _ => exact h1
theorem arrO_start {s : State} {C : String} (h : va_AO C s) : ∃ cA : ClassId, ArrOfT s cA (.object C) ∧ va_RA s cA (.object C) := by
  obtain ⟨comp, c, k, h1, -, h3, h4, h5⟩ := Cond.arrayOver_spec (args := #[]) (first := s) (o := none) (s := s) (idx := []) h
  exact ⟨c, fun n z => ⟨fun k h => (by cases h), k, h3, comp, h4⟩, k, comp, h3, h4, h1, h5⟩
/-- a world for the law at its start -/
theorem g_start {s : State} {x : Array Value} (hts : ∀ w ∈ lw_tbl, w.before x s = true) (hg : (Jvm.Cond.and given_1 narrow_1).before x s = true) : ∃ G : Gt, gS G = s ∧ gOK G ∧ wfM G (M0 G) ∧ ∀ a, gK G a = gKof s.heap.size a := by
  have hK := KK_start hts hg
  have hA := AO_start hts
  obtain ⟨c0, i0, e0⟩ := u_known (lay_0 (a := x) hK) (fun _ h => h) (n := 2) (hts _ (tin_1 (List.mem_of_getElem? (i := 57) (by decide +kernel))))
  obtain ⟨c1, i1, e1⟩ := u_known (lay_1 (a := x) hK) (fun _ h => h) (n := 10) (hts _ (tin_1 (List.mem_of_getElem? (i := 161) (by decide +kernel))))
  obtain ⟨c2, i2, e2⟩ := u_known (lay_2 (a := x) hK) (fun _ h => h) (n := 6) (hts _ (tin_1 (List.mem_of_getElem? (i := 77) (by decide +kernel))))
  obtain ⟨c3, i3, e3⟩ := u_known (lay_3 (a := x) hK) (fun _ h => h) (n := 11) (hts _ (tin_1 (List.mem_of_getElem? (i := 51) (by decide +kernel))))
  obtain ⟨c4, i4, e4⟩ := u_known (lay_4 (a := x) hK) (fun _ h => h) (n := 1) (hts _ (tin_1 (List.mem_of_getElem? (i := 35) (by decide +kernel))))
  obtain ⟨c5, i5, e5⟩ := u_known (lay_5 (a := x) hK) (fun _ h => h) (n := 2) (hts _ (tin_1 (List.mem_of_getElem? (i := 27) (by decide +kernel))))
  obtain ⟨c6, i6, e6⟩ := u_known (lay_6 (a := x) hK) (fun _ h => h) (n := 7) (hts _ (tin_2 (List.mem_of_getElem? (i := 1) (by decide +kernel))))
  obtain ⟨c7, i7, e7⟩ := u_known (lay_7 (a := x) hK) (fun _ h => h) (n := 5) (hts _ (tin_1 (List.mem_of_getElem? (i := 45) (by decide +kernel))))
  obtain ⟨c8, i8, e8⟩ := u_known (lay_8 (a := x) hK) (fun _ h => h) (n := 8) (hts _ (tin_1 (List.mem_of_getElem? (i := 19) (by decide +kernel))))
  obtain ⟨a0, b0⟩ := arr_start (s := s) (ty := .int) (fun C h => by cases h) rfl (hK.1 _ (tin_1 (List.mem_of_getElem? (i := 44) (by decide +kernel))) rfl #[])
  obtain ⟨a1, b1⟩ := arr_start (s := s) (ty := .char) (fun C h => by cases h) rfl (hK.1 _ (tin_2 (List.mem_of_getElem? (i := 22) (by decide +kernel))) rfl #[])
  obtain ⟨a2, b2⟩ := arrO_start hA.1
  obtain ⟨a3, b3⟩ := arrO_start hA.2.1
  obtain ⟨a4, b4⟩ := arrO_start hA.2.2
  have hB : ∀ a : Nat, a < s.heap.size → ¬ s.heap.size ≤ a := fun a h1 h2 => by omega
  refine ⟨(s, (fun c => match c with | 0 => c0 | 1 => c1 | 2 => c2 | 3 => c3 | 4 => c4 | 5 => c5 | 6 => c6 | 7 => c7 | _ => c8, fun c => match c with | 0 => i0 | 1 => i1 | 2 => i2 | 3 => i3 | 4 => i4 | 5 => i5 | 6 => i6 | 7 => i7 | _ => i8), (fun q => match q with | 0 => a0 | 1 => a1 | 2 => a2 | 3 => a3 | _ => a4), gKof s.heap.size), rfl, ⟨⟨fun c q hq => ?_, fun k q hq => ?_⟩, ?_, st_STEPS hts hg hB, st_LEAST_SETTINGS hts hg hB, st_MOST_SETTINGS hts hg hB⟩, ?_, fun _ => rfl⟩
  · match c, hq with
    | 0, hq => cases hq; exact e0
    | 1, hq => cases hq; exact e1
    | 2, hq => cases hq; exact e2
    | 3, hq => cases hq; exact e3
    | 4, hq => cases hq; exact e4
    | 5, hq => cases hq; exact e5
    | 6, hq => cases hq; exact e6
    | 7, hq => cases hq; exact e7
    | 8, hq => cases hq; exact e8
    | c + 9, hq => simp [vwCl] at hq
  · match k, hq with
    | 0, hq => cases hq; exact b0
    | 1, hq => cases hq; exact b1
    | 2, hq => cases hq; exact b2
    | 3, hq => cases hq; exact b3
    | 4, hq => cases hq; exact b4
    | k + 5, hq => simp [gT] at hq
  · exact ⟨fun _ => Kk_2, fun _ => Kk_3, fun _ => Kk_4, fun _ => Kk_5, fun _ => Kk_6, fun _ => Kk_7, fun _ => Kk_8, fun _ => Kk_9, fun _ => Kk_7003, fun a h => (gKof_at (B := s.heap.size) (a := a) (d := 0) rfl h).1⟩
  · refine ⟨fun a j h hj => ?_, fun a j h hj => ?_⟩
    · rw [m0_p h]; exact Kk_6008 h j hj
    · rw [m0_r h]; exact Kk_8006 h j hj
