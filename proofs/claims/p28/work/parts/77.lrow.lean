/-! THE LAW'S OWN VOICES. Its four rows of ints; what it holds of a voice -/
theorem sI_eq {M : Mem} {a k : Nat} {x : Int32} : sI M a k x = sA M a (upd (mI M a) k x) := by
  rw [← sI_sA, sA_eq]
theorem sA_cm {M : Mem} {a b : Nat} {f g : Nat → Int32} (h : a ≠ b) : sA (sA M a f) b g = sA (sA M b g) a f := by
  show ((fun c => if c = b then g else if c = a then f else M.1 c), M.2) = ((fun c => if c = a then f else if c = b then g else M.1 c), M.2)
  congr 1
  funext c
  by_cases h1 : c = b
  · rw [if_pos h1, if_neg (fun z => h (z.symm.trans h1)), if_pos h1]
  · rw [if_neg h1, if_neg h1]
def D4 (e f c p : Nat) : Prop := e ≠ f ∧ e ≠ c ∧ e ≠ p ∧ f ≠ c ∧ f ≠ p ∧ c ≠ p
/-- a memory with these four rows -/
def T4 (e f c p : Nat) (M : Mem) (E F C P : Nat → Int32) : Mem := sA (sA (sA (sA M e E) f F) c C) p P
section T4
variable {e f c p k a : Nat} {M : Mem} {E F C P : Nat → Int32} {x : Int32}
theorem T_e (h : D4 e f c p) : mI (T4 e f c p M E F C P) e = E := by
  unfold T4
  rw [mI_sAn h.2.2.1, mI_sAn h.2.1, mI_sAn h.1, mI_sA]
theorem T_f (h : D4 e f c p) : mI (T4 e f c p M E F C P) f = F := by
  unfold T4
  rw [mI_sAn h.2.2.2.2.1, mI_sAn h.2.2.2.1, mI_sA]
theorem T_c (h : D4 e f c p) : mI (T4 e f c p M E F C P) c = C := by
  unfold T4
  rw [mI_sAn h.2.2.2.2.2, mI_sA]
theorem T_p : mI (T4 e f c p M E F C P) p = P := mI_sA
theorem T_o (h1 : a ≠ e) (h2 : a ≠ f) (h3 : a ≠ c) (h4 : a ≠ p) : mI (T4 e f c p M E F C P) a = mI M a := by
  unfold T4
  rw [mI_sAn h4, mI_sAn h3, mI_sAn h2, mI_sAn h1]
theorem T_id : T4 e f c p M (mI M e) (mI M f) (mI M c) (mI M p) = M := by
  unfold T4
  rw [sA_eq, sA_eq, sA_eq, sA_eq]
theorem S_p : sI (T4 e f c p M E F C P) p k x = T4 e f c p M E F C (upd P k x) := by
  unfold T4
  rw [sI_sA]
theorem S_c (h : D4 e f c p) : sI (T4 e f c p M E F C P) c k x = T4 e f c p M E F (upd C k x) P := by
  unfold T4
  rw [sI_sAn h.2.2.2.2.2, sI_sA]
theorem S_f (h : D4 e f c p) : sI (T4 e f c p M E F C P) f k x = T4 e f c p M E (upd F k x) C P := by
  unfold T4
  rw [sI_sAn h.2.2.2.2.1, sI_sAn h.2.2.2.1, sI_sA]
theorem S_e (h : D4 e f c p) : sI (T4 e f c p M E F C P) e k x = T4 e f c p M (upd E k x) F C P := by
  unfold T4
  rw [sI_sAn h.2.2.1, sI_sAn h.2.1, sI_sAn h.1, sI_sA]
theorem A_e (h : D4 e f c p) {g : Nat → Int32} : sA (T4 e f c p M E F C P) e g = T4 e f c p M g F C P := by
  unfold T4
  rw [sA_cm (Ne.symm h.2.2.1), sA_cm (Ne.symm h.2.1), sA_cm (Ne.symm h.1), sA_sA]
theorem A_p {g : Nat → Int32} : sA (T4 e f c p M E F C P) p g = T4 e f c p M E F C g := by
  unfold T4
  rw [sA_sA]
end T4
theorem gdi {a n : Nat} {β : Type} {x : Option β} (h : a < n) (hn : n < 100000) : gd (ix (nI a) n) x = x := gd_s (nI_ix h hn)
theorem iA_1 {a : Nat} : nI a + 1 = nI (a + 1) := zA (b := 1)
theorem iA_2 {a : Nat} : nI a + 2 = nI (a + 2) := zA (b := 2)
theorem iA_3 {a : Nat} : nI a + 3 = nI (a + 3) := zA (b := 3)
theorem iA_4 {a : Nat} : nI a + 4 = nI (a + 4) := zA (b := 4)
theorem iA_5 {a : Nat} : nI a + 5 = nI (a + 5) := zA (b := 5)
theorem iA_6 {a : Nat} : nI a + 6 = nI (a + 6) := zA (b := 6)
theorem iA_7 {a : Nat} : nI a + 7 = nI (a + 7) := zA (b := 7)
theorem iA_8 {a : Nat} : nI a + 8 = nI (a + 8) := zA (b := 8)
theorem iA_9 {a : Nat} : nI a + 9 = nI (a + 9) := zA (b := 9)
theorem iA_10 {a : Nat} : nI a + 10 = nI (a + 10) := zA (b := 10)
theorem iA_11 {a : Nat} : nI a + 11 = nI (a + 11) := zA (b := 11)
theorem iA_12 {a : Nat} : nI a + 12 = nI (a + 12) := zA (b := 12)
theorem iA_13 {a : Nat} : nI a + 13 = nI (a + 13) := zA (b := 13)
theorem iA_14 {a : Nat} : nI a + 14 = nI (a + 14) := zA (b := 14)
theorem iA_15 {a : Nat} : nI a + 15 = nI (a + 15) := zA (b := 15)
theorem iA_16 {a : Nat} : nI a + 16 = nI (a + 16) := zA (b := 16)
theorem iA_17 {a : Nat} : nI a + 17 = nI (a + 17) := zA (b := 17)
theorem iA_18 {a : Nat} : nI a + 18 = nI (a + 18) := zA (b := 18)
theorem iA_19 {a : Nat} : nI a + 19 = nI (a + 19) := zA (b := 19)
theorem iA_20 {a : Nat} : nI a + 20 = nI (a + 20) := zA (b := 20)
theorem Ai_1 {a : Nat} : (1 : Int32) + nI a = nI (1 + a) := zA (a := 1)
theorem Ai_2 {a : Nat} : (2 : Int32) + nI a = nI (2 + a) := zA (a := 2)
theorem Ai_3 {a : Nat} : (3 : Int32) + nI a = nI (3 + a) := zA (a := 3)
theorem Ai_5 {a : Nat} : (5 : Int32) + nI a = nI (5 + a) := zA (a := 5)
theorem Ai_6 {a : Nat} : (6 : Int32) + nI a = nI (6 + a) := zA (a := 6)
theorem Ai_9 {a : Nat} : (9 : Int32) + nI a = nI (9 + a) := zA (a := 9)
theorem Ai_16 {a : Nat} : (16 : Int32) + nI a = nI (16 + a) := zA (a := 16)
theorem Mi_8 {a : Nat} : (8 : Int32) * nI a = nI (8 * a) := zM (a := 8)
theorem Mi_16 {a : Nat} : (16 : Int32) * nI a = nI (16 * a) := zM (a := 16)
theorem Mi_20 {a : Nat} : (20 : Int32) * nI a = nI (20 * a) := zM (a := 20)
theorem gl_0 {n : Nat} {β : Type} {x : Option β} (h : 0 < n) (hn : n < 100000) : gd (ix (0 : Int32) n) x = x := gd_s (nI_ix (a := 0) h hn)
theorem cl_0 : (0 : Int32).toNatClampNeg = 0 := nI_clamp (n := 0) (by decide)
theorem gl_1 {n : Nat} {β : Type} {x : Option β} (h : 1 < n) (hn : n < 100000) : gd (ix (1 : Int32) n) x = x := gd_s (nI_ix (a := 1) h hn)
theorem cl_1 : (1 : Int32).toNatClampNeg = 1 := nI_clamp (n := 1) (by decide)
theorem gl_2 {n : Nat} {β : Type} {x : Option β} (h : 2 < n) (hn : n < 100000) : gd (ix (2 : Int32) n) x = x := gd_s (nI_ix (a := 2) h hn)
theorem cl_2 : (2 : Int32).toNatClampNeg = 2 := nI_clamp (n := 2) (by decide)
theorem gl_3 {n : Nat} {β : Type} {x : Option β} (h : 3 < n) (hn : n < 100000) : gd (ix (3 : Int32) n) x = x := gd_s (nI_ix (a := 3) h hn)
theorem cl_3 : (3 : Int32).toNatClampNeg = 3 := nI_clamp (n := 3) (by decide)
theorem gl_4 {n : Nat} {β : Type} {x : Option β} (h : 4 < n) (hn : n < 100000) : gd (ix (4 : Int32) n) x = x := gd_s (nI_ix (a := 4) h hn)
theorem cl_4 : (4 : Int32).toNatClampNeg = 4 := nI_clamp (n := 4) (by decide)
theorem gl_5 {n : Nat} {β : Type} {x : Option β} (h : 5 < n) (hn : n < 100000) : gd (ix (5 : Int32) n) x = x := gd_s (nI_ix (a := 5) h hn)
theorem cl_5 : (5 : Int32).toNatClampNeg = 5 := nI_clamp (n := 5) (by decide)
theorem gl_6 {n : Nat} {β : Type} {x : Option β} (h : 6 < n) (hn : n < 100000) : gd (ix (6 : Int32) n) x = x := gd_s (nI_ix (a := 6) h hn)
theorem cl_6 : (6 : Int32).toNatClampNeg = 6 := nI_clamp (n := 6) (by decide)
theorem gl_7 {n : Nat} {β : Type} {x : Option β} (h : 7 < n) (hn : n < 100000) : gd (ix (7 : Int32) n) x = x := gd_s (nI_ix (a := 7) h hn)
theorem cl_7 : (7 : Int32).toNatClampNeg = 7 := nI_clamp (n := 7) (by decide)
theorem gl_8 {n : Nat} {β : Type} {x : Option β} (h : 8 < n) (hn : n < 100000) : gd (ix (8 : Int32) n) x = x := gd_s (nI_ix (a := 8) h hn)
theorem cl_8 : (8 : Int32).toNatClampNeg = 8 := nI_clamp (n := 8) (by decide)
theorem gl_9 {n : Nat} {β : Type} {x : Option β} (h : 9 < n) (hn : n < 100000) : gd (ix (9 : Int32) n) x = x := gd_s (nI_ix (a := 9) h hn)
theorem cl_9 : (9 : Int32).toNatClampNeg = 9 := nI_clamp (n := 9) (by decide)
theorem gl_10 {n : Nat} {β : Type} {x : Option β} (h : 10 < n) (hn : n < 100000) : gd (ix (10 : Int32) n) x = x := gd_s (nI_ix (a := 10) h hn)
theorem cl_10 : (10 : Int32).toNatClampNeg = 10 := nI_clamp (n := 10) (by decide)
theorem gl_11 {n : Nat} {β : Type} {x : Option β} (h : 11 < n) (hn : n < 100000) : gd (ix (11 : Int32) n) x = x := gd_s (nI_ix (a := 11) h hn)
theorem cl_11 : (11 : Int32).toNatClampNeg = 11 := nI_clamp (n := 11) (by decide)
theorem gl_12 {n : Nat} {β : Type} {x : Option β} (h : 12 < n) (hn : n < 100000) : gd (ix (12 : Int32) n) x = x := gd_s (nI_ix (a := 12) h hn)
theorem cl_12 : (12 : Int32).toNatClampNeg = 12 := nI_clamp (n := 12) (by decide)
theorem gl_13 {n : Nat} {β : Type} {x : Option β} (h : 13 < n) (hn : n < 100000) : gd (ix (13 : Int32) n) x = x := gd_s (nI_ix (a := 13) h hn)
theorem cl_13 : (13 : Int32).toNatClampNeg = 13 := nI_clamp (n := 13) (by decide)
theorem gl_19 {n : Nat} {β : Type} {x : Option β} (h : 19 < n) (hn : n < 100000) : gd (ix (19 : Int32) n) x = x := gd_s (nI_ix (a := 19) h hn)
theorem cl_19 : (19 : Int32).toNatClampNeg = 19 := nI_clamp (n := 19) (by decide)
theorem gl_25 {n : Nat} {β : Type} {x : Option β} (h : 25 < n) (hn : n < 100000) : gd (ix (25 : Int32) n) x = x := gd_s (nI_ix (a := 25) h hn)
theorem cl_25 : (25 : Int32).toNatClampNeg = 25 := nI_clamp (n := 25) (by decide)
theorem gl_26 {n : Nat} {β : Type} {x : Option β} (h : 26 < n) (hn : n < 100000) : gd (ix (26 : Int32) n) x = x := gd_s (nI_ix (a := 26) h hn)
theorem cl_26 : (26 : Int32).toNatClampNeg = 26 := nI_clamp (n := 26) (by decide)
theorem gl_39 {n : Nat} {β : Type} {x : Option β} (h : 39 < n) (hn : n < 100000) : gd (ix (39 : Int32) n) x = x := gd_s (nI_ix (a := 39) h hn)
theorem cl_39 : (39 : Int32).toNatClampNeg = 39 := nI_clamp (n := 39) (by decide)
theorem gl_45 {n : Nat} {β : Type} {x : Option β} (h : 45 < n) (hn : n < 100000) : gd (ix (45 : Int32) n) x = x := gd_s (nI_ix (a := 45) h hn)
theorem cl_45 : (45 : Int32).toNatClampNeg = 45 := nI_clamp (n := 45) (by decide)
theorem gl_46 {n : Nat} {β : Type} {x : Option β} (h : 46 < n) (hn : n < 100000) : gd (ix (46 : Int32) n) x = x := gd_s (nI_ix (a := 46) h hn)
theorem cl_46 : (46 : Int32).toNatClampNeg = 46 := nI_clamp (n := 46) (by decide)
theorem gl_59 {n : Nat} {β : Type} {x : Option β} (h : 59 < n) (hn : n < 100000) : gd (ix (59 : Int32) n) x = x := gd_s (nI_ix (a := 59) h hn)
theorem cl_59 : (59 : Int32).toNatClampNeg = 59 := nI_clamp (n := 59) (by decide)
/-- the places of the row that the law's first row holds -/
def sg (i : Nat) : Nat := match i with
  | 0 => 0
  | 1 => 1
  | 2 => 2
  | 3 => 3
  | 4 => 4
  | 5 => 21
  | 6 => 22
  | 7 => 23
  | 8 => 24
  | 9 => 25
  | 10 => 26
  | 11 => 27
  | 12 => 28
  | 13 => 29
  | 14 => 30
  | 15 => 31
  | 16 => 32
  | 17 => 33
  | 18 => 34
  | _ => 38
theorem sg_inj : ∀ i, i < 20 → ∀ k, k < 20 → sg i = sg k → i = k := by decide
def LE (v : Nat) (w E : Nat → Int32) : Prop := ∀ i, i < 20 → E (20 * v + i) = w (sg i)
def LW (v : Nat) (w F : Nat → Int32) : Prop := F v = w 35 ∧ F (3 + v) = w 36 ∧ F (6 + v) = w 37
def LC (v : Nat) (w C : Nat → Int32) : Prop := ∃ q, q ≤ 8 ∧ w 4 = nI q ∧ ∀ j, j < q → C (8 * v + j) = cm (w (5 + j)) (w (13 + j)) ∧ c16 (w (5 + j))
def PK (u P : Nat → Int32) (o : Nat) : Prop := (P o = u 0 ∧ P (o + 1) = u 1 ∧ P (o + 2) = u 2 ∧ P (o + 3) = u 3 ∧ P (o + 4) = u 4) ∧ ∃ q, q ≤ 8 ∧ u 1 = nI q ∧ ∀ j, j < q → P (o + 5 + j) = cm (u (5 + j)) (u (13 + j)) ∧ c16 (u (5 + j))
def LQ (w P : Nat → Int32) : Prop := ∃ W, W ≤ 4 ∧ w 38 = nI W ∧ ∀ j, j < W → PK (fun i => w (39 + 21 * j + i)) P (16 * j)
def LV (v : Nat) (w E F C P : Nat → Int32) : Prop := (LE v w E ∧ LW v w F) ∧ LC v w C ∧ LQ w P
/-- what a deed on a voice leaves of the other voices' numbers -/
def FE (v : Nat) (E E' : Nat → Int32) : Prop := ∀ i, (i < 20 * v ∨ 20 * v + 20 ≤ i) → E' i = E i
def FF3 (v : Nat) (F F' : Nat → Int32) : Prop := ∀ i, i ≠ v → i ≠ 3 + v → i ≠ 6 + v → F' i = F i
def FC (v : Nat) (C C' : Nat → Int32) : Prop := ∀ i, (i < 8 * v ∨ 8 * v + 8 ≤ i) → C' i = C i
section LREL
variable {v k i u q : Nat} {w w' E E' E1 F F' F1 C C' P P' : Nat → Int32} {x y : Int32}
theorem all20 {R : Nat → Prop} (h0 : R 0) (h1 : R 1) (h2 : R 2) (h3 : R 3) (h4 : R 4) (h5 : R 5) (h6 : R 6) (h7 : R 7) (h8 : R 8) (h9 : R 9) (h10 : R 10) (h11 : R 11) (h12 : R 12) (h13 : R 13) (h14 : R 14) (h15 : R 15) (h16 : R 16) (h17 : R 17) (h18 : R 18) (h19 : R 19) : ∀ i, i < 20 → R i := by
  intro i hi
  match i, hi with
  | 0, _ => exact h0
  | 1, _ => exact h1
  | 2, _ => exact h2
  | 3, _ => exact h3
  | 4, _ => exact h4
  | 5, _ => exact h5
  | 6, _ => exact h6
  | 7, _ => exact h7
  | 8, _ => exact h8
  | 9, _ => exact h9
  | 10, _ => exact h10
  | 11, _ => exact h11
  | 12, _ => exact h12
  | 13, _ => exact h13
  | 14, _ => exact h14
  | 15, _ => exact h15
  | 16, _ => exact h16
  | 17, _ => exact h17
  | 18, _ => exact h18
  | 19, _ => exact h19
  | n + 20, h => exact absurd h (by omega)
theorem FE.rf : FE v E E := fun _ _ => rfl
theorem FE.trans (h : FE v E E1) (h2 : FE v E1 E') : FE v E E' := fun i hi => (h2 i hi).trans (h i hi)
theorem FE.up (h : FE v E E') (hk : k < 20) : FE v E (upd E' (20 * v + k) x) := fun i hi => by
  rw [upd_ne (by omega)]
  exact h i hi
theorem FE.up0 (h : FE v E E') : FE v E (upd E' (20 * v) x) := h.up (k := 0) (by decide)
theorem FF3.rf : FF3 v F F := fun _ _ _ _ => rfl
theorem FF3.trans (h : FF3 v F F1) (h2 : FF3 v F1 F') : FF3 v F F' := fun i h3 h4 h5 => (h2 i h3 h4 h5).trans (h i h3 h4 h5)
theorem LE.up (h : LE v w E) (hk : k < 20) : LE v (upd w (sg k) x) (upd E (20 * v + k) x) := fun i hi => by
  by_cases hik : i = k
  · subst hik
    rw [upd_eq, upd_eq]
  · rw [upd_ne (by omega), upd_ne (fun z => hik (sg_inj i hi k hk z))]
    exact h i hi
theorem LE.congr (h : LE v w E) (hw : ∀ i, i < 20 → w (sg i) = w' (sg i)) : LE v w' E := fun i hi => (h i hi).trans (hw i hi)
theorem LE.other (h : LE v w E) (hF : FE u E E') (hu : u ≠ v) : LE v w E' := fun i hi => (hF _ (by omega)).trans (h i hi)
theorem LW.other (h : LW v w F) (hF : FF3 u F F') (hu : u ≠ v) (hv : v < 3) (hu3 : u < 3) : LW v w F' := ⟨(hF _ (by omega) (by omega) (by omega)).trans h.1, (hF _ (by omega) (by omega) (by omega)).trans h.2.1, (hF _ (by omega) (by omega) (by omega)).trans h.2.2⟩
theorem LW.congr (h : LW v w F) (h1 : w 35 = w' 35) (h2 : w 36 = w' 36) (h3 : w 37 = w' 37) : LW v w' F := ⟨h.1.trans h1, h.2.1.trans h2, h.2.2.trans h3⟩
theorem LC.other (h : LC v w C) (hF : FC u C C') (hu : u ≠ v) : LC v w C' := by
  obtain ⟨q, h1, h2, h3⟩ := h
  exact ⟨q, h1, h2, fun j hj => ⟨(hF _ (by omega)).trans (h3 j hj).1, (h3 j hj).2⟩⟩
theorem LC.congr (h : LC v w C) (hw : ∀ i, 4 ≤ i → i < 21 → w i = w' i) : LC v w' C := by
  obtain ⟨q, h1, h2, h3⟩ := h
  refine ⟨q, h1, (hw 4 (by omega) (by omega)).symm.trans h2, fun j hj => ?_⟩
  rw [← hw (5 + j) (by omega) (by omega), ← hw (13 + j) (by omega) (by omega)]
  exact h3 j hj
theorem PK.congr {u u' : Nat → Int32} {o o' : Nat} (h : PK u P o) (hw : ∀ i, i < 21 → u i = u' i) (hP : ∀ i, i < 16 → P' (o' + i) = P (o + i)) : PK u' P' o' := by
  obtain ⟨⟨a0, a1, a2, a3, a4⟩, q, h1, h2, h3⟩ := h
  refine ⟨⟨(hP 0 (by omega)).trans (a0.trans (hw 0 (by omega))), (hP 1 (by omega)).trans (a1.trans (hw 1 (by omega))), (hP 2 (by omega)).trans (a2.trans (hw 2 (by omega))), (hP 3 (by omega)).trans (a3.trans (hw 3 (by omega))), (hP 4 (by omega)).trans (a4.trans (hw 4 (by omega)))⟩, q, h1, (hw 1 (by omega)).symm.trans h2, fun j hj => ?_⟩
  rw [← hw (5 + j) (by omega), ← hw (13 + j) (by omega), Nat.add_assoc o', hP (5 + j) (by omega), ← Nat.add_assoc]
  exact h3 j hj
theorem LQ.congr (h : LQ w P) (hw : ∀ i, 38 ≤ i → i < 207 → w i = w' i) : LQ w' P := by
  obtain ⟨W, h1, h2, h3⟩ := h
  exact ⟨W, h1, (hw 38 (by omega) (by omega)).symm.trans h2, fun j hj => (h3 j hj).congr (fun i hi => hw _ (by omega) (by omega)) fun _ _ => rfl⟩
end LREL
/-! follows, copy, moves -/
section LFOL
variable {v k i u q n N a b e f c p : Nat} {w w' E E' E1 F F' C C' P P' : Nat → Int32} {x y cc : Int32} {M : Mem}
theorem follows_l (hk : k + 1 < N) (hN : N < 4000) (hi : mI M a (k + 1) = nI n) (hn : n < 25) (hc : c16 cc) : f_L_follows N a (nI k) cc M = some (sA M a (zF cSTEPS (mI M a) k cc)) := by
  unfold f_L_follows
  rw [iA_1]
  simp (disch := omega) only [gdi, nI_clamp]
  rw [guess_v hi hn hc, vb_s, index_v hc, vb_s, nb_s, nb_s, sI_eq, sI_eq, mI_sA, sA_sA]
  unfold zF
  rw [hi, nI_clamp (by omega), upd_cm (by omega)]
theorem copy_l (ha : a ≠ b) (hN : N < 4000) : f_L_copy N N a b (nI N) M = some (sA M b fun i => if i < N then mI M a i else mI M b i) := by
  have go : ∀ d j m, j + d = N → d < m → f_L_copy_b2 N N a b (nI N) m (nI j) (sA M b fun i => if i < j then mI M a i else mI M b i) = some (sA M b fun i => if i < N then mI M a i else mI M b i) := by
    intro d
    induction d with
    | zero =>
      intro j m hj hm
      obtain ⟨m, rfl⟩ : ∃ k, m = k + 1 := ⟨m - 1, by omega⟩
      have hj : j = N := by omega
      subst hj
      rw [f_L_copy_b2, if_pos (nI_le (Nat.le_refl _) (by omega))]
    | succ d ih =>
      intro j m hj hm
      obtain ⟨m, rfl⟩ : ∃ k, m = k + 1 := ⟨m - 1, by omega⟩
      rw [f_L_copy_b2, if_neg (nI_ge (by omega) (by omega)), gdi (by omega) (by omega), gdi (by omega) (by omega), nb_s, nb_s, nI_clamp (by omega), ← nI_succ, sI_eq, mI_sA, sA_sA, mI_sAn ha]
      have e : upd (fun i => if i < j then mI M a i else mI M b i) j (mI M a j) = fun i => if i < j + 1 then mI M a i else mI M b i := by
        funext i
        unfold upd
        by_cases h : i = j
        · rw [if_pos h, h, if_pos (by omega)]
        · rw [if_neg h]
          by_cases h2 : i < j
          · simp only [if_pos h2, if_pos (show i < j + 1 by omega)]
          · simp only [if_neg h2, if_neg (show ¬ i < j + 1 by omega)]
      rw [e]
      exact ih (j + 1) m (by omega) (by omega)
  unfold f_L_copy
  have h := go N 0 lfuel (by omega) (by unfold lfuel; omega)
  have e : (fun i => if i < 0 then mI M a i else mI M b i) = mI M b := by
    funext i
    rw [if_neg (by omega)]
  rw [e, sA_eq] at h
  exact h
def shP (P : Nat → Int32) (j : Nat) : Nat → Int32 := fun i => if i < j then P (i + 16) else P i
theorem moves_l (h : D4 e f c p) (hv : v < 3) (hE : E (20 * v + 19) = nI (q + 1)) (hq : q ≤ 3) : f_L_moves e p (nI v) (T4 e f c p M E F C P) = some (T4 e f c p M (upd E (20 * v + 19) (nI q)) F C (shP P (16 * q))) := by
  have go : ∀ d j m, j + d = 16 * q → d < m → f_L_moves_b15 e p (nI v) m (nI j) (T4 e f c p M (upd E (20 * v + 19) (nI q)) F C (shP P j)) = some (T4 e f c p M (upd E (20 * v + 19) (nI q)) F C (shP P (16 * q))) := by
    intro d
    induction d with
    | zero =>
      intro j m hj hm
      obtain ⟨m, rfl⟩ : ∃ k, m = k + 1 := ⟨m - 1, by omega⟩
      have hj : j = 16 * q := by omega
      subst hj
      rw [f_L_moves_b15, Mi_20, iA_19, gdi (by omega) (by omega), nI_clamp (by omega), T_e h, upd_eq, Mi_16, if_pos (nI_le (Nat.le_refl _) (by omega))]
    | succ d ih =>
      intro j m hj hm
      obtain ⟨m, rfl⟩ : ∃ k, m = k + 1 := ⟨m - 1, by omega⟩
      rw [f_L_moves_b15, Mi_20, iA_19, gdi (by omega) (by omega), nI_clamp (by omega), T_e h, upd_eq, Mi_16, if_neg (nI_ge (by omega) (by omega)), iA_16, gdi (by omega) (by omega), gdi (by omega) (by omega), nb_s, nb_s, nI_clamp (by omega), nI_clamp (by omega), ← nI_succ, T_p, S_p]
      have e1 : upd (shP P j) j (shP P j (j + 16)) = shP P (j + 1) := by
        funext i
        unfold upd shP
        by_cases h1 : i = j
        · rw [if_pos h1, h1, if_neg (by omega), if_pos (by omega)]
        · rw [if_neg h1]
          by_cases h2 : i < j
          · rw [if_pos h2, if_pos (by omega)]
          · rw [if_neg h2, if_neg (by omega)]
      rw [e1]
      exact ih (j + 1) m (by omega) (by omega)
  unfold f_L_moves
  have e2 : nI (q + 1) - 1 = nI q := by
    rw [nI_succ, Int32.add_sub_cancel]
  rw [Mi_20, iA_19, gdi (by omega) (by omega), gdi (by omega) (by omega), nb_s, nI_clamp (by omega), T_e h, hE, e2, S_e h]
  have h0 := go (16 * q) 0 lfuel (by omega) (by unfold lfuel; omega)
  have e3 : shP P 0 = P := by
    funext i
    unfold shP
    rw [if_neg (by omega)]
  rw [e3] at h0
  exact h0
/-- the packets behind the first one -/
theorem LQ.tk (h : LQ w P) (h38 : w 38 = nI (q + 1)) (hq : q ≤ 3) (hw : ∀ i, 38 ≤ i → i < 207 → w' i = w i) : LQ (zTk w') (shP P (16 * q)) := by
  obtain ⟨W, h1, h2, h3⟩ := h
  have eW : W = q + 1 := (nI_eq (by omega) (by omega)).mp (h2.symm.trans h38)
  subst eW
  have h38' : w' 38 = nI (q + 1) := (hw 38 (by omega) (by omega)).trans h38
  refine ⟨q, by omega, zTk_38 h38', fun j hj => (h3 (j + 1) (by omega)).congr (fun i hi => ?_) fun i hi => ?_⟩
  · rw [zTk_w h38' (by omega) hj hi, hw _ (by omega) (by omega)]
  · unfold shP
    rw [if_pos (by omega)]
    congr 1
    omega
end LFOL
