/-! Bounds of the row; what keeps them -/
def WBs (w : Nat → Int32) : Prop := (B2 (w 0) ∧ ∃ i, i < 25 ∧ w 1 = nI i) ∧ (∃ g, g ≤ 3 ∧ w 2 = nI g ∧ -2000 * (g : Int) ≤ (w 3).toInt ∧ (w 3).toInt ≤ 2000 * (g : Int)) ∧ (∃ q, q ≤ 7 ∧ w 4 = nI q) ∧ (∀ j, j < 8 → B2 (w (13 + j))) ∧ (B2 (w 24) ∧ ∃ i, i < 25 ∧ w 25 = nI i) ∧ ∃ s, s ≤ 8 ∧ w 23 = nI s
def WBh (w : Nat → Int32) : Prop := B2 (w 26) ∧ ∃ i, i < 25 ∧ w 27 = nI i
def WBc (n : Nat) (w : Nat → Int32) : Prop := ∃ N A C Z L H E l, (w 21 = nI N ∧ w 28 = nI A ∧ w 37 = nI C ∧ w 30 = nI Z ∧ w 31 = nI L ∧ w 29 = nI H ∧ w 33 = nI E ∧ w 36 = nI l) ∧ N ≤ n ∧ A ≤ N ∧ C ≤ n ∧ Z ≤ A ∧ L ≤ C ∧ H ≤ 8 * C ∧ E ≤ 4000 * H ∧ l ≤ n
def WBw (w : Nat → Int32) : Prop := ∃ W, W ≤ 8 ∧ w 38 = nI W ∧ ∀ j, j < W → WP (w 21).toNatClampNeg (fun i => w (39 + 21 * j + i))
def WB (n : Nat) (w : Nat → Int32) : Prop := (WBs w ∧ WBh w) ∧ WBc n w ∧ WBw w
/-- the settings of the row -/
def RB (r : Nat → Int32) : Prop := (∃ k, 1 ≤ k ∧ k ≤ 4 ∧ r 0 = nI k) ∧ (∃ k, k ≤ 99 ∧ r 1 = nI k) ∧ (∃ k, 1 ≤ k ∧ k ≤ 8 ∧ r 2 = nI k) ∧ ∃ k, 1 ≤ k ∧ k ≤ 9 ∧ r 3 = nI k
section BOUNDS
variable {n q m k N N' : Nat} {w f r T u : Nat → Int32} {x y c a b : Int32}
theorem B2_dist (ha : B2 a) (hb : B2 b) : ∃ e, e ≤ 4000 ∧ zS (a - b) = nI e := by
  have hs := B2_sub ha hb
  obtain ⟨h1, h2⟩ := ha
  obtain ⟨h3, h4⟩ := hb
  unfold zS
  by_cases h : 0 ≤ a - b
  · rw [if_pos h]
    rw [Int32.le_iff_toInt_le, i0] at h
    refine ⟨(a - b).toInt.toNat, by omega, Int32.toInt_inj.mp ?_⟩
    rw [nI_toInt (by omega)]
    omega
  · rw [if_neg h]
    rw [Int32.le_iff_toInt_le, i0] at h
    have hn : (-(a - b)).toInt = -(a - b).toInt := by rw [Int32.toInt_neg, Int.bmod_eq_of_le_mul_two (by omega) (by omega)]
    refine ⟨(-(a - b).toInt).toNat, by omega, Int32.toInt_inj.mp ?_⟩
    rw [nI_toInt (by omega), hn]
    omega
theorem B2_div {g : Nat} (h1 : -2000 * (g : Int) ≤ a.toInt) (h2 : a.toInt ≤ 2000 * (g : Int)) (hg : 0 < g) (hg4 : g ≤ 4) : B2 (a / nI g) := by
  have ht : (a / nI g).toInt = a.toInt.tdiv (g : Int) := by
    rw [Int32.toInt_div, nI_toInt (by omega)]
    have h3 := Int.natAbs_tdiv_le_natAbs a.toInt (g : Int)
    rw [Int.bmod_eq_of_le_mul_two (by omega) (by omega)]
  have h4 : (a.toInt.tdiv (g : Int)).natAbs = a.toInt.natAbs / g := by
    rw [Int.natAbs_tdiv]
    rfl
  have h5 : a.toInt.natAbs / g ≤ 2000 := Nat.div_le_of_le_mul (by rw [Nat.mul_comm]; omega)
  unfold B2
  rw [ht]
  omega
theorem WP.mono (h : WP N u) (hN : N ≤ N') : WP N' u := by
  obtain ⟨⟨k, h1, h2⟩, h3⟩ := h
  exact ⟨⟨k, by omega, h2⟩, h3⟩
theorem WP.congr (h : WP N u) (hw : ∀ i, i < 21 → u i = f i) : WP N f := by
  obtain ⟨⟨k, h1, h2⟩, h3, h4, m, h5, h6⟩ := h
  refine ⟨⟨k, h1, (hw 0 (by decide)).symm.trans h2⟩, ?_, fun j hj => by rw [← hw _ (by omega)]; exact h4 j hj, m, h5, (hw 1 (by decide)).symm.trans h6⟩
  rw [← hw 2 (by decide), ← hw 3 (by decide), ← hw 4 (by decide)]
  exact h3
theorem WBs.congr (h : WBs w) (hw : ∀ i, i < 26 → w i = f i) : WBs f := by
  obtain ⟨⟨h1, i, h2, h3⟩, ⟨g, h4, h5, h6, h7⟩, ⟨q, h8, h9⟩, h10, ⟨h11, i2, h12, h13⟩, s, h14, h15⟩ := h
  refine ⟨⟨by rw [← hw 0 (by decide)]; exact h1, i, h2, (hw 1 (by decide)).symm.trans h3⟩, ⟨g, h4, (hw 2 (by decide)).symm.trans h5, by rw [← hw 3 (by decide)]; exact h6, by rw [← hw 3 (by decide)]; exact h7⟩, ⟨q, h8, (hw 4 (by decide)).symm.trans h9⟩, fun j hj => by rw [← hw _ (by omega)]; exact h10 j hj, ⟨by rw [← hw 24 (by decide)]; exact h11, i2, h12, (hw 25 (by decide)).symm.trans h13⟩, s, h14, (hw 23 (by decide)).symm.trans h15⟩
theorem WBh.congr (h : WBh w) (h1 : w 26 = f 26) (h2 : w 27 = f 27) : WBh f := by
  unfold WBh
  rw [← h1, ← h2]
  exact h
theorem WBc.congr (h : WBc n w) (hw : ∀ i, (26 ≤ i ∨ i = 21) → i < 38 → w i = f i) : WBc n f := by
  obtain ⟨N, A, C, Z, L, H, E, l, ⟨h1, h2, h3, h4, h5, h6, h7, h8⟩, hb⟩ := h
  exact ⟨N, A, C, Z, L, H, E, l, ⟨(hw 21 (by decide) (by decide)).symm.trans h1, (hw 28 (by decide) (by decide)).symm.trans h2, (hw 37 (by decide) (by decide)).symm.trans h3, (hw 30 (by decide) (by decide)).symm.trans h4, (hw 31 (by decide) (by decide)).symm.trans h5, (hw 29 (by decide) (by decide)).symm.trans h6, (hw 33 (by decide) (by decide)).symm.trans h7, (hw 36 (by decide) (by decide)).symm.trans h8⟩, hb⟩
theorem WBc.mono (h : WBc n w) (hm : n ≤ m) : WBc m w := by
  obtain ⟨N, A, C, Z, L, H, E, l, h1, h2, h3, h4, h5, h6, h7, h8, h9⟩ := h
  exact ⟨N, A, C, Z, L, H, E, l, h1, by omega, h3, by omega, h5, h6, h7, h8, by omega⟩
theorem WBw.congr (h : WBw w) (h1 : w 21 = f 21) (hw : ∀ i, 38 ≤ i → i < 207 → w i = f i) : WBw f := by
  obtain ⟨W, h2, h3, h4⟩ := h
  refine ⟨W, h2, (hw 38 (by decide) (by decide)).symm.trans h3, fun j hj => ?_⟩
  rw [← h1]
  exact (h4 j hj).congr fun i hi => hw _ (by omega) (by omega)
theorem WB.congr (h : WB n w) (hw : ∀ i, i < 207 → w i = f i) : WB n f := ⟨⟨h.1.1.congr fun i hi => hw i (by omega), h.1.2.congr (hw _ (by decide)) (hw _ (by decide))⟩, h.2.1.congr fun i _ hi => hw i (by omega), h.2.2.congr (hw _ (by decide)) fun i _ hi => hw i hi⟩
theorem WB.mono (h : WB n w) (hm : n ≤ m) : WB m w := ⟨h.1, h.2.1.mono hm, h.2.2⟩
/-- the wire without its first packet -/
theorem zTk_38 (h : w 38 = nI (q + 1)) : zTk w 38 = nI q := by
  have e1 : w 38 + (-1) = nI q := by
    rw [h, nI_succ, Int32.add_assoc]
    exact Int32.add_zero _
  show zZr (zMv (upd w 38 (w 38 + -1)) 39 (39 + 21 * (w 38 + -1).toNatClampNeg)) (39 + 21 * (w 38 + -1).toNatClampNeg) (39 + 21 * (w 38 + -1).toNatClampNeg + 21) 38 = _
  unfold zZr zMv
  rw [if_neg (by omega), if_neg (by omega), upd_eq, e1]
theorem zTk_w (h : w 38 = nI (q + 1)) (hq : q < 8) {j i : Nat} (hj : j < q) (hi : i < 21) : zTk w (39 + 21 * j + i) = w (39 + 21 * (j + 1) + i) := by
  have e1 : w 38 + (-1) = nI q := by
    rw [h, nI_succ, Int32.add_assoc]
    exact Int32.add_zero _
  show zZr (zMv (upd w 38 (w 38 + -1)) 39 (39 + 21 * (w 38 + -1).toNatClampNeg)) (39 + 21 * (w 38 + -1).toNatClampNeg) (39 + 21 * (w 38 + -1).toNatClampNeg + 21) (39 + 21 * j + i) = _
  rw [e1, nI_clamp (by omega)]
  unfold zZr zMv
  rw [if_neg (by omega), if_pos (by omega), upd_ne (by omega)]
  congr 1
  omega
theorem WBw.tk (h : WBw w) (h38 : w 38 = nI (q + 1)) (hq : q < 8) : WBw (zTk w) := by
  obtain ⟨W, h2, h3, h4⟩ := h
  have e : W = q + 1 := (nI_eq (by omega) (by omega)).mp (h3.symm.trans h38)
  subst e
  refine ⟨q, by omega, zTk_38 h38, fun j hj => ?_⟩
  rw [zTk_lo (show 21 < 38 by decide)]
  exact (h4 (j + 1) (by omega)).congr fun i hi => (zTk_w h38 hq hj hi).symm
theorem WB.tk (h : WB n w) (h38 : w 38 = nI (q + 1)) (hq : q < 8) : WB n (zTk w) := ⟨⟨h.1.1.congr fun i hi => (zTk_lo (by omega)).symm, h.1.2.congr (zTk_lo (by decide)).symm (zTk_lo (by decide)).symm⟩, h.2.1.congr fun i _ hi => (zTk_lo (by omega)).symm, h.2.2.tk h38 hq⟩
theorem WB.lo (h : WB n w) (h38 : w 38 = nI (q + 1)) (hq : q < 8) : WB (n + 1) (zLo w) := by
  have h1 := h.tk h38 hq
  unfold zLo
  refine ⟨⟨h1.1.1.congr fun i hi => (upd_ne (by omega)).symm, h1.1.2.congr (upd_ne (by decide)).symm (upd_ne (by decide)).symm⟩, ?_, h1.2.2.congr (upd_ne (by decide)).symm fun i hi _ => (upd_ne (by omega)).symm⟩
  obtain ⟨N, A, C, Z, L, H, E, l, ⟨e1, e2, e3, e4, e5, e6, e7, e8⟩, b1, b2, b3, b4, b5, b6, b7, b8⟩ := h1.2.1
  exact ⟨N, A, C, Z, L, H, E, l + 1, ⟨(upd_ne (by decide)).trans e1, (upd_ne (by decide)).trans e2, (upd_ne (by decide)).trans e3, (upd_ne (by decide)).trans e4, (upd_ne (by decide)).trans e5, (upd_ne (by decide)).trans e6, (upd_ne (by decide)).trans e7, by rw [upd_eq, e8, nI_succ]⟩, by omega, by omega, by omega, by omega, by omega, by omega, by omega, by omega⟩
theorem zSw_w {j i : Nat} (hi : i < 21) : zSw w 39 (39 + 21 * j + i) = w (39 + 21 * (if j = 0 then 1 else if j = 1 then 0 else j) + i) := by
  unfold zSw
  by_cases h0 : j = 0
  · rw [if_pos (by omega), if_pos h0]
    congr 1
    omega
  · rw [if_neg (by omega), if_neg h0]
    by_cases h1 : j = 1
    · rw [if_pos (by omega), if_pos h1]
      congr 1
      omega
    · rw [if_neg (by omega), if_neg h1]
theorem zSw_lo {i : Nat} (hi : i < 39) : zSw w 39 i = w i := by
  unfold zSw
  rw [if_neg (by omega), if_neg (by omega)]
theorem WB.sw (h : WB n w) (h38 : w 38 = nI (q + 2)) (hq : q + 2 ≤ 8) : WB n (zSw w 39) := by
  refine ⟨⟨h.1.1.congr fun i hi => (zSw_lo (by omega)).symm, h.1.2.congr (zSw_lo (by decide)).symm (zSw_lo (by decide)).symm⟩, h.2.1.congr fun i _ hi => (zSw_lo (by omega)).symm, ?_⟩
  obtain ⟨W, h2, h3, h4⟩ := h.2.2
  have e : W = q + 2 := (nI_eq (by omega) (by omega)).mp (h3.symm.trans h38)
  subst e
  refine ⟨q + 2, h2, (zSw_lo (by decide)).trans h38, fun j hj => ?_⟩
  rw [zSw_lo (show 21 < 39 by decide)]
  refine (h4 (if j = 0 then 1 else if j = 1 then 0 else j) ?_).congr fun i hi => (zSw_w hi).symm
  split
  · omega
  · split <;> omega
/-- what is heard -/
theorem zH_v {m : Int32} {i : Nat} : zH T w c m i = if i = 34 then (if zS (zG (w 26) (T (w 27).toNatClampNeg) c - m) ≤ w 34 then w 34 else zS (zG (w 26) (T (w 27).toNatClampNeg) c - m)) else if i = 35 then w 35 + zG (w 26) (T (w 27).toNatClampNeg) c else if i = 33 then w 33 + zS (zG (w 26) (T (w 27).toNatClampNeg) c - m) else if i = 29 then w 29 + 1 else if i = 27 then zI (w 27) c else if i = 26 then zG (w 26) (T (w 27).toNatClampNeg) c else w i := rfl
theorem zHs_B {mm : Nat} : ∀ (d j : Nat) (w : Nat → Int32) (H E : Nat), j + d ≤ 8 → w 29 = nI H → w 33 = nI E → WBh w → (∀ j, j < 8 → B2 (w (52 + j))) → (∃ E', zHs T d j w 29 = nI (H + d) ∧ zHs T d j w 33 = nI E' ∧ E' ≤ E + 4000 * d) ∧ WBh (zHs T d j w) ∧ ∀ i, (i < 26 ∨ i = 28 ∨ i = 30 ∨ i = 31 ∨ i = 32 ∨ 36 ≤ i) → zHs T d j w i = w i := by
  intro d
  induction d with
  | zero => exact fun j w H E _ h1 h2 h3 _ => ⟨⟨E, h1, h2, by omega⟩, h3, fun _ _ => rfl⟩
  | succ d ih =>
    intro j w H E hj h1 h2 h3 h4
    obtain ⟨e, he, hes⟩ := B2_dist (show B2 (zG (w 26) (T (w 27).toNatClampNeg) (w (44 + j))) from zG_B2) (h4 j (by omega))
    have g1 : zH T w (w (44 + j)) (w (52 + j)) 29 = nI (H + 1) := by rw [zH_v, if_neg (by decide), if_neg (by decide), if_neg (by decide), if_pos rfl, h1, nI_succ]
    have g2 : zH T w (w (44 + j)) (w (52 + j)) 33 = nI (E + e) := by rw [zH_v, if_neg (by decide), if_neg (by decide), if_pos rfl, h2, hes, zA]
    have g3 : WBh (zH T w (w (44 + j)) (w (52 + j))) := ⟨by rw [zH_v, if_neg (by decide), if_neg (by decide), if_neg (by decide), if_neg (by decide), if_neg (by decide), if_pos rfl]; exact zG_B2, by rw [zH_v, if_neg (by decide), if_neg (by decide), if_neg (by decide), if_neg (by decide), if_pos rfl]; exact zC_at⟩
    have g4 : ∀ i, (i < 26 ∨ i = 28 ∨ i = 30 ∨ i = 31 ∨ i = 32 ∨ 36 ≤ i) → zH T w (w (44 + j)) (w (52 + j)) i = w i := fun i hi => by rw [zH_v, if_neg (by omega), if_neg (by omega), if_neg (by omega), if_neg (by omega), if_neg (by omega), if_neg (by omega)]
    obtain ⟨⟨E', k1, k2, k3⟩, k4, k5⟩ := ih (j + 1) (zH T w (w (44 + j)) (w (52 + j))) (H + 1) (E + e) (by omega) g1 g2 g3 (fun i hi => by rw [g4 _ (by omega)]; exact h4 i hi)
    refine ⟨⟨E', ?_, k2, by omega⟩, k4, fun i hi => (k5 i hi).trans (g4 i hi)⟩
    show zHs T d (j + 1) _ 29 = _
    rw [k1]
    congr 1
    omega
theorem zFd_B : ∀ (k : Nat) (g : Int32), B2 g → B2 (zFd k g) := by
  intro k
  induction k with
  | zero => exact fun g h => h
  | succ k ih =>
    intro g h
    refine ih _ ?_
    obtain ⟨h1, h2⟩ := h
    have e3 : (3 * g).toInt = 3 * g.toInt := by
      rw [Int32.toInt_mul, show (3 : Int32).toInt = 3 from by decide, Int.bmod_eq_of_le_mul_two (by omega) (by omega)]
    have e4 : (3 * g / 4).toInt = (3 * g.toInt).tdiv 4 := by
      have h3 := Int.natAbs_tdiv_le_natAbs (3 * g.toInt) 4
      rw [Int32.toInt_div, e3, show (4 : Int32).toInt = 4 from by decide, Int.bmod_eq_of_le_mul_two (by omega) (by omega)]
    have h4 : ((3 * g.toInt).tdiv 4).natAbs = (3 * g.toInt).natAbs / 4 := by
      rw [Int.natAbs_tdiv]
      rfl
    unfold B2
    rw [e4]
    omega
theorem zTH_v {g i : Int32} {j : Nat} : zTH w g i j = if j = 27 then i else if j = 26 then g else if j = 32 then w 32 + (if w 26 = g ∧ w 27 = i then 0 else 1) else w j := rfl
theorem WB.dv (h : WB n w) (h38 : w 38 = nI (q + 1)) (hq : q < 8) (hn : n < 9999) : WB (n + 1) (zDv T w) ∧ (w 28 ≤ w 39 → ∃ m, m < 9999 ∧ w 39 - w 28 = nI m) ∧ (∃ k, k ≤ 8 ∧ w 40 = nI k) ∧ (w 41 = 1 → ∃ i, i < 25 ∧ w 43 = nI i) ∧ WP (w 21).toNatClampNeg (fun i => w (39 + i)) := by
  obtain ⟨⟨hs, hh⟩, ⟨N, A, C, Z, L, H, E, l, ⟨e1, e2, e3, e4, e5, e6, e7, e8⟩, b1, b2, b3, b4, b5, b6, b7, b8⟩, hw⟩ := h
  have hw0 := hw
  obtain ⟨W, h2, h3, h4⟩ := hw
  have e : W = q + 1 := (nI_eq (by omega) (by omega)).mp (h3.symm.trans h38)
  subst e
  have hP := h4 0 (by omega)
  have hP : WP (w 21).toNatClampNeg (fun i => w (39 + i)) := hP
  have hP0 := hP
  obtain ⟨⟨num, p1, p2⟩, p3, p4, k, p5, p6⟩ := hP
  replace p2 : w 39 = nI num := p2
  replace p6 : w 40 = nI k := p6
  rw [e1, nI_clamp (by omega)] at p1
  have hgap : w 28 ≤ w 39 → A ≤ num ∧ w 39 - w 28 = nI (num - A) := by
    intro hle
    rw [e2, p2] at hle ⊢
    have h5 := (nI_leI (by omega) (by omega)).mp hle
    refine ⟨h5, ?_⟩
    rw [show num = (num - A) + A by omega, ← nI_add, Int32.add_sub_cancel, Nat.add_sub_cancel]
  refine ⟨?_, fun hle => ⟨num - A, by omega, (hgap hle).2⟩, ⟨k, p5, p6⟩, fun h41 => (p3 h41).2, hP0⟩
  -- what is taken off
  have off : ∀ y : Nat → Int32, (∀ i, i < 26 → y i = w i) → WBh y → WBc (n + 1) y → (∀ i, 38 ≤ i → y i = w i) → WB (n + 1) (zTk y) := by
    intro y y1 y2 y3 y4
    refine WB.tk (q := q) ⟨⟨hs.congr fun i hi => (y1 i hi).symm, y2⟩, y3, hw0.congr (y1 21 (by decide)).symm fun i hi _ => (y4 i hi).symm⟩ ((y4 38 (by decide)).trans h38) hq
  unfold zDv
  by_cases hle : w 28 ≤ w 39
  · obtain ⟨g1, g2⟩ := hgap hle
    simp only [if_pos hle]
    rw [g2, nI_clamp (by omega), p6, nI_clamp (by omega)]
    unfold zD3
    generalize hy : zD2 (zD1 (upd (upd w 37 (w 37 + 1)) 26 (zFd (num - A) (w 26))) (nI (num - A))) = y
    have yo : ∀ i, i ≠ 26 → i ≠ 27 → i ≠ 30 → i ≠ 32 → i ≠ 37 → y i = w i := by
      intro i z1 z2 z3 z4 z5
      rw [← hy]
      unfold zD2 zD1
      split
      · rw [zTH_v, if_neg z2, if_neg z1, if_neg z4, upd_ne z3, upd_ne z1, upd_ne z5]
      · rw [upd_ne z3, upd_ne z1, upd_ne z5]
    have y30 : y 30 = nI (Z + (num - A)) := by
      rw [← hy]
      unfold zD2 zD1
      split
      · rw [zTH_v, if_neg (by decide), if_neg (by decide), if_neg (by decide), upd_eq, upd_ne (by decide), upd_ne (by decide), e4, zA]
      · rw [upd_eq, upd_ne (by decide), upd_ne (by decide), e4, zA]
    have y37 : y 37 = nI (C + 1) := by
      rw [← hy]
      unfold zD2 zD1
      split
      · rw [zTH_v, if_neg (by decide), if_neg (by decide), if_neg (by decide), upd_ne (by decide), upd_ne (by decide), upd_eq, e3, nI_succ]
      · rw [upd_ne (by decide), upd_ne (by decide), upd_eq, e3, nI_succ]
    have yh : WBh y := by
      rw [← hy]
      unfold zD2
      by_cases h41 : w 41 = 1
      · have h41' : zD1 (upd (upd w 37 (w 37 + 1)) 26 (zFd (num - A) (w 26))) (nI (num - A)) 41 = 1 := h41
        rw [if_pos h41']
        exact ⟨(p3 h41).1, (p3 h41).2⟩
      · have h41' : ¬ zD1 (upd (upd w 37 (w 37 + 1)) 26 (zFd (num - A) (w 26))) (nI (num - A)) 41 = 1 := h41
        rw [if_neg h41']
        exact ⟨zFd_B _ _ hh.1, hh.2⟩
    obtain ⟨⟨E', z1, z2, z3⟩, z4, z5⟩ := zHs_B (T := T) (mm := 0) k 0 y H E (by omega) ((yo 29 (by decide) (by decide) (by decide) (by decide) (by decide)).trans e6) ((yo 33 (by decide) (by decide) (by decide) (by decide) (by decide)).trans e7) yh (fun j hj => by
      rw [yo _ (by omega) (by omega) (by omega) (by omega) (by omega), show 52 + j = 39 + (13 + j) by omega]
      exact p4 j hj)
    refine off _ (fun i hi => ?_) ⟨?_, ?_⟩ ⟨N, num + 1, C + 1, Z + (num - A), L, H + k, E', l, ⟨?_, ?_, ?_, ?_, ?_, ?_, ?_, ?_⟩, by omega, by omega, by omega, by omega, by omega, by omega, by omega, by omega⟩ (fun i hi => ?_)
    · rw [upd_ne (by omega), z5 i (by omega), yo i (by omega) (by omega) (by omega) (by omega) (by omega)]
    · rw [upd_ne (by decide)]; exact z4.1
    · rw [upd_ne (by decide)]; exact z4.2
    · rw [upd_ne (by decide), z5 21 (by decide), yo 21 (by decide) (by decide) (by decide) (by decide) (by decide), e1]
    · rw [upd_eq, p2, nI_succ]
    · rw [upd_ne (by decide), z5 37 (by decide), y37]
    · rw [upd_ne (by decide), z5 30 (by decide), y30]
    · rw [upd_ne (by decide), z5 31 (by decide), yo 31 (by decide) (by decide) (by decide) (by decide) (by decide), e5]
    · rw [upd_ne (by decide), z1]
    · rw [upd_ne (by decide), z2]
    · rw [upd_ne (by decide), z5 36 (by decide), yo 36 (by decide) (by decide) (by decide) (by decide) (by decide), e8]
    · rw [upd_ne (by omega), z5 i (by omega), yo i (by omega) (by omega) (by omega) (by omega) (by omega)]
  · simp only [if_neg hle]
    refine off _ (fun i hi => ?_) ⟨hh.1, hh.2⟩ ⟨N, A, C + 1, Z, L + 1, H, E, l, ⟨e1, e2, ?_, e4, ?_, e6, e7, e8⟩, by omega, by omega, by omega, by omega, by omega, by omega, by omega, by omega⟩ (fun i hi => ?_)
    · rw [upd_ne (by omega), upd_ne (by omega)]
    · rw [upd_ne (by decide), upd_eq, e3, nI_succ]
    · rw [upd_eq, e5, nI_succ]
    · rw [upd_ne (by omega), upd_ne (by omega)]
/-- a packet is made -/
theorem WB.mp (h : (WBh w ∧ WBc n w) ∧ WBw w) (hs : (B2 (w 0) ∧ ∃ i, i < 25 ∧ w 1 = nI i) ∧ (∃ g, g ≤ 3 ∧ w 2 = nI g ∧ -2000 * (g : Int) ≤ (w 3).toInt ∧ (w 3).toInt ≤ 2000 * (g : Int)) ∧ (∀ j, j < 8 → B2 (w (13 + j))) ∧ (B2 (w 24) ∧ ∃ i, i < 25 ∧ w 25 = nI i) ∧ ∃ s, s ≤ 8 ∧ w 23 = nI s) (h38 : w 38 = nI q) (hq : q < 8) (h4 : ∃ k, k ≤ 8 ∧ w 4 = nI k) (hr : RB r) (hn : n < 9999) : WB (n + 1) (zMP r w) := by
  obtain ⟨⟨hh, ⟨N, A, C, Z, L, H, E, l, ⟨e1, e2, e3, e4, e5, e6, e7, e8⟩, b1, b2, b3, b4, b5, b6, b7, b8⟩⟩, W, w1, w2, w3⟩ := h
  obtain ⟨⟨s0, s1⟩, ⟨g, s2⟩, s3, ⟨s4, s5⟩, s, s6, s7⟩ := hs
  have e : W = q := (nI_eq (by omega) (by omega)).mp (w2.symm.trans h38)
  subst e
  obtain ⟨k4, hk4, e44⟩ := h4
  have zl : ∀ i, i < 39 → i ≠ 38 → i ≠ 21 → i ≠ 4 → i ≠ 23 → (i < 5 ∨ 21 ≤ i) → zMP r w i = w i := fun i => zMP_lo h38 hq
  have z21 : zMP r w 21 = nI (N + 1) := by rw [zMP_v h38 hq 21 (by decide), if_neg (by decide), if_pos rfl, e1, nI_succ]
  have z38 : zMP r w 38 = nI (W + 1) := by rw [zMP_v h38 hq 38 (by decide)]; rfl
  have z23 : zMP r w 23 = if zHas r w = 0 then w 23 + 1 else 0 := by rw [zMP_v h38 hq 23 (by decide)]; rfl
  have zm : ∀ j, j < 8 → zMP r w (13 + j) = 0 := fun j hj => by rw [zMP_v h38 hq _ (by omega), if_neg (by omega), if_neg (by omega), if_neg (by omega), if_neg (by omega), if_neg (by omega), if_pos (by omega)]
  have c : ∀ i, (i < 4 ∨ i = 22 ∨ 24 ≤ i ∧ i < 38) → zMP r w i = w i := fun i hi => zl i (by omega) (by omega) (by omega) (by omega) (by omega) (by omega)
  refine ⟨⟨⟨⟨?_, ?_⟩, ?_, ⟨0, by decide, by rw [zMP_v h38 hq 4 (by decide)]; rfl⟩, fun j hj => by rw [zm j hj]; exact B2_0, ⟨?_, ?_⟩, ?_⟩, ?_⟩, ⟨N + 1, A, C, Z, L, H, E, l, ⟨z21, (c 28 (by decide)).trans e2, (c 37 (by decide)).trans e3, (c 30 (by decide)).trans e4, (c 31 (by decide)).trans e5, (c 29 (by decide)).trans e6, (c 33 (by decide)).trans e7, (c 36 (by decide)).trans e8⟩, by omega, by omega, by omega, b4, b5, b6, b7, by omega⟩, W + 1, by omega, z38, fun j hj => ?_⟩
  · rw [c 0 (by decide)]; exact s0
  · rw [c 1 (by decide)]; exact s1
  · rw [c 2 (by decide), c 3 (by decide)]; exact ⟨g, s2⟩
  · rw [c 24 (by decide)]; exact s4
  · rw [c 25 (by decide)]; exact s5
  · rw [z23]
    by_cases hz : zHas r w = 0
    · rw [if_pos hz]
      have hlt : w 23 + 1 < r 3 := by
        unfold zHas at hz
        by_cases h21 : w 21 = 0
        · rw [if_pos h21] at hz; exact absurd hz (by decide)
        · rw [if_neg h21] at hz
          by_cases hh : w 23 + 1 < r 3
          · exact hh
          · rw [if_neg hh] at hz; exact absurd hz (by decide)
      obtain ⟨d, d1, d2, d3⟩ := hr.2.2.2
      rw [s7, d3, ← nI_succ] at hlt
      have := (nI_ltI (by omega) (by omega)).mp hlt
      exact ⟨s + 1, by omega, by rw [s7, nI_succ]⟩
    · rw [if_neg hz]
      exact ⟨0, by decide, rfl⟩
  · exact hh.congr (c 26 (by decide)).symm (c 27 (by decide)).symm
  · rw [z21, nI_clamp (by omega)]
    rw [e1, nI_clamp (by omega)] at w3
    by_cases hj2 : j = W
    · subst hj2
      have v0 : zMP r w (39 + 21 * j + 0) = nI N := by rw [zMP_v h38 hq _ (by omega), if_neg (by omega), if_neg (by omega), if_neg (by omega), if_neg (by omega), if_neg (by omega), if_neg (by omega), if_neg (by omega), if_neg (by omega), if_neg (by omega), if_neg (by omega), if_pos (by omega), e1]
      have v1 : zMP r w (39 + 21 * j + 1) = nI k4 := by rw [zMP_v h38 hq _ (by omega), if_neg (by omega), if_neg (by omega), if_neg (by omega), if_neg (by omega), if_neg (by omega), if_neg (by omega), if_neg (by omega), if_neg (by omega), if_neg (by omega), if_pos (by omega), e44]
      have v2 : zMP r w (39 + 21 * j + 2) = if zHas r w = 0 then 0 else 1 := by rw [zMP_v h38 hq _ (by omega), if_neg (by omega), if_neg (by omega), if_neg (by omega), if_neg (by omega), if_neg (by omega), if_neg (by omega), if_neg (by omega), if_neg (by omega), if_pos (by omega)]
      have v3 : zMP r w (39 + 21 * j + 3) = if zHas r w = 0 then -10000 else w 24 := by rw [zMP_v h38 hq _ (by omega), if_neg (by omega), if_neg (by omega), if_neg (by omega), if_neg (by omega), if_neg (by omega), if_neg (by omega), if_neg (by omega), if_pos (by omega)]
      have v4 : zMP r w (39 + 21 * j + 4) = if zHas r w = 0 then -10000 else w 25 := by rw [zMP_v h38 hq _ (by omega), if_neg (by omega), if_neg (by omega), if_neg (by omega), if_neg (by omega), if_neg (by omega), if_neg (by omega), if_pos (by omega)]
      refine ⟨⟨N, by omega, v0⟩, fun h2 => ?_, fun i hi => ?_, k4, hk4, v1⟩
      · have h2 : zMP r w (39 + 21 * j + 2) = 1 := h2
        rw [v2] at h2
        by_cases hz : zHas r w = 0
        · rw [if_pos hz] at h2; exact absurd h2 (by decide)
        · show B2 (zMP r w (39 + 21 * j + 3)) ∧ ∃ m, m < 25 ∧ zMP r w (39 + 21 * j + 4) = nI m
          rw [v3, v4, if_neg hz, if_neg hz]
          exact ⟨s4, s5⟩
      · show B2 (zMP r w (39 + 21 * j + (13 + i)))
        rw [zMP_v h38 hq _ (by omega), if_neg (by omega), if_neg (by omega), if_neg (by omega), if_neg (by omega), if_pos (by omega), show 39 + 21 * j + (13 + i) - (39 + 21 * j) = 13 + i by omega]
        exact s3 i hi
    · refine ((w3 j (by omega)).mono (by omega)).congr fun i hi => ?_
      rw [zMP_v h38 hq _ (by omega), if_neg (by omega), if_neg (by omega), if_neg (by omega), if_neg (by omega), if_neg (by omega), if_neg (by omega), if_neg (by omega), if_neg (by omega), if_neg (by omega), if_neg (by omega), if_neg (by omega)]
end BOUNDS
