/-! THE CLASS. What a voice of the class has to do with a voice of the row -/
def RF (M : Mem) (m : Nat) (w : Nat → Int32) : Prop := ∃ q, q ≤ 8 ∧ w 4 = nI q ∧ mI M (m + 2) 2 = nI q ∧ (mI M (m + 1) 0 = w 0 ∧ mI M (m + 1) 1 = w 1 ∧ mI M m 2 = w 2 ∧ mI M m 3 = w 3 ∧ mI M m 5 = w 21 ∧ mI M m 6 = w 22) ∧ (∀ j, j < q → mI M (m + 3) j = w (5 + j) ∧ mI M (m + 4) j = w (13 + j)) ∧ (q ≠ 0 → mI M (m + 5) 0 = w 24 ∧ mI M (m + 5) 1 = w 25) ∧ (w 21 ≠ 0 → w 23 = w 21 - 1 - mI M m 7)
def RR (M : Mem) (m : Nat) (w : Nat → Int32) : Prop := ∃ q c, q ≤ 8 ∧ w 4 = nI q ∧ mI M m 10 = nI c ∧ c ≤ 72 ∧ (w 21 = 0 ∧ c = 0 ∨ ∃ s, w 23 = nI s ∧ s ≤ 8 ∧ c ≤ 8 * (s + 1)) ∧ (∃ i, i < 25 ∧ mI M (m + 6) 1 = nI i) ∧ (q = 0 → zFl (mI M (m + 7)) c (mI M (m + 6) 0, mI M (m + 6) 1) = (w 0, w 1)) ∧ (q ≠ 0 → zFl (mI M (m + 7)) c (mI M (m + 6) 0, mI M (m + 6) 1) = (w 24, w 25) ∧ zFl (fun j => w (5 + j)) q (w 24, w 25) = (w 0, w 1))
def RE (M : Mem) (e : Nat) (w : Nat → Int32) : Prop := mI M (e + 1) 0 = w 26 ∧ mI M (e + 1) 1 = w 27 ∧ ∀ k, 1 ≤ k → k ≤ 9 → mI M e k = w (earIx k)
def RV (M : Mem) (a : Nat) (w : Nat → Int32) : Prop := (RF M (a + 1) w ∧ RR M (a + 1) w ∧ RE M (a + 9) w) ∧ (mI M a 3 = w 38 ∧ mI M a 4 = w 36) ∧ ∃ W, W ≤ 8 ∧ w 38 = nI W ∧ ∀ j, j < W → RP M (mR M (a + 11) j) (fun i => w (39 + 21 * j + i))
/-- nothing else than the voice at a has changed -/
def FrV (M M' : Mem) (a : Nat) : Prop := (∀ b, b < a ∨ a + 44 ≤ b → mI M' b = mI M b) ∧ (∀ b, b ≠ a + 11 → mR M' b = mR M b) ∧ M'.2.2 = M.2.2
section CREL
variable {M M1 M' : Mem} {a a' b e o p p' k n q m s : Nat} {w f u : Nat → Int32} {x y c : Int32}
theorem FrV.rf : FrV M M a := ⟨fun _ _ => rfl, fun _ _ => rfl, rfl⟩
theorem FrV.trans (h : FrV M M1 a) (h2 : FrV M1 M' a) : FrV M M' a := ⟨fun b hb => (h2.1 b hb).trans (h.1 b hb), fun b hb => (h2.2.1 b hb).trans (h.2.1 b hb), h2.2.2.trans h.2.2⟩
theorem FrV.of (h : ∀ b, b < a ∨ a + 44 ≤ b → mI M' b = mI M b) (h2 : M'.2 = M.2) : FrV M M' a := ⟨h, fun b _ => by show M'.2.1 b = M.2.1 b; rw [h2], by rw [h2]⟩
theorem mR_of2 (h : M'.2 = M.2) : mR M' b = mR M b := by show M'.2.1 b = M.2.1 b; rw [h]
theorem mI_ss : mI (sI M a k x) a k = x := by rw [mI_sI, if_pos ⟨rfl, rfl⟩]
theorem mI_sk {j : Nat} (h : j ≠ k) : mI (sI M a k x) a j = mI M a j := by rw [mI_sI, if_neg (fun z => h z.2)]
theorem RE.eq (h : RE M e w) : sHr M e w = M := by
  refine mem_ext (fun b j => ?_) rfl
  rw [mI_sHr]
  by_cases hb : b = e
  · rw [if_pos hb]
    by_cases h3 : 1 ≤ j ∧ j ≤ 9
    · rw [if_pos h3, hb, h.2.2 j h3.1 h3.2]
    · rw [if_neg h3, hb]
  · rw [if_neg hb]
    by_cases h4 : b = e + 1
    · rw [if_pos h4]
      by_cases h5 : j < 2
      · rw [if_pos h5, h4]
        match j, h5 with
        | 0, _ => exact h.1.symm
        | 1, _ => exact h.2.1.symm
      · rw [if_neg h5]
    · rw [if_neg h4]
theorem RE.put : RE (sHr M e w) e w := ⟨rH0, rH1, fun k h1 h2 => rH h1 h2⟩
theorem RE.congr (h : RE M e w) (hw : ∀ i, i < 207 → w i = f i) : RE M e f := ⟨h.1.trans (hw 26 (by decide)), h.2.1.trans (hw 27 (by decide)), fun k h1 h2 => (h.2.2 k h1 h2).trans (hw _ (by unfold earIx; split <;> omega))⟩
theorem RP.congr (h : RP M p u) (hw : ∀ i, i < 21 → u i = f i) : RP M p f := by
  obtain ⟨q, h1, h2, h3, h4, h5, h6, h7⟩ := h
  refine ⟨q, h1, (hw 1 (by decide)).symm.trans h2, h3, h4.trans (hw 0 (by decide)), h5.trans (hw 2 (by decide)), ?_, fun j hj => ⟨(h7 j hj).1.trans (hw _ (by omega)), (h7 j hj).2.trans (hw _ (by omega))⟩⟩
  rw [← hw 2 (by decide), ← hw 3 (by decide), ← hw 4 (by decide)]
  exact h6
theorem RF.congr (h : RF M m w) (hw : ∀ i, i < 207 → w i = f i) : RF M m f := by
  obtain ⟨q, h1, h2, h3, ⟨f0, f1, f2, f3, f5, f6⟩, h7, h8, h9⟩ := h
  refine ⟨q, h1, (hw 4 (by decide)).symm.trans h2, h3, ⟨f0.trans (hw _ (by decide)), f1.trans (hw _ (by decide)), f2.trans (hw _ (by decide)), f3.trans (hw _ (by decide)), f5.trans (hw _ (by decide)), f6.trans (hw _ (by decide))⟩, fun j hj => ⟨(h7 j hj).1.trans (hw _ (by omega)), (h7 j hj).2.trans (hw _ (by omega))⟩, fun hq => ⟨(h8 hq).1.trans (hw _ (by decide)), (h8 hq).2.trans (hw _ (by decide))⟩, ?_⟩
  rw [← hw 21 (by decide), ← hw 23 (by decide)]
  exact h9
theorem RR.congr (h : RR M m w) (hw : ∀ i, i < 207 → w i = f i) : RR M m f := by
  obtain ⟨q, c, h1, h2, h3, h4, h5, h6, h7, h8⟩ := h
  refine ⟨q, c, h1, (hw 4 (by decide)).symm.trans h2, h3, h4, ?_, h6, ?_, ?_⟩
  · rw [← hw 21 (by decide), ← hw 23 (by decide)]; exact h5
  · rw [← hw 0 (by decide), ← hw 1 (by decide)]; exact h7
  · rw [← hw 0 (by decide), ← hw 1 (by decide), ← hw 24 (by decide), ← hw 25 (by decide)]
    intro hq
    refine ⟨(h8 hq).1, ?_⟩
    rw [← (h8 hq).2]
    exact zFl_congr fun j hj => (hw (5 + j) (by omega)).symm
theorem RV.congr (h : RV M a w) (hw : ∀ i, i < 207 → w i = f i) : RV M a f := by
  obtain ⟨⟨h1, h2, h3⟩, ⟨h4, h5⟩, W, hW, h6, h7⟩ := h
  refine ⟨⟨h1.congr hw, h2.congr hw, h3.congr hw⟩, ⟨h4.trans (hw _ (by decide)), h5.trans (hw _ (by decide))⟩, W, hW, (hw 38 (by decide)).symm.trans h6, fun j hj => (h7 j hj).congr fun i hi => hw _ (by omega)⟩
theorem RP.tr (h : RP M p u) (hE : PkEq M' p' M p) : RP M' p' u := by
  obtain ⟨q, h1, h2, h3, h4, h5, h6, h7⟩ := h
  have e2 : mI M' p' 2 = mI M p 2 := hE.1 (0, 2) (by decide)
  have e3 : mI M' p' 3 = mI M p 3 := hE.1 (0, 3) (by decide)
  have e4 : mI M' p' 4 = mI M p 4 := hE.1 (0, 4) (by decide)
  have e5 : mI M' (p' + 3) 0 = mI M (p + 3) 0 := hE.1 (3, 0) (by decide)
  have e6 : mI M' (p' + 3) 1 = mI M (p + 3) 1 := hE.1 (3, 1) (by decide)
  have c1 : ∀ j, j < 8 → mI M' (p' + 1) j = mI M (p + 1) j := hE.2 (1, 8) (by decide)
  have c2 : ∀ j, j < 8 → mI M' (p' + 2) j = mI M (p + 2) j := hE.2 (2, 8) (by decide)
  refine ⟨q, h1, h2, e2.trans h3, e3.trans h4, e4.trans h5, ?_, fun j hj => ⟨(c1 j (by omega)).trans (h7 j hj).1, (c2 j (by omega)).trans (h7 j hj).2⟩⟩
  rw [e5, e6]
  exact h6
theorem RV.tr (h : RV M a w) (hE : VoEq M' a' M a) : RV M' a' w := by
  obtain ⟨⟨⟨q, q1, q2, q3, ⟨f0, f1, f2, f3, f5, f6⟩, q7, q8, q9⟩, ⟨q', c, c1, c2, c3, c4, c5, c6, c7, c8⟩, k1, k2, k3⟩, ⟨h4, h5⟩, W, hW, h6, h7⟩ := h
  have S := hE.1.1
  have T := hE.1.2
  have t3 : ∀ j, j < 8 → mI M' (a' + 4) j = mI M (a + 4) j := T (4, 8) (by decide)
  have t4 : ∀ j, j < 8 → mI M' (a' + 5) j = mI M (a + 5) j := T (5, 8) (by decide)
  have t7 : ∀ j, j < 72 → mI M' (a' + 8) j = mI M (a + 8) j := T (8, 72) (by decide)
  have g0 : mI M' (a' + 1 + 6) 0 = mI M (a + 1 + 6) 0 := S (7, 0) (by decide)
  have g1 : mI M' (a' + 1 + 6) 1 = mI M (a + 1 + 6) 1 := S (7, 1) (by decide)
  have zf : zFl (mI M' (a' + 1 + 7)) c (mI M' (a' + 1 + 6) 0, mI M' (a' + 1 + 6) 1) = zFl (mI M (a + 1 + 7)) c (mI M (a + 1 + 6) 0, mI M (a + 1 + 6) 1) := by
    rw [g0, g1]
    exact zFl_congr fun j hj => t7 j (by omega)
  refine ⟨⟨⟨q, q1, q2, (S (3, 2) (by decide)).trans q3, ⟨(S (2, 0) (by decide)).trans f0, (S (2, 1) (by decide)).trans f1, (S (1, 2) (by decide)).trans f2, (S (1, 3) (by decide)).trans f3, (S (1, 5) (by decide)).trans f5, (S (1, 6) (by decide)).trans f6⟩, fun j hj => ⟨(t3 j (by omega)).trans (q7 j hj).1, (t4 j (by omega)).trans (q7 j hj).2⟩, fun hq => ⟨(S (6, 0) (by decide)).trans (q8 hq).1, (S (6, 1) (by decide)).trans (q8 hq).2⟩, fun h21 => (q9 h21).trans (congrArg (fun z => w 21 - 1 - z) (S (1, 7) (by decide)).symm)⟩, ⟨q', c, c1, c2, (S (1, 10) (by decide)).trans c3, c4, c5, ?_, fun hq => zf.trans (c7 hq), fun hq => ⟨zf.trans (c8 hq).1, (c8 hq).2⟩⟩, (S (10, 0) (by decide)).trans k1, (S (10, 1) (by decide)).trans k2, fun k hk1 hk2 => ?_⟩, ⟨(S (0, 3) (by decide)).trans h4, (S (0, 4) (by decide)).trans h5⟩, W, hW, h6, fun j hj => (h7 j hj).tr (hE.2 j (by omega))⟩
  · rw [g1]; exact c6
  · refine Eq.trans ?_ (k3 k hk1 hk2)
    have hin : (9, k) ∈ voS := by
      match k, hk1, hk2 with
      | 1, _, _ => decide
      | 2, _, _ => decide
      | 3, _, _ => decide
      | 4, _, _ => decide
      | 5, _, _ => decide
      | 6, _, _ => decide
      | 7, _, _ => decide
      | 8, _, _ => decide
      | 9, _, _ => decide
    exact S (9, k) hin
/-- a change ahead of the packets -/
theorem RV.low (h : RV M a w) (hW : WR M a) (h2 : M'.2 = M.2) (hb : ∀ b, a + 12 ≤ b → b < a + 44 → mI M' b = mI M b) (h3 : RF M' (a + 1) f) (h4 : RR M' (a + 1) f) (h5 : RE M' (a + 9) f) (h6 : mI M' a 3 = f 38) (h7 : mI M' a 4 = f 36) (hw : ∀ i, 38 ≤ i → i < 207 → w i = f i) : RV M' a f := by
  obtain ⟨-, -, W, hW8, w38, hp⟩ := h
  refine ⟨⟨h3, h4, h5⟩, ⟨h6, h7⟩, W, hW8, (hw 38 (by decide) (by decide)).symm.trans w38, fun j hj => ?_⟩
  obtain ⟨t, ht, et⟩ := hW.1 j (by omega)
  have hx : ∀ o, o < 4 → mI M' (mR M (a + 11) j + o) = mI M (mR M (a + 11) j + o) := fun o ho => hb _ (by omega) (by omega)
  rw [mR_of2 h2]
  refine RP.congr (RP.tr (hp j hj) ⟨fun z hz => congrFun (hx z.1 (pkS_lt z hz)) z.2, fun z hz k hk => congrFun (hx z.1 (pkT_lt z hz)) k⟩) fun i hi => hw _ (by omega) (by omega)
theorem WR.low (hW : WR M a) (h2 : M'.2 = M.2) (hb : ∀ b, a + 12 ≤ b → b < a + 44 → mI M' b = mI M b) (h3 : mI M' (a + 3) 4 = 0 ∨ mI M' (a + 3) 4 = 1) : WR M' a := by
  refine ⟨fun j hj => by rw [mR_of2 h2]; exact hW.1 j hj, fun i j hi hj => by rw [mR_of2 h2]; exact hW.2.1 i j hi hj, fun j hj => ?_, h3⟩
  obtain ⟨t, ht, et⟩ := hW.1 j hj
  rw [mR_of2 h2, hb _ (by omega) (by omega)]
  exact hW.2.2.1 j hj
/-- the settings -/
def RSet (M : Mem) (t : Nat) (r : Nat → Int32) : Prop := ∀ i, i < 4 → mI M (t + 1) i = r i
theorem val_c {r : Nat → Int32} (h : RSet M b r) (hn : n < 4) : f_X4_valueOf b (nI n) M = some (r n) := by
  unfold f_X4_valueOf
  rw [if_neg (nI_pos (by omega)), if_neg (show ¬ (4 : Int32) ≤ nI n from nI_ge (b := 4) hn (by decide)), gd_s (nI_ix hn (by decide)), nI_clamp (by omega), h n hn]
theorem val_l {r : Nat → Int32} (h : RSet M b r) (n : Nat) (hn : n < 4) : f_X4_valueOf b (no_index (OfNat.ofNat n)) M = some (r n) := val_c h hn
theorem can_c {r : Nat → Int32} (h : RV M a w) (hr : RSet M b r) : f_X7_canTake a b M = some (zCS r w) := by
  obtain ⟨⟨⟨q, q1, q2, q3, ⟨f0, f1, f2, f3, f5, f6⟩, -⟩, -⟩, ⟨h4, h5⟩, -⟩ := h
  unfold f_X7_canTake f_X7_hasRoom f_X3_wouldClose f_X3_wouldClose_b33 zCS zMk
  rw [h4, val_l hr 0 (by decide), val_l hr 2 (by decide), vb_s, vb_s, vb_s, f2, q3, ← q2]
  by_cases h8 : w 38 < 8
  · rw [if_neg (Int32.not_le.mpr h8), if_pos h8, vb_s, if_neg (by decide)]
  · rw [if_pos (Int32.not_lt.mp h8), if_neg h8, vb_s, if_pos rfl]
    by_cases h0 : w 2 + 1 < r 0
    · rw [if_pos h0, if_pos h0, Int32.add_zero]
      by_cases h1 : w 4 < r 2
      · rw [if_pos h1, vb_s, if_pos rfl, if_neg (Int32.not_le.mpr h1)]
      · rw [if_neg h1, vb_s, if_neg (by decide), if_pos (Int32.not_lt.mp h1)]
    · rw [if_neg h0, if_neg h0]
      by_cases h1 : w 4 + 1 < r 2
      · rw [if_pos h1, vb_s, if_pos rfl, if_neg (Int32.not_le.mpr h1)]
      · rw [if_neg h1, vb_s, if_neg (by decide), if_pos (Int32.not_lt.mp h1)]
end CREL
