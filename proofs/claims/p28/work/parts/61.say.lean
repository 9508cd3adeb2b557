/-! THE CLASS. Gathering, the mean, folding -/
section CSAY
variable {M M1 M' : Mem} {a b e i o p k n q m s : Nat} {w f z r T : Nat → Int32} {x y c g : Int32}
theorem RE.tr (h : RE M e w) (h1 : mI M' e = mI M e) (h2 : mI M' (e + 1) = mI M (e + 1)) (hw : ∀ i, 26 ≤ i → i < 38 → w i = f i) : RE M' e f :=
  ⟨(congrFun h2 0).trans (h.1.trans (hw 26 (by decide) (by decide))), (congrFun h2 1).trans (h.2.1.trans (hw 27 (by decide) (by decide))), fun k h3 h4 => (congrFun h1 k).trans ((h.2.2 k h3 h4).trans (hw _ (by unfold earIx; split <;> omega) (by unfold earIx; split <;> omega)))⟩
theorem RV.m1 (h : RV M a w) (hW : WR M a) (h2 : M'.2 = M.2) (hb : ∀ b, b ≠ a + 1 → mI M' b = mI M b) (k5 : mI M' (a + 1) 5 = mI M (a + 1) 5) (k7 : mI M' (a + 1) 7 = mI M (a + 1) 7) (k10 : mI M' (a + 1) 10 = mI M (a + 1) 10) (k2 : mI M' (a + 1) 2 = f 2) (k3 : mI M' (a + 1) 3 = f 3) (k6 : mI M' (a + 1) 6 = f 22) (hw : ∀ i, i ≠ 2 → i ≠ 3 → i ≠ 22 → w i = f i) : RV M' a f := by
  have h0 := h
  obtain ⟨⟨⟨q, q1, q2, q3, ⟨f0, f1, f2, f3, f5, f6⟩, q7, q8, q9⟩, ⟨q', c, c1, c2, c3, c4, c5, c6, c7, c8⟩, hE⟩, ⟨h4, h5⟩, -⟩ := h
  have B : ∀ o, o ≠ 1 → ∀ j, mI M' (a + o) j = mI M (a + o) j := fun o ho j => congrFun (hb (a + o) (by omega)) j
  have e8 : mI M' (a + 1 + 7) = mI M (a + 1 + 7) := hb _ (by omega)
  have e7 : mI M' (a + 1 + 6) = mI M (a + 1 + 6) := hb _ (by omega)
  refine h0.low hW h2 (fun b h1 _ => hb b (by omega)) ⟨q, q1, (hw 4 (by decide) (by decide) (by decide)).symm.trans q2, (B 3 (by decide) 2).trans q3, ⟨(B 2 (by decide) 0).trans (f0.trans (hw _ (by decide) (by decide) (by decide))), (B 2 (by decide) 1).trans (f1.trans (hw _ (by decide) (by decide) (by decide))), k2, k3, k5.trans (f5.trans (hw _ (by decide) (by decide) (by decide))), k6⟩, fun j hj => ⟨(B 4 (by decide) j).trans ((q7 j hj).1.trans (hw _ (by omega) (by omega) (by omega))), (B 5 (by decide) j).trans ((q7 j hj).2.trans (hw _ (by omega) (by omega) (by omega)))⟩, fun hq => ⟨(B 6 (by decide) 0).trans ((q8 hq).1.trans (hw _ (by decide) (by decide) (by decide))), (B 6 (by decide) 1).trans ((q8 hq).2.trans (hw _ (by decide) (by decide) (by decide)))⟩, ?_⟩ ⟨q', c, c1, (hw 4 (by decide) (by decide) (by decide)).symm.trans c2, k10.trans c3, c4, ?_, ?_, ?_, ?_⟩ (hE.tr (hb _ (by omega)) (hb _ (by omega)) fun i h1 h2 => hw i (by omega) (by omega) (by omega)) ((B 0 (by decide) 3).trans (h4.trans (hw _ (by decide) (by decide) (by decide)))) ((B 0 (by decide) 4).trans (h5.trans (hw _ (by decide) (by decide) (by decide)))) fun i h1 h2 => hw i (by omega) (by omega) (by omega)
  · rw [← hw 21 (by decide) (by decide) (by decide), ← hw 23 (by decide) (by decide) (by decide), k7]; exact q9
  · rw [← hw 21 (by decide) (by decide) (by decide), ← hw 23 (by decide) (by decide) (by decide)]; exact c5
  · rw [e7]; exact c6
  · rw [e7, e8, ← hw 0 (by decide) (by decide) (by decide), ← hw 1 (by decide) (by decide) (by decide)]; exact c7
  · rw [e7, e8, ← hw 0 (by decide) (by decide) (by decide), ← hw 1 (by decide) (by decide) (by decide), ← hw 24 (by decide) (by decide) (by decide), ← hw 25 (by decide) (by decide) (by decide)]
    refine fun hq => ⟨(c8 hq).1, ?_⟩
    rw [← (c8 hq).2]
    exact zFl_congr fun j hj => (hw (5 + j) (by omega) (by omega) (by omega)).symm
theorem WR.m1 (hW : WR M a) (h2 : M'.2 = M.2) (hb : ∀ b, b ≠ a + 1 → mI M' b = mI M b) : WR M' a := hW.low h2 (fun b h1 _ => hb b (by omega)) (by rw [hb _ (by omega)]; exact hW.2.2.2)
theorem gather_c (h : RV M a w) (hW : WR M a) : ∃ M', f_X3_gather (a + 1) x M = some M' ∧ RV M' a (zGa w x) ∧ WR M' a ∧ FrV M M' a ∧ mI M' (a + 1) 1 = mI M (a + 1) 1 + 1 := by
  have hb : ∀ b, b ≠ a + 1 → mI (sI (sI (sI M (a + 1) 1 (mI M (a + 1) 1 + 1)) (a + 1) 2 (mI M (a + 1) 2 + 1)) (a + 1) 3 (mI M (a + 1) 3 + x)) b = mI M b := fun b hb => by rw [mI_sn hb, mI_sn hb, mI_sn hb]
  have f2 := h.1.1
  obtain ⟨q, q1, q2, q3, ⟨f0, f1, f2, f3, f5, f6⟩, -⟩ := f2
  refine ⟨_, ?_, h.m1 (M' := sI (sI (sI M (a + 1) 1 (mI M (a + 1) 1 + 1)) (a + 1) 2 (mI M (a + 1) 2 + 1)) (a + 1) 3 (mI M (a + 1) 3 + x)) hW rfl hb ?_ ?_ ?_ ?_ ?_ ?_ ?_, hW.m1 rfl hb, FrV.of (fun b h => hb b (by omega)) rfl, ?_⟩
  · unfold f_X3_gather
    simp only [nb_s]
    rw [mI_sk (show 2 ≠ 1 by decide), mI_sk (show 3 ≠ 2 by decide), mI_sk (show 3 ≠ 1 by decide)]
  · rw [mI_sk (by decide), mI_sk (by decide), mI_sk (by decide)]
  · rw [mI_sk (by decide), mI_sk (by decide), mI_sk (by decide)]
  · rw [mI_sk (by decide), mI_sk (by decide), mI_sk (by decide)]
  · rw [mI_sk (by decide), mI_ss, f2]; rfl
  · rw [mI_ss, f3]; rfl
  · rw [mI_sk (by decide), mI_sk (by decide), mI_sk (by decide), f6]; rfl
  · intro i h1 h2 h3
    unfold zGa
    rw [upd_ne h1, upd_ne h2]
  · rw [mI_sk (by decide), mI_sk (by decide), mI_ss]
theorem clear_c (h : RV M a w) (hW : WR M a) : RV (sI (sI M (a + 1) 2 0) (a + 1) 3 0) a (upd (upd w 3 0) 2 0) ∧ WR (sI (sI M (a + 1) 2 0) (a + 1) 3 0) a ∧ FrV M (sI (sI M (a + 1) 2 0) (a + 1) 3 0) a ∧ mI (sI (sI M (a + 1) 2 0) (a + 1) 3 0) (a + 1) 1 = mI M (a + 1) 1 := by
  have hb : ∀ b, b ≠ a + 1 → mI (sI (sI M (a + 1) 2 0) (a + 1) 3 0) b = mI M b := fun b hb => by rw [mI_sn hb, mI_sn hb]
  have f2 := h.1.1
  obtain ⟨q, q1, q2, q3, ⟨f0, f1, f2, f3, f5, f6⟩, -⟩ := f2
  refine ⟨h.m1 hW rfl hb ?_ ?_ ?_ ?_ ?_ ?_ ?_, hW.m1 rfl hb, FrV.of (fun b h => hb b (by omega)) rfl, ?_⟩
  · rw [mI_sk (by decide), mI_sk (by decide)]
  · rw [mI_sk (by decide), mI_sk (by decide)]
  · rw [mI_sk (by decide), mI_sk (by decide)]
  · rw [mI_sk (by decide), mI_ss]; rfl
  · rw [mI_ss]; rfl
  · rw [mI_sk (by decide), mI_sk (by decide), f6]; rfl
  · intro i h1 h2 h3
    rw [upd_ne h1, upd_ne h2]
  · rw [mI_sk (by decide), mI_sk (by decide)]
theorem mean_c (h2 : mI M (a + 1) 2 = w 2) (h3 : mI M (a + 1) 3 = w 3) (hk : w 2 = nI k) (hk0 : 0 < k) (hk1 : k < 2 ^ 31) (hB : B2 (w 3 / w 2)) : f_X3_takeMean (a + 1) (r 1) M = some (zMean r w, sI (sI M (a + 1) 2 0) (a + 1) 3 0) := by
  unfold f_X3_takeMean f_X3_takeMean_b20 zMean
  rw [h2, h3, hk, if_neg (nI_nle hk0 hk1), gd_s (nI_ne0 hk0 hk1), nb_s, nb_s, ← hk, dist_c hB B2_0, vb_s, Int32.sub_zero]
  by_cases h : r 1 ≤ zS (w 3 / w 2)
  · rw [if_pos h, if_pos h]
  · rw [if_neg h, if_neg h]
/-- a code is made: the row's places one by one -/
def zMCb (w : Nat → Int32) (q : Nat) : Nat → Int32 := if q = 0 then upd (upd (upd (upd w 3 0) 2 0) 24 (w 0)) 25 (w 1) else upd (upd w 3 0) 2 0
theorem zMC_v {m : Int32} (hc : w 4 = nI q) (hq : q < 8) : zMC T w m = upd (upd (upd (upd (upd (upd (zMCb w q) (5 + q) (zMC1 T w m)) (13 + q) m) 4 (nI (q + 1))) 22 (w 22 + 1)) 0 (zG (w 0) (T (w 1).toNatClampNeg) (zMC1 T w m))) 1 (zI (w 1) (zMC1 T w m)) := by
  have hz : w 4 = 0 ↔ q = 0 := by rw [hc]; exact nI_eq (b := 0) (by omega) (by decide)
  have e2 : (w 4).toNatClampNeg = q := by rw [hc, nI_clamp (by omega)]
  have e3 : w 4 + 1 = nI (q + 1) := by rw [hc, nI_succ]
  have hb : (if w 4 = 0 then upd (upd (upd (upd w 3 0) 2 0) 24 (w 0)) 25 (w 1) else upd (upd w 3 0) 2 0) = zMCb w q := by
    unfold zMCb
    by_cases h : q = 0
    · rw [if_pos h, if_pos (hz.mpr h)]
    · rw [if_neg h, if_neg (fun z => h (hz.mp z))]
  have hb0 : zMCb w q 0 = w 0 := by unfold zMCb; split <;> rfl
  have hb1 : zMCb w q 1 = w 1 := by unfold zMCb; split <;> rfl
  have hb22 : zMCb w q 22 = w 22 := by unfold zMCb; split <;> rfl
  unfold zMC zF
  simp only []
  rw [hb, e2, e3]
  have y22 : upd (upd (upd (zMCb w q) (5 + q) (zMC1 T w m)) (13 + q) m) 4 (nI (q + 1)) 22 = w 22 := by rw [upd_ne (by decide), upd_ne (by omega), upd_ne (by omega), hb22]
  rw [y22]
  have y0 : upd (upd (upd (upd (zMCb w q) (5 + q) (zMC1 T w m)) (13 + q) m) 4 (nI (q + 1))) 22 (w 22 + 1) 0 = w 0 := by rw [upd_ne (by decide), upd_ne (by decide), upd_ne (by omega), upd_ne (by omega), hb0]
  have y1 : upd (upd (upd (upd (zMCb w q) (5 + q) (zMC1 T w m)) (13 + q) m) 4 (nI (q + 1))) 22 (w 22 + 1) (0 + 1) = w 1 := by rw [upd_ne (by decide), upd_ne (by decide), upd_ne (by omega), upd_ne (by omega), hb1]
  rw [y0, y1]
theorem fold_b {m : Int32} (h2 : mI M (a + 3) 2 = nI q) (hq : q < 8) (hi : mI M (a + 2) 1 = nI i) (hi2 : i < 25) : f_X3_fold_b33 (a + 1) m c M = some (c, sI (sE (sI (sI (sI M (a + 4) q c) (a + 5) q m) (a + 3) 2 (nI (q + 1))) (a + 2) (zSt (mI M (a + 2) 0, mI M (a + 2) 1) c)) (a + 1) 6 (mI M (a + 1) 6 + 1)) := by
  have h2' : mI M (a + 1 + 2) 2 = nI q := h2
  have a4 : mI (sI M (a + 4) q c) (a + 1 + 2) 2 = nI q := by rw [mI_sn (by omega)]; exact h2
  have a5 : mI (sI (sI M (a + 4) q c) (a + 5) q m) (a + 1 + 2) 2 = nI q := by rw [mI_sn (by omega)]; exact a4
  unfold f_X3_fold_b33 f_X2_add
  rw [h2', if_neg (nI_pos (by omega)), if_neg (show ¬ (8 : Int32) ≤ nI q from nI_ge (b := 8) hq (by decide)), gd_s (nI_ix hq (by decide)), nb_s, nI_clamp (by omega)]
  show vb (gd (ix (mI (sI M (a + 4) q c) (a + 1 + 2) 2) 8) _) _ = _
  rw [a4, gd_s (nI_ix hq (by decide)), nb_s, nI_clamp (by omega), nb_s]
  show vb (some (sI (sI (sI M (a + 4) q c) (a + 5) q m) (a + 3) 2 (mI (sI (sI M (a + 4) q c) (a + 5) q m) (a + 1 + 2) 2 + 1))) _ = _
  rw [a5, vb_s, ← nI_succ]
  have ei : mI (sI (sI (sI M (a + 4) q c) (a + 5) q m) (a + 3) 2 (nI (q + 1))) (a + 1 + 1) = mI M (a + 2) := by rw [mI_sn (by omega), mI_sn (by omega), mI_sn (by omega)]
  rw [follow_c (n := i) (by rw [ei]; exact hi) hi2, vb_s, nb_s, ei]
  have e6 : mI (sE (sI (sI (sI M (a + 4) q c) (a + 5) q m) (a + 3) 2 (nI (q + 1))) (a + 1 + 1) (zSt (mI M (a + 2) 0, mI M (a + 2) 1) c)) (a + 1) = mI M (a + 1) := by rw [mI_sEn (by omega), mI_sn (by omega), mI_sn (by omega), mI_sn (by omega)]
  rw [e6]
theorem fold_c {m : Int32} (h : RV M a (upd (upd z 3 0) 2 0)) (hW : WR M a) (hq4 : z 4 = nI q) (hq : q < 8) (hi : z 1 = nI i) (hi2 : i < 25) (hB : B2 (z 0)) (hm : B2 m) : ∃ M', f_X3_fold (a + 1) m M = some (zMC1 cSTEPS z m, M') ∧ RV M' a (zMC cSTEPS z m) ∧ WR M' a ∧ FrV M M' a ∧ mI M' (a + 1) 1 = mI M (a + 1) 1 := by
  have h0 := h
  obtain ⟨⟨⟨q', q1, q2, q3, ⟨f0, f1, f2, f3, f5, f6⟩, q7, q8, q9⟩, ⟨q'', c, c1, c2, c3, c4, c5, c6, c7, c8⟩, hE⟩, ⟨h4, h5⟩, -⟩ := h
  have hz4 : (upd (upd z 3 0) 2 0) 4 = nI q := hq4
  have eq1 : q' = q := (nI_eq (by omega) (by omega)).mp (q2.symm.trans hz4)
  have eq2 : q'' = q := (nI_eq (by omega) (by omega)).mp (c2.symm.trans hz4)
  subst eq1
  subst eq2
  replace f0 : mI M (a + 2) 0 = z 0 := f0
  replace f1 : mI M (a + 2) 1 = z 1 := f1
  replace f2 : mI M (a + 1) 2 = 0 := f2
  replace f3 : mI M (a + 1) 3 = 0 := f3
  replace f6 : mI M (a + 1) 6 = z 22 := f6
  have eC : zK m (mI M (a + 2) 0) (cSTEPS i) = zMC1 cSTEPS z m := by
    unfold zMC1
    rw [hi, nI_clamp (by omega), f0]
  generalize hC : zMC1 cSTEPS z m = C at eC
  have hv := zMC_v (T := cSTEPS) (m := m) hq4 hq
  rw [hC] at hv
  -- the memory ahead of the adding
  have key : ∀ M1 : Mem, M1.2 = M.2 → (∀ b, b ≠ a + 6 → mI M1 b = mI M b) → (q'' = 0 → mI M1 (a + 6) 0 = z 0 ∧ mI M1 (a + 6) 1 = z 1) → (q'' ≠ 0 → mI M1 (a + 6) = mI M (a + 6)) → ∃ M', f_X3_fold_b33 (a + 1) m C M1 = some (C, M') ∧ RV M' a (zMC cSTEPS z m) ∧ WR M' a ∧ FrV M M' a ∧ mI M' (a + 1) 1 = mI M (a + 1) 1 := by
    intro M1 e2 eb e60 e61
    refine ⟨_, fold_b (i := i) (q := q'') (by rw [eb _ (by omega)]; exact q3) hq (by rw [eb _ (by omega), f1, hi]) hi2, ?_, ?_, ?_, ?_⟩
    · generalize hM' : sI (sE (sI (sI (sI M1 (a + 4) q'' C) (a + 5) q'' m) (a + 3) 2 (nI (q'' + 1))) (a + 2) (zSt (mI M1 (a + 2) 0, mI M1 (a + 2) 1) C)) (a + 1) 6 (mI M1 (a + 1) 6 + 1) = M'
      have far : ∀ b, b ≠ a + 1 → b ≠ a + 2 → b ≠ a + 3 → b ≠ a + 4 → b ≠ a + 5 → b ≠ a + 6 → mI M' b = mI M b := fun b g1 g2 g3 g4 g5 g6 => by rw [← hM', mI_sn g1, mI_sEn g2, mI_sn g3, mI_sn g5, mI_sn g4, eb b g6]
      have k1 : ∀ j, j ≠ 6 → mI M' (a + 1) j = mI M (a + 1) j := fun j hj => by rw [← hM', mI_sk hj, mI_sEn (by omega), mI_sn (by omega), mI_sn (by omega), mI_sn (by omega), eb _ (by omega)]
      have k6 : mI M' (a + 1) 6 = z 22 + 1 := by rw [← hM', mI_ss, eb _ (by omega), f6]
      have k20 : mI M' (a + 2) 0 = zG (z 0) (cSTEPS (z 1).toNatClampNeg) C := by rw [← hM', mI_sn (by omega), mI_sE0, eb _ (by omega), f0, f1]; rfl
      have k21 : mI M' (a + 2) 1 = zI (z 1) C := by rw [← hM', mI_sn (by omega), mI_sE1, eb _ (by omega), f0, f1]; rfl
      have k32 : mI M' (a + 3) 2 = nI (q'' + 1) := by rw [← hM', mI_sn (by omega), mI_sEn (by omega), mI_ss]
      have k4 : ∀ j, mI M' (a + 4) j = if j = q'' then C else mI M (a + 4) j := fun j => by rw [← hM', mI_sn (by omega), mI_sEn (by omega), mI_sn (by omega), mI_sn (by omega), mI_up, eb _ (by omega)]; rfl
      have k5 : ∀ j, mI M' (a + 5) j = if j = q'' then m else mI M (a + 5) j := fun j => by rw [← hM', mI_sn (by omega), mI_sEn (by omega), mI_sn (by omega), mI_up, mI_sn (by omega), eb _ (by omega)]; rfl
      have k60 : mI M' (a + 6) = mI M1 (a + 6) := by rw [← hM', mI_sn (by omega), mI_sEn (by omega), mI_sn (by omega), mI_sn (by omega), mI_sn (by omega)]
      have v0 : zMC cSTEPS z m 0 = zG (z 0) (cSTEPS (z 1).toNatClampNeg) C := by rw [hv]; rfl
      have v1 : zMC cSTEPS z m 1 = zI (z 1) C := by rw [hv]; rfl
      have v2 : zMC cSTEPS z m 2 = 0 := by rw [hv, upd_ne (by decide), upd_ne (by decide), upd_ne (by decide), upd_ne (by decide), upd_ne (by omega), upd_ne (by omega)]; unfold zMCb; split <;> rfl
      have v3 : zMC cSTEPS z m 3 = 0 := by rw [hv, upd_ne (by decide), upd_ne (by decide), upd_ne (by decide), upd_ne (by decide), upd_ne (by omega), upd_ne (by omega)]; unfold zMCb; split <;> rfl
      have v4 : zMC cSTEPS z m 4 = nI (q'' + 1) := by rw [hv]; rfl
      have v22 : zMC cSTEPS z m 22 = z 22 + 1 := by rw [hv]; rfl
      have vc : ∀ j, j < 8 → zMC cSTEPS z m (5 + j) = if j = q'' then C else z (5 + j) := by
        intro j hj
        rw [hv, upd_ne (by omega), upd_ne (by omega), upd_ne (by omega), upd_ne (by omega), upd_ne (by omega)]
        by_cases hjq : j = q''
        · rw [if_pos hjq, hjq, upd_eq]
        · rw [if_neg hjq, upd_ne (by omega)]
          unfold zMCb
          split
          · rw [upd_ne (by omega), upd_ne (by omega), upd_ne (by omega), upd_ne (by omega)]
          · rw [upd_ne (by omega), upd_ne (by omega)]
      have vm : ∀ j, j < 8 → zMC cSTEPS z m (13 + j) = if j = q'' then m else z (13 + j) := by
        intro j hj
        rw [hv, upd_ne (by omega), upd_ne (by omega), upd_ne (by omega), upd_ne (by omega)]
        by_cases hjq : j = q''
        · rw [if_pos hjq, hjq, upd_eq]
        · rw [if_neg hjq, upd_ne (by omega), upd_ne (by omega)]
          unfold zMCb
          split
          · rw [upd_ne (by omega), upd_ne (by omega), upd_ne (by omega), upd_ne (by omega)]
          · rw [upd_ne (by omega), upd_ne (by omega)]
      have vh : ∀ i, 26 ≤ i ∨ i = 21 ∨ i = 23 → zMC cSTEPS z m i = z i := by
        intro i hi
        rw [hv, upd_ne (by omega), upd_ne (by omega), upd_ne (by omega), upd_ne (by omega), upd_ne (by omega), upd_ne (by omega)]
        unfold zMCb
        split
        · rw [upd_ne (by omega), upd_ne (by omega), upd_ne (by omega), upd_ne (by omega)]
        · rw [upd_ne (by omega), upd_ne (by omega)]
      have v24 : zMC cSTEPS z m 24 = if q'' = 0 then z 0 else z 24 := by
        rw [hv, upd_ne (by omega), upd_ne (by omega), upd_ne (by omega), upd_ne (by omega), upd_ne (by omega), upd_ne (by omega)]
        unfold zMCb
        split <;> rfl
      have v25 : zMC cSTEPS z m 25 = if q'' = 0 then z 1 else z 25 := by
        rw [hv, upd_ne (by omega), upd_ne (by omega), upd_ne (by omega), upd_ne (by omega), upd_ne (by omega), upd_ne (by omega)]
        unfold zMCb
        split <;> rfl
      have h6 : mI M' (a + 6) 0 = zMC cSTEPS z m 24 ∧ mI M' (a + 6) 1 = zMC cSTEPS z m 25 := by
        rw [k60, v24, v25]
        by_cases hq0 : q'' = 0
        · rw [if_pos hq0, if_pos hq0]; exact e60 hq0
        · rw [if_neg hq0, if_neg hq0, e61 hq0]; exact q8 hq0
      have e7 : mI M' (a + 1 + 6) = mI M (a + 1 + 6) := far _ (by omega) (by omega) (by omega) (by omega) (by omega) (by omega)
      have e8 : mI M' (a + 1 + 7) = mI M (a + 1 + 7) := far _ (by omega) (by omega) (by omega) (by omega) (by omega) (by omega)
      have since : zFl (mI M (a + 1 + 7)) c (mI M (a + 1 + 6) 0, mI M (a + 1 + 6) 1) = (zMC cSTEPS z m 24, zMC cSTEPS z m 25) := by
        rw [v24, v25]
        by_cases hq0 : q'' = 0
        · rw [if_pos hq0, if_pos hq0]; exact c7 hq0
        · rw [if_neg hq0, if_neg hq0]; exact (c8 hq0).1
      have opn : zFl (fun j => zMC cSTEPS z m (5 + j)) q'' (zMC cSTEPS z m 24, zMC cSTEPS z m 25) = (z 0, z 1) := by
        rw [v24, v25]
        by_cases hq0 : q'' = 0
        · rw [if_pos hq0, if_pos hq0, hq0]; rfl
        · rw [if_neg hq0, if_neg hq0]
          refine Eq.trans (zFl_congr fun j hj => ?_) (c8 hq0).2
          show zMC cSTEPS z m (5 + j) = upd (upd z 3 0) 2 0 (5 + j)
          rw [vc j (by omega), if_neg (by omega), upd_ne (by omega), upd_ne (by omega)]
      refine h0.low hW (by rw [← hM']; exact e2) (fun b g1 _ => far b (by omega) (by omega) (by omega) (by omega) (by omega) (by omega)) ⟨q'' + 1, by omega, v4, k32, ⟨k20.trans v0.symm, k21.trans v1.symm, (k1 2 (by decide)).trans (f2.trans v2.symm), (k1 3 (by decide)).trans (f3.trans v3.symm), (k1 5 (by decide)).trans (f5.trans (vh 21 (by decide)).symm), k6.trans v22.symm⟩, fun j hj => ⟨?_, ?_⟩, fun _ => h6, ?_⟩ ⟨q'' + 1, c, by omega, v4, (k1 10 (by decide)).trans c3, c4, ?_, ?_, fun q0 => by omega, fun _ => ⟨?_, ?_⟩⟩ (hE.tr (far _ (by omega) (by omega) (by omega) (by omega) (by omega) (by omega)) (far _ (by omega) (by omega) (by omega) (by omega) (by omega) (by omega)) fun i g1 _ => ?_) ?_ ?_ fun i g1 g2 => ?_
      · refine (k4 j).trans ?_
        rw [vc j (by omega)]
        by_cases hjq : j = q''
        · rw [if_pos hjq, if_pos hjq]
        · rw [if_neg hjq, if_neg hjq]
          exact (q7 j (by omega)).1.trans (by rw [upd_ne (by omega), upd_ne (by omega)])
      · refine (k5 j).trans ?_
        rw [vm j (by omega)]
        by_cases hjq : j = q''
        · rw [if_pos hjq, if_pos hjq]
        · rw [if_neg hjq, if_neg hjq]
          exact (q7 j (by omega)).2.trans (by rw [upd_ne (by omega), upd_ne (by omega)])
      · rw [vh 21 (by decide), vh 23 (by decide), k1 7 (by decide)]; exact q9
      · rw [vh 21 (by decide), vh 23 (by decide)]; exact c5
      · rw [e7]; exact c6
      · rw [e7, e8]; exact since
      · show zSt (zFl _ q'' _) (zMC cSTEPS z m (5 + q'')) = _
        rw [opn, vc q'' hq, if_pos rfl, v0, v1]
        rfl
      · rw [vh i (by omega), upd_ne (by omega), upd_ne (by omega)]
      · rw [far _ (by omega) (by omega) (by omega) (by omega) (by omega) (by omega), vh 38 (by decide)]; exact h4
      · rw [far _ (by omega) (by omega) (by omega) (by omega) (by omega) (by omega), vh 36 (by decide)]; exact h5
      · rw [vh i (by omega), upd_ne (by omega), upd_ne (by omega)]
    · refine hW.low e2 (fun b g1 _ => by rw [mI_sn (by omega), mI_sEn (by omega), mI_sn (by omega), mI_sn (by omega), mI_sn (by omega), eb _ (by omega)]) ?_
      rw [mI_sn (by omega), mI_sEn (by omega), mI_sk (by decide), mI_sn (by omega), mI_sn (by omega), eb _ (by omega)]
      exact hW.2.2.2
    · exact FrV.of (fun b hb => by rw [mI_sn (by omega), mI_sEn (by omega), mI_sn (by omega), mI_sn (by omega), mI_sn (by omega), eb _ (by omega)]) e2
    · rw [mI_sk (by decide), mI_sEn (by omega), mI_sn (by omega), mI_sn (by omega), mI_sn (by omega), eb _ (by omega)]
  unfold f_X3_fold
  have ec : f_X0_codeFor (a + 1 + 1) m M = some C := by
    rw [← eC]
    exact code_c (e := a + 2) (f1.trans hi) hi2 hm (by rw [f0]; exact hB)
  rw [ec, vb_s, q3]
  by_cases hq0 : q'' = 0
  · subst hq0
    rw [if_pos (show nI 0 = 0 from rfl), ecopy_c, vb_s]
    refine key (sE M (a + 6) (mI M (a + 2) 0, mI M (a + 2) 1)) rfl (fun b hb => mI_sEn hb) (fun _ => ⟨?_, ?_⟩) (fun hn => (hn rfl).elim)
    · rw [mI_sE0]; exact f0
    · rw [mI_sE1]; exact f1
  · rw [if_neg (nI_ne0 (by omega) (by omega))]
    exact key M rfl (fun _ _ => rfl) (fun hn => (hq0 hn).elim) (fun _ => rfl)
end CSAY
