/-! THE CLASS. Saying; the wire -/
section CWIRE
variable {M M1 N M' : Mem} {a b e i o p k n q m s st : Nat} {w f z r T y : Nat → Int32} {x c g : Int32}
theorem RE.tr2 (h : RE M e w) (h1 : mI M' e = mI M e) (h2 : mI M' (e + 1) = mI M (e + 1)) (hw : ∀ i, 26 ≤ i → i < 38 → i ≠ 36 → w i = f i) : RE M' e f :=
  ⟨(congrFun h2 0).trans (h.1.trans (hw 26 (by decide) (by decide) (by decide))), (congrFun h2 1).trans (h.2.1.trans (hw 27 (by decide) (by decide) (by decide))), fun k h3 h4 => (congrFun h1 k).trans ((h.2.2 k h3 h4).trans (hw _ (by unfold earIx; split <;> omega) (by unfold earIx; split <;> omega) (by unfold earIx; split <;> omega)))⟩
theorem RSet.fr (h : RSet M st r) (hf : FrV M M' a) (hst : st + 1 < a ∨ a + 44 ≤ st + 1) : RSet M' st r := fun i hi => (congrFun (hf.1 (st + 1) hst) i).trans (h i hi)
theorem take_b (h : RV M a y) (hW : WR M a) (hr : RSet M st r) (hw : ¬ y 4 < r 2 → ∃ q, q < 8 ∧ y 38 = nI q) (h4 : ∃ k, k ≤ 8 ∧ y 4 = nI k) (hR : RB r) (hg : ∃ i, i < 25 ∧ y 25 = nI i) : ∃ M', f_X7_take_b47 a x st c M = some (c, M') ∧ RV M' a (zCl r y) ∧ WR M' a ∧ FrV M M' a ∧ mI M' (a + 1) 1 = mI M (a + 1) 1 := by
  obtain ⟨k, k8, k4⟩ := h4
  have h32 : mI M (a + 1 + 2) 2 = y 4 := by
    obtain ⟨⟨⟨q', q1, q2, q3, -⟩, -⟩, -⟩ := h
    rw [q2]; exact q3
  unfold f_X7_take_b47 zCl
  rw [val_l hr 2 (by decide), vb_s, h32]
  by_cases hlt : y 4 < r 2
  · rw [if_pos hlt, if_pos hlt]
    exact ⟨M, rfl, h, hW, FrV.rf, rfl⟩
  · rw [if_neg hlt, if_neg hlt]
    obtain ⟨q, hq, h38⟩ := hw hlt
    obtain ⟨d, d1, d2, d3⟩ := hR.2.2.1
    have hk0 : 0 < k := by
      rw [k4, d3] at hlt
      have h0 : ¬ k < d := fun z => hlt ((nI_ltI (by omega) (by omega)).mpr z)
      omega
    obtain ⟨d', e1, e2, e3⟩ := hR.2.2.2
    obtain ⟨M', g1, g2, g3, g4, g5⟩ := close_c h hW hr h38 hq k4 hk0 k8 ⟨d', by omega, e3⟩ hg
    rw [g1, vb_s]
    exact ⟨M', rfl, g2, g3, g4, g5⟩
theorem take_c (h : RV M a w) (hW : WR M a) (hr : RSet M st r) (hst : st + 1 < a ∨ a + 44 ≤ st + 1) (hb : WB n w) (hR : RB r) (hx : B2 x) (hcan : zCS r w = 1) : ∃ M', f_X7_take a x st M = some (zSayC cSTEPS r w x, M') ∧ RV M' a (zCl r (zSayW cSTEPS r w x)) ∧ WR M' a ∧ FrV M M' a ∧ mI M' (a + 1) 1 = mI M (a + 1) 1 + 1 := by
  obtain ⟨M1, e1, h1, W1, F1, S1⟩ := gather_c (x := x) h hW
  have hr1 := hr.fr F1 hst
  obtain ⟨hp, h4, hz4, -, hm, hg⟩ := say_B (T := cSTEPS) hb hR hx
  have hq := can_q (T := cSTEPS) hb hR hx hcan
  have h38 : ¬ zSayW cSTEPS r w x 4 < r 2 → ∃ q, q < 8 ∧ zSayW cSTEPS r w x 38 = nI q := fun z => by
    obtain ⟨q, q1, q2⟩ := hq z
    exact ⟨q, q1, ((say_B (T := cSTEPS) hb hR hx).2.2.2.1 38 (by decide)).trans q2⟩
  have k2 : mI M1 (a + 1) 2 = w 2 + 1 := by
    obtain ⟨⟨⟨q', q1, q2, q3, ⟨f0, f1, f2, f3, f5, f6⟩, -⟩, -⟩, -⟩ := h1
    exact f2
  have k3 : mI M1 (a + 1) 3 = w 3 + x := by
    obtain ⟨⟨⟨q', q1, q2, q3, ⟨f0, f1, f2, f3, f5, f6⟩, -⟩, -⟩, -⟩ := h1
    exact f3
  have h25 := hp.2.2.2.1.2
  unfold f_X7_take
  rw [e1, vb_s, val_l hr1 0 (by decide), vb_s, k2]
  by_cases hz : zMk r w = 0
  · have hlt : w 2 + 1 < r 0 := by
      unfold zMk at hz
      by_cases h : w 2 + 1 < r 0
      · exact h
      · rw [if_neg h] at hz; exact absurd hz (by decide)
    have e : zSayW cSTEPS r w x = zGa w x := if_pos hz
    have e' : zSayC cSTEPS r w x = -10000 := if_pos hz
    rw [if_pos hlt, e']
    rw [e] at h4 h38 h25 ⊢
    obtain ⟨M', g1, g2, g3, g4, g5⟩ := take_b (x := x) (c := -10000) h1 W1 hr1 h38 h4 hR h25
    exact ⟨M', g1, g2, g3, F1.trans g4, g5.trans S1⟩
  · have hlt : ¬ w 2 + 1 < r 0 := fun z => hz (by unfold zMk; rw [if_pos z])
    have e : zSayW cSTEPS r w x = zMC cSTEPS (zGa w x) (zMean r (zGa w x)) := if_neg hz
    have e' : zSayC cSTEPS r w x = zMC1 cSTEPS (zGa w x) (zMean r (zGa w x)) := if_neg hz
    rw [if_neg hlt, e']
    rw [e] at h4 h38 h25 ⊢
    obtain ⟨g, gg1, gg2, gg3, gg4⟩ := hg hz
    obtain ⟨⟨⟨⟨s0, i, s1, s2⟩, -, ⟨q, q1, q2⟩, -⟩, -⟩, -⟩ := hb
    have mc := mean_c (M := M1) (a := a) (w := zGa w x) (r := r) (k := g) k2 k3 gg3 gg2 (by omega) (by
      show B2 ((w 3 + x) / (w 2 + 1))
      rw [gg3]
      exact gg4)
    obtain ⟨h2, W2, F2, S2⟩ := clear_c h1 W1
    obtain ⟨M3, e3, h3, W3, F3, S3⟩ := fold_c (z := zGa w x) (q := q) (i := i) (m := zMean r (zGa w x)) h2 W2 q2 (by omega) s2 s1 s0 hm
    rw [val_l hr1 1 (by decide), vb_s, mc, cb_s, e3, cb_s]
    have hr3 := (hr1.fr F2 hst).fr F3 hst
    obtain ⟨M', g1, g2, g3, g4, g5⟩ := take_b (x := x) (c := zMC1 cSTEPS (zGa w x) (zMean r (zGa w x))) h3 W3 hr3 h38 h4 hR h25
    exact ⟨M', g1, g2, g3, ((F1.trans F2).trans F3).trans g4, g5.trans (S3.trans (S2.trans S1))⟩
/-- the first packet goes off -/
theorem off_go {q1 : Nat} : ∀ (d j n : Nat) (M : Mem), j + d = 7 → d < n → ∃ M', f_X7_takeFirstOff_b9 a n q1 (nI (j + 1)) M = some M' ∧ (∀ b k, mI M' b k = if b = a ∧ k = 3 then mI M a 3 - 1 else mI M b k) ∧ (∀ b, b ≠ a + 11 → mR M' b = mR M b) ∧ (∀ i, i < j → mR M' (a + 11) i = mR M (a + 11) i) ∧ (∀ i, j ≤ i → i < 7 → mR M' (a + 11) i = mR M (a + 11) (i + 1)) ∧ mR M' (a + 11) 7 = q1 ∧ M'.2.2 = M.2.2 := by
  intro d
  induction d with
  | zero =>
    intro j n M hj hn
    obtain ⟨n, rfl⟩ : ∃ k, n = k + 1 := ⟨n - 1, by omega⟩
    have hj : j = 7 := by omega
    subst hj
    have e7 : ((8 : Int32) - 1).toNatClampNeg = 7 := by decide
    refine ⟨sI (sR M (a + 11) 7 q1) a 3 (mI M a 3 - 1), ?_, fun b k => ?_, fun b hb => ?_, fun i hi => ?_, fun i h1 h2 => by omega, ?_, rfl⟩
    · rw [f_X7_takeFirstOff_b9, if_pos (show (8 : Int32) ≤ nI (7 + 1) by decide), gd_s (by decide), nb_s, e7, nb_s]
      rfl
    · rw [mI_sI]
      rfl
    · funext j
      show mR (sR M (a + 11) 7 q1) b j = mR M b j
      rw [mR_sR, if_neg (fun z => hb z.1)]
    · show mR (sR M (a + 11) 7 q1) (a + 11) i = _
      rw [mR_sR, if_neg (by omega)]
    · show mR (sR M (a + 11) 7 q1) (a + 11) 7 = _
      rw [mR_sR, if_pos ⟨rfl, rfl⟩]
  | succ d ih =>
    intro j n M hj hn
    obtain ⟨n, rfl⟩ : ∃ k, n = k + 1 := ⟨n - 1, by omega⟩
    obtain ⟨M', e, g1, g2, g3, g4, g5, g6⟩ := ih (j + 1) n (sR M (a + 11) j (mR M (a + 11) (j + 1))) (by omega) (by omega)
    refine ⟨M', ?_, fun b k => g1 b k, fun b hb => ?_, fun i hi => ?_, fun i h1 h2 => ?_, g5, g6⟩
    · rw [f_X7_takeFirstOff_b9, if_neg (show ¬ (8 : Int32) ≤ nI (j + 1) from nI_ge (b := 8) (by omega) (by decide)), gd_s (nI_ix (by omega) (by decide)), nb_s, nI_pred, gd_s (nI_ix (by omega) (by decide)), nb_s, nI_clamp (by omega), nI_clamp (by omega), nb_s, ← nI_succ]
      exact e
    · rw [g2 b hb]
      funext j2
      rw [mR_sR, if_neg (fun z => hb z.1)]
    · rw [g3 i (by omega), mR_sR, if_neg (by omega)]
    · by_cases hij : i = j
      · subst hij
        rw [g3 i (by omega), mR_sR, if_pos ⟨rfl, rfl⟩]
      · rw [g4 i (by omega) h2, mR_sR, if_neg (by omega)]
theorem RF.fr (h : RF M m w) (hb : ∀ b, m ≤ b → b ≤ m + 7 → mI M' b = mI M b) (hw : ∀ i, i < 26 → w i = f i) : RF M' m f := by
  obtain ⟨q, h1, h2, h3, ⟨f0, f1, f2, f3, f5, f6⟩, h7, h8, h9⟩ := h
  have e0 := hb m (by omega) (by omega)
  have e1 := hb (m + 1) (by omega) (by omega)
  have e2 := hb (m + 2) (by omega) (by omega)
  have e3 := hb (m + 3) (by omega) (by omega)
  have e4 := hb (m + 4) (by omega) (by omega)
  have e5 := hb (m + 5) (by omega) (by omega)
  refine ⟨q, h1, (hw 4 (by decide)).symm.trans h2, by rw [e2]; exact h3, ⟨by rw [e1]; exact f0.trans (hw _ (by decide)), by rw [e1]; exact f1.trans (hw _ (by decide)), by rw [e0]; exact f2.trans (hw _ (by decide)), by rw [e0]; exact f3.trans (hw _ (by decide)), by rw [e0]; exact f5.trans (hw _ (by decide)), by rw [e0]; exact f6.trans (hw _ (by decide))⟩, fun j hj => ⟨by rw [e3]; exact (h7 j hj).1.trans (hw _ (by omega)), by rw [e4]; exact (h7 j hj).2.trans (hw _ (by omega))⟩, fun hq => ⟨by rw [e5]; exact (h8 hq).1.trans (hw _ (by decide)), by rw [e5]; exact (h8 hq).2.trans (hw _ (by decide))⟩, ?_⟩
  rw [e0, ← hw 21 (by decide), ← hw 23 (by decide)]
  exact h9
theorem RR.fr (h : RR M m w) (hb : ∀ b, m ≤ b → b ≤ m + 7 → mI M' b = mI M b) (hw : ∀ i, i < 26 → w i = f i) : RR M' m f := by
  obtain ⟨q, c, h1, h2, h3, h4, h5, h6, h7, h8⟩ := h
  have e0 := hb m (by omega) (by omega)
  have e6 := hb (m + 6) (by omega) (by omega)
  have e7 := hb (m + 7) (by omega) (by omega)
  refine ⟨q, c, h1, (hw 4 (by decide)).symm.trans h2, by rw [e0]; exact h3, h4, ?_, by rw [e6]; exact h6, ?_, ?_⟩
  · rw [← hw 21 (by decide), ← hw 23 (by decide)]; exact h5
  · rw [e6, e7, ← hw 0 (by decide), ← hw 1 (by decide)]; exact h7
  · rw [e6, e7, ← hw 0 (by decide), ← hw 1 (by decide), ← hw 24 (by decide), ← hw 25 (by decide)]
    intro hq
    refine ⟨(h8 hq).1, ?_⟩
    rw [← (h8 hq).2]
    exact zFl_congr fun j hj => (hw (5 + j) (by omega)).symm
theorem PkEq.same (h : ∀ o, o < 4 → mI M' (p + o) = mI M (p + o)) : PkEq M' p M p := ⟨fun z hz => congrFun (h z.1 (pkS_lt z hz)) z.2, fun z hz k _ => congrFun (h z.1 (pkT_lt z hz)) k⟩
theorem off_c (hF : RF M (a + 1) f) (hR : RR M (a + 1) f) (hE : RE M (a + 9) f) (hW : WR M a) (h4 : mI M a 4 = f 36) (h3 : mI M a 3 = nI (q + 1)) (h38 : f 38 = nI q) (hq : q < 8) (hP : ∀ j, j < q → RP M (mR M (a + 11) (j + 1)) (fun i => f (39 + 21 * j + i))) : ∃ M', f_X7_takeFirstOff a M = some M' ∧ RV M' a f ∧ WR M' a ∧ FrV M M' a ∧ mI M' (a + 1) = mI M (a + 1) := by
  obtain ⟨M', e, g1, g2, -, g4, g5, g6⟩ := off_go (a := a) (q1 := mR M (a + 11) 0) 7 0 lfuel M rfl (by decide)
  have n0 : (0 : Int32).toNatClampNeg = 0 := by decide
  have same : ∀ b, b ≠ a → mI M' b = mI M b := fun b hb => by funext k; rw [g1, if_neg (fun z => hb z.1)]
  have k4 : mI M' a 4 = mI M a 4 := by rw [g1, if_neg (by omega)]
  have k3 : mI M' a 3 = nI q := by rw [g1, if_pos ⟨rfl, rfl⟩, h3, nI_pred]
  have r7 : ∀ j, j < 7 → mR M' (a + 11) j = mR M (a + 11) (j + 1) := fun j hj => g4 j (by omega) hj
  have rot : ∀ j, j < 8 → ∃ i, i < 8 ∧ (j < 7 ∧ i = j + 1 ∨ j = 7 ∧ i = 0) ∧ mR M' (a + 11) j = mR M (a + 11) i := fun j hj => by
    by_cases h : j < 7
    · exact ⟨j + 1, by omega, by omega, r7 j h⟩
    · have : j = 7 := by omega
      subst this
      exact ⟨0, by omega, by omega, g5⟩
  have pk : ∀ j, j < 8 → PkEq M' (mR M (a + 11) j) M (mR M (a + 11) j) := fun j hj => by
    obtain ⟨t, ht, et⟩ := hW.1 j hj
    exact PkEq.same fun o ho => same _ (by omega)
  refine ⟨M', ?_, ⟨⟨hF.fr (fun b _ _ => same b (by omega)) (fun _ _ => rfl), hR.fr (fun b _ _ => same b (by omega)) (fun _ _ => rfl), hE.tr (same _ (by omega)) (same _ (by omega)) fun _ _ _ => rfl⟩, ⟨k3.trans h38.symm, k4.trans h4⟩, q, by omega, h38, fun j hj => ?_⟩, ⟨fun j hj => ?_, fun i j hi hj he => ?_, fun j hj => ?_, ?_⟩, ⟨fun b hb => same b (by omega), g2, g6⟩, same _ (by omega)⟩
  · unfold f_X7_takeFirstOff
    rw [gd_s (by decide), nb_s, n0]
    exact e
  · rw [r7 j (by omega)]
    exact (hP j hj).tr (pk (j + 1) (by omega))
  · obtain ⟨i, hi, -, e2⟩ := rot j hj
    rw [e2]
    exact hW.1 i hi
  · obtain ⟨i2, hi2, hc1, e2⟩ := rot i hi
    obtain ⟨j2, hj2, hc2, e3⟩ := rot j hj
    rw [e2, e3] at he
    have := hW.2.1 i2 j2 hi2 hj2 he
    omega
  · obtain ⟨i, hi, -, e2⟩ := rot j hj
    rw [e2]
    have h := (pk i hi).1 (0, 4) (by decide)
    have h : mI M' (mR M (a + 11) i) 4 = mI M (mR M (a + 11) i) 4 := h
    rw [h]
    exact hW.2.2.1 i hi
  · rw [same _ (by omega)]
    exact hW.2.2.2
theorem zHs_lo {T : Nat → Int32} {i : Nat} (hi : i < 26) : ∀ (d j : Nat) (w : Nat → Int32), zHs T d j w i = w i := by
  intro d
  induction d with
  | zero => exact fun _ _ => rfl
  | succ d ih =>
    intro j w
    show zHs T d (j + 1) _ i = w i
    rw [ih, zH_v, if_neg (by omega), if_neg (by omega), if_neg (by omega), if_neg (by omega), if_neg (by omega), if_neg (by omega)]
theorem zDv_tk : ∃ y, zDv T w = zTk y ∧ ∀ i, i < 26 ∨ i = 36 ∨ 38 ≤ i → y i = w i := by
  unfold zDv
  by_cases h : w 28 ≤ w 39
  · simp only [if_pos h]
    refine ⟨_, rfl, fun i hi => ?_⟩
    have e : zD2 (zD1 (upd (upd w 37 (w 37 + 1)) 26 (zFd (w 39 - w 28).toNatClampNeg (w 26))) (w 39 - w 28)) i = w i := by
      unfold zD2 zD1
      split
      · rw [zTH_v, if_neg (by omega), if_neg (by omega), if_neg (by omega), upd_ne (by omega), upd_ne (by omega), upd_ne (by omega)]
      · rw [upd_ne (by omega), upd_ne (by omega), upd_ne (by omega)]
    rw [upd_ne (by omega)]
    by_cases h26 : i < 26
    · rw [zHs_lo h26, e]
    · rw [zHs_at (by omega), e]
  · simp only [if_neg h]
    refine ⟨_, rfl, fun i hi => ?_⟩
    rw [upd_ne (by omega), upd_ne (by omega)]
theorem bring_c (h : RV M a w) (hW : WR M a) (hb : WB n w) (hn : n < 9999) (h38 : w 38 = nI (q + 1)) (hq : q < 8) : ∃ M', f_X7_bringFirst a M = some (zDa w, M') ∧ RV M' a (zDv cSTEPS w) ∧ WR M' a ∧ FrV M M' a ∧ mI M' (a + 1) 1 = mI M (a + 1) 1 := by
  obtain ⟨hbn, hgap, -, -, hwp⟩ := WB.dv (T := cSTEPS) hb h38 hq hn
  obtain ⟨⟨hF, hR, hE⟩, ⟨g3, g4⟩, W, hW8, w38, hP⟩ := h
  have eW : W = q + 1 := (nI_eq (by omega) (by omega)).mp (w38.symm.trans h38)
  subst eW
  obtain ⟨t, ht, et⟩ := hW.1 0 (by decide)
  have hp0 : RP (sHr M (a + 9) w) (mR M (a + 11) 0) (fun i => w (39 + i)) := by
    rw [hE.eq]
    exact hP 0 (by omega)
  have hp1 : RP M (mR M (a + 11) 0) (fun i => w (39 + i)) := hP 0 (by omega)
  have rc := recv_c (M := M) (e := a + 9) (p := mR M (a + 11) 0) (w := w) (by omega) hp1 hwp hb.1.2.2 hgap
  rw [hE.eq] at rc
  obtain ⟨y, ey, hy⟩ := zDv_tk (T := cSTEPS) (w := w)
  have y38 : y 38 = nI (q + 1) := (hy 38 (by decide)).trans h38
  have same : ∀ b, b ≠ a + 9 → b ≠ a + 10 → mI (sHr M (a + 9) (zDv cSTEPS w)) b = mI M b := fun b h1 h2 => mI_sHn h1 h2
  have v : ∀ i, i < 26 ∨ i = 36 → zDv cSTEPS w i = w i := fun i hi => by rw [ey, zTk_lo (by omega), hy i (by omega)]
  obtain ⟨M', e, k1, k2, k3, k4⟩ := off_c (M := sHr M (a + 9) (zDv cSTEPS w)) (a := a) (f := zDv cSTEPS w) (q := q) (hF.fr (fun b _ _ => same b (by omega) (by omega)) fun i hi => (v i (by omega)).symm) (hR.fr (fun b _ _ => same b (by omega) (by omega)) fun i hi => (v i (by omega)).symm) RE.put (hW.low rfl (fun b _ _ => same b (by omega) (by omega)) (by rw [same _ (by omega) (by omega)]; exact hW.2.2.2)) (by rw [same _ (by omega) (by omega), v 36 (by decide)]; exact g4) (by rw [same _ (by omega) (by omega), g3]; exact h38) (by rw [ey]; exact zTk_38 y38) hq (fun j hj => by
    obtain ⟨t2, ht2, et2⟩ := hW.1 (j + 1) (by omega)
    show RP (sHr M (a + 9) (zDv cSTEPS w)) (mR M (a + 11) (j + 1)) _
    refine RP.congr (RP.tr (hP (j + 1) (by omega)) (PkEq.same fun o ho => same _ (by omega) (by omega))) fun i hi => ?_
    rw [ey, zTk_w y38 hq hj hi, hy _ (by omega)])
  refine ⟨M', ?_, k1, k2, (FrV.of (fun b hb => same b (by omega) (by omega)) rfl).trans k3, by rw [k4, same _ (by omega) (by omega)]⟩
  unfold f_X7_bringFirst
  rw [gd_s (by decide), nb_s, show (0 : Int32).toNatClampNeg = 0 by decide, rc, cb_s, e, vb_s]
theorem drop_c (h : RV M a w) (hW : WR M a) (h38 : w 38 = nI (q + 1)) (hq : q < 8) : ∃ M', f_X7_dropFirst a M = some (w 39, M') ∧ RV M' a (zLo w) ∧ WR M' a ∧ FrV M M' a ∧ mI M' (a + 1) 1 = mI M (a + 1) 1 := by
  obtain ⟨⟨hF, hR, hE⟩, ⟨g3, g4⟩, W, hW8, w38, hP⟩ := h
  have eW : W = q + 1 := (nI_eq (by omega) (by omega)).mp (w38.symm.trans h38)
  subst eW
  have same : ∀ b, b ≠ a → mI (sI M a 4 (mI M a 4 + 1)) b = mI M b := fun b hb => mI_sn hb
  have v : ∀ i, i < 38 → i ≠ 36 → zLo w i = w i := fun i hi h36 => by unfold zLo; rw [upd_ne h36, zTk_lo hi]
  have v36 : zLo w 36 = w 36 + 1 := by unfold zLo; rw [upd_eq, zTk_lo (by decide)]
  obtain ⟨M', e, k1, k2, k3, k4⟩ := off_c (M := sI M a 4 (mI M a 4 + 1)) (a := a) (f := zLo w) (q := q) (hF.fr (fun b _ _ => same b (by omega)) fun i hi => (v i (by omega) (by omega)).symm) (hR.fr (fun b _ _ => same b (by omega)) fun i hi => (v i (by omega) (by omega)).symm) (hE.tr2 (same _ (by omega)) (same _ (by omega)) fun i h1 h2 h36 => (v i h2 h36).symm) (hW.low rfl (fun b _ _ => same b (by omega)) (by rw [same _ (by omega)]; exact hW.2.2.2)) (by rw [mI_ss, v36, g4]) (by rw [mI_sk (by decide), g3]; exact h38) (by unfold zLo; rw [upd_ne (by decide)]; exact zTk_38 h38) hq (fun j hj => by
    obtain ⟨t2, ht2, et2⟩ := hW.1 (j + 1) (by omega)
    show RP (sI M a 4 (mI M a 4 + 1)) (mR M (a + 11) (j + 1)) _
    refine RP.congr (RP.tr (hP (j + 1) (by omega)) (PkEq.same fun o ho => same _ (by omega))) fun i hi => ?_
    unfold zLo
    rw [upd_ne (by omega), zTk_w h38 hq hj hi])
  have hp0 := hP 0 (by omega)
  obtain ⟨t, ht, et⟩ := hW.1 0 (by decide)
  have p3 : mI M (mR M (a + 11) 0) 3 = w 39 := by
    obtain ⟨q', z1, z2, z3, z4, -⟩ := hp0
    exact z4
  refine ⟨M', ?_, k1, k2, (FrV.of (fun b hb => same b (by omega)) rfl).trans k3, by rw [k4, same _ (by omega)]⟩
  unfold f_X7_dropFirst
  rw [gd_s (by decide), nb_s, show (0 : Int32).toNatClampNeg = 0 by decide, nb_s, nb_s, e, vb_s, p3]
theorem exch_c (h : RV M a w) (hW : WR M a) (h38 : w 38 = nI (q + 2)) (hq : q + 2 ≤ 8) : ∃ M', f_X7_exchangeFirstTwo a M = some (zSw w 39 39, M') ∧ RV M' a (zSw w 39) ∧ WR M' a ∧ FrV M M' a ∧ mI M' (a + 1) 1 = mI M (a + 1) 1 := by
  obtain ⟨⟨hF, hR, hE⟩, ⟨g3, g4⟩, W, hW8, w38, hP⟩ := h
  have eW : W = q + 2 := (nI_eq (by omega) (by omega)).mp (w38.symm.trans h38)
  subst eW
  have n0 : (0 : Int32).toNatClampNeg = 0 := by decide
  have n1 : (1 : Int32).toNatClampNeg = 1 := by decide
  generalize hM' : sR (sR M (a + 11) 0 (mR M (a + 11) 1)) (a + 11) 1 (mR M (a + 11) 0) = M'
  have eI : ∀ b, mI M' b = mI M b := fun b => by rw [← hM']; rfl
  have rr : ∀ j, mR M' (a + 11) j = mR M (a + 11) (if j = 0 then 1 else if j = 1 then 0 else j) := fun j => by
    rw [← hM', mR_sR, mR_sR]
    by_cases h0 : j = 0
    · rw [if_neg (by omega), if_pos ⟨rfl, h0⟩, if_pos h0]
    · rw [if_neg h0]
      by_cases h1 : j = 1
      · rw [if_pos ⟨rfl, h1⟩, if_pos h1]
      · rw [if_neg (by omega), if_neg (by omega), if_neg h1]
  have sw8 : ∀ j, j < 8 → (if j = 0 then 1 else if j = 1 then 0 else j) < 8 := fun j hj => by split <;> (try split) <;> omega
  have v : ∀ i, i < 39 → w i = zSw w 39 i := fun i hi => (zSw_lo hi).symm
  refine ⟨M', ?_, ⟨⟨hF.fr (fun b _ _ => eI b) fun i hi => v i (by omega), hR.fr (fun b _ _ => eI b) fun i hi => v i (by omega), hE.tr (eI _) (eI _) fun i _ hi => v i (by omega)⟩, ⟨by rw [eI, ← v 38 (by decide)]; exact g3, by rw [eI, ← v 36 (by decide)]; exact g4⟩, q + 2, hq, (v 38 (by decide)).symm.trans h38, fun j hj => ?_⟩, ⟨fun j hj => by rw [rr]; exact hW.1 _ (sw8 j hj), fun i j hi hj he => ?_, fun j hj => by rw [rr, eI]; exact hW.2.2.1 _ (sw8 j hj), by rw [eI]; exact hW.2.2.2⟩, ⟨fun b _ => eI b, fun b hb => ?_, by rw [← hM']; rfl⟩, by rw [eI]⟩
  · unfold f_X7_exchangeFirstTwo
    rw [gd_s (by decide), nb_s, gd_s (by decide), nb_s, gd_s (by decide), nb_s, gd_s (by decide), nb_s, gd_s (by decide), nb_s]
    simp only [n0, n1]
    have p3 : mI M (mR M (a + 11) 1) 3 = zSw w 39 39 := by
      obtain ⟨q', z1, z2, z3, z4, -⟩ := hP 1 (by omega)
      refine z4.trans ?_
      exact (zSw_w (w := w) (j := 0) (i := 0) (by decide)).symm
    rw [← p3, hM', rr 0, if_pos rfl, eI]
  · have hlt : (if j = 0 then 1 else if j = 1 then 0 else j) < q + 2 := by
      split <;> (try split) <;> omega
    rw [rr]
    refine RP.congr (RP.tr (hP _ hlt) (PkEq.same fun o _ => eI _)) fun i hi => (zSw_w hi).symm
  · rw [rr, rr] at he
    have h := hW.2.1 _ _ (sw8 i hi) (sw8 j hj) he
    revert h
    split <;> split <;> (try split) <;> (try split) <;> omega
  · funext j
    rw [← hM', mR_sR, mR_sR, if_neg (fun z => hb z.1), if_neg (fun z => hb z.1)]
end CWIRE
