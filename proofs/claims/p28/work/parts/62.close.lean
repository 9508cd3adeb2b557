/-! THE CLASS. A packet is closed -/
section CCLOSE
variable {M M1 N M' : Mem} {a b e i o p k n q m s st : Nat} {w f z r T : Nat → Int32} {x y c g : Int32}
theorem rem_go (h1 : p ≠ m) (h2 : p ≠ m + 7) (h3 : p + 1 ≠ m) (h4 : p + 1 ≠ m + 7) {c q : Nat} (hq : q ≤ 8) (hc : c + q ≤ 72) : ∀ (d j n : Nat) (M : Mem), j + d = q → d < n → mI M p 2 = nI q → mI M m 10 = nI (c + j) → ∃ M', f_X3_rememberSinceHead_b2 m p n (nI j) M = some M' ∧ M'.2 = M.2 ∧ (∀ b, b ≠ m → b ≠ m + 7 → mI M' b = mI M b) ∧ (∀ k, k ≠ 10 → mI M' m k = mI M m k) ∧ mI M' m 10 = nI (c + q) ∧ (∀ k, k < c + j → mI M' (m + 7) k = mI M (m + 7) k) ∧ ∀ i, j ≤ i → i < q → mI M' (m + 7) (c + i) = mI M (p + 1) i := by
  intro d
  induction d with
  | zero =>
    intro j n M hj hn hp hm
    obtain ⟨n, rfl⟩ : ∃ k, n = k + 1 := ⟨n - 1, by omega⟩
    have hj : j = q := by omega
    subst hj
    refine ⟨M, ?_, rfl, fun _ _ _ => rfl, fun _ _ => rfl, hm, fun _ _ => rfl, fun i g1 g2 => by omega⟩
    rw [f_X3_rememberSinceHead_b2, hp, if_pos (nI_le (Nat.le_refl _) (by omega))]
  | succ d ih =>
    intro j n M hj hn hp hm
    obtain ⟨n, rfl⟩ : ∃ k, n = k + 1 := ⟨n - 1, by omega⟩
    have e1 : mI (sI M (m + 7) (c + j) (mI M (p + 1) j)) m 10 = nI (c + j) := by rw [mI_sn (by omega)]; exact hm
    obtain ⟨M', e, g2, g3, g4, g5, g6, g7⟩ := ih (j + 1) n (sI (sI M (m + 7) (c + j) (mI M (p + 1) j)) m 10 (nI (c + (j + 1)))) (by omega) (by omega) (by rw [mI_sn h1, mI_sn h2]; exact hp) (by rw [mI_ss])
    refine ⟨M', ?_, g2, fun b hb1 hb2 => by rw [g3 b hb1 hb2, mI_sn hb1, mI_sn hb2], fun k hk => by rw [g4 k hk, mI_sk hk, mI_sn (by omega)], g5, fun k hk => by rw [g6 k (by omega), mI_sn (by omega), mI_sk (by omega)], fun i hi1 hi2 => ?_⟩
    · rw [f_X3_rememberSinceHead_b2, hp, if_neg (nI_ge (by omega) (by omega)), hm, if_neg (nI_pos (by omega)), if_neg (show ¬ (72 : Int32) ≤ nI (c + j) from nI_ge (b := 72) (by omega) (by decide)), codeAt_c (by omega), vb_s, gd_s (nI_ix (by omega) (by decide)), nb_s, nI_clamp (by omega), e1, nb_s]
      unfold f_X3_rememberSinceHead_b53
      rw [nb_s, ← nI_succ, ← nI_succ]
      exact e
    · by_cases hij : i = j
      · subst hij
        rw [g6 _ (by omega), mI_sn (by omega), mI_ss]
      · rw [g7 i (by omega) hi2, mI_sn h3, mI_sn h4]
/-- a packet is made: the row's places one by one -/
theorem zMP_v (hw : w 38 = nI q) (hq : q < 8) (i : Nat) (hi : i < 207) : zMP r w i = if i = 38 then nI (q + 1) else if i = 21 then w 21 + 1 else if i = 4 then 0 else if i = 23 then (if zHas r w = 0 then w 23 + 1 else 0) else if 39 + 21 * q + 5 ≤ i ∧ i < 39 + 21 * q + 21 then w (i - (39 + 21 * q)) else if 5 ≤ i ∧ i < 21 then 0 else if i = 39 + 21 * q + 4 then (if zHas r w = 0 then -10000 else w 25) else if i = 39 + 21 * q + 3 then (if zHas r w = 0 then -10000 else w 24) else if i = 39 + 21 * q + 2 then (if zHas r w = 0 then 0 else 1) else if i = 39 + 21 * q + 1 then w 4 else if i = 39 + 21 * q then w 21 else w i := by
  have e1 : (w 38).toNatClampNeg = q := by rw [hw, nI_clamp (by omega)]
  have lo : ∀ i, i < 39 → zMP1 w q (zHas r w) i = w i := by
    intro i hi
    unfold zMP1
    rw [upd_ne (by omega), upd_ne (by omega), upd_ne (by omega), upd_ne (by omega), upd_ne (by omega)]
  have c21 : zCp (zMP1 w q (zHas r w)) (39 + 21 * q + 5) 0 21 = w 21 := by
    unfold zCp
    rw [if_neg (by omega), if_neg (by omega), lo 21 (by decide)]
  have c23 : zCp (zMP1 w q (zHas r w)) (39 + 21 * q + 5) 0 23 = w 23 := by
    unfold zCp
    rw [if_neg (by omega), if_neg (by omega), lo 23 (by decide)]
  have c38 : zCp (zMP1 w q (zHas r w)) (39 + 21 * q + 5) 0 38 = nI q := by
    unfold zCp
    rw [if_neg (by omega), if_neg (by omega), lo 38 (by decide), hw]
  unfold zMP zMPh
  rw [e1]
  generalize zHas r w = h at *
  show upd (upd (upd (upd (zCp (zMP1 w q h) (39 + 21 * q + 5) 0) 23 (if h = 0 then zCp (zMP1 w q h) (39 + 21 * q + 5) 0 23 + 1 else 0)) 4 0) 21 (zCp (zMP1 w q h) (39 + 21 * q + 5) 0 21 + 1)) 38 (zCp (zMP1 w q h) (39 + 21 * q + 5) 0 38 + 1) i = _
  rw [c21, c23, c38, ← nI_succ]
  by_cases g1 : i = 38
  · rw [if_pos g1, g1, upd_eq]
  rw [if_neg g1, upd_ne g1]
  by_cases g2 : i = 21
  · rw [if_pos g2, g2, upd_eq]
  rw [if_neg g2, upd_ne g2]
  by_cases g3 : i = 4
  · rw [if_pos g3, g3, upd_eq]
  rw [if_neg g3, upd_ne g3]
  by_cases g4 : i = 23
  · rw [if_pos g4, g4, upd_eq]
  rw [if_neg g4, upd_ne g4]
  unfold zCp
  by_cases g5 : 39 + 21 * q + 5 ≤ i ∧ i < 39 + 21 * q + 21
  · rw [if_pos g5, if_pos (show 39 + 21 * q + 5 + 0 ≤ i ∧ i < 39 + 21 * q + 5 + 16 from ⟨by omega, by omega⟩), lo _ (by omega)]
    congr 1
    omega
  rw [if_neg g5, if_neg (show ¬ (39 + 21 * q + 5 + 0 ≤ i ∧ i < 39 + 21 * q + 5 + 16) from fun z => g5 ⟨by omega, by omega⟩)]
  by_cases g6 : 5 ≤ i ∧ i < 21
  · rw [if_pos g6, if_pos (show 5 + 0 ≤ i ∧ i < 21 from ⟨by omega, by omega⟩)]
  rw [if_neg g6, if_neg (show ¬ (5 + 0 ≤ i ∧ i < 21) from fun z => g6 ⟨by omega, by omega⟩)]
  unfold zMP1
  by_cases g7 : i = 39 + 21 * q + 4
  · rw [if_pos g7, g7, upd_eq]
  rw [if_neg g7, upd_ne g7]
  by_cases g8 : i = 39 + 21 * q + 3
  · rw [if_pos g8, g8, upd_eq]
  rw [if_neg g8, upd_ne g8]
  by_cases g9 : i = 39 + 21 * q + 2
  · rw [if_pos g9, g9, upd_eq]
  rw [if_neg g9, upd_ne g9]
  by_cases g10 : i = 39 + 21 * q + 1
  · rw [if_pos g10, g10, upd_eq]
  rw [if_neg g10, upd_ne g10]
  by_cases g11 : i = 39 + 21 * q
  · rw [if_pos g11, g11]
    exact upd_eq
  rw [if_neg g11]
  exact upd_ne g11
theorem zMP_lo (hw : w 38 = nI q) (hq : q < 8) (hi : i < 39) (h1 : i ≠ 38) (h2 : i ≠ 21) (h3 : i ≠ 4) (h4 : i ≠ 23) (h5 : i < 5 ∨ 21 ≤ i) : zMP r w i = w i := by
  rw [zMP_v hw hq i (by omega), if_neg h1, if_neg h2, if_neg h3, if_neg h4, if_neg (by omega), if_neg (by omega), if_neg (by omega), if_neg (by omega), if_neg (by omega), if_neg (by omega), if_neg (by omega)]
theorem close_c {kk : Nat} (h : RV M a w) (hW : WR M a) (hr : RSet M st r) (h38 : w 38 = nI q) (hq : q < 8) (h4 : w 4 = nI kk) (hk0 : 0 < kk) (hk8 : kk ≤ 8) (hr3 : ∃ d, d ≤ 9 ∧ r 3 = nI d) (hg25 : ∃ i, i < 25 ∧ w 25 = nI i) : ∃ M', f_X7_closePacket a st M = some M' ∧ RV M' a (zMP r w) ∧ WR M' a ∧ FrV M M' a ∧ mI M' (a + 1) 1 = mI M (a + 1) 1 := by
  obtain ⟨⟨⟨q', q1, q2, q3, ⟨f0, f1, f2, f3, f5, f6⟩, q7, q8, q9⟩, ⟨q'', c, c1, c2, c3, c4, c5, c6, c7, c8⟩, hE⟩, ⟨g3, g4⟩, W, hW8, w38, hP⟩ := h
  have eq1 : q' = kk := (nI_eq (by omega) (by omega)).mp (q2.symm.trans h4)
  have eq2 : q'' = kk := (nI_eq (by omega) (by omega)).mp (c2.symm.trans h4)
  have eq3 : W = q := (nI_eq (by omega) (by omega)).mp (w38.symm.trans h38)
  subst eq1
  subst eq2
  subst eq3
  replace f0 : mI M (a + 2) 0 = w 0 := f0
  replace f1 : mI M (a + 2) 1 = w 1 := f1
  replace q3 : mI M (a + 3) 2 = nI q'' := q3
  obtain ⟨d3, hd3, er3⟩ := hr3
  have hh01 : zHas r w = 0 ∨ zHas r w = 1 := by
    unfold zHas
    split
    · exact Or.inr rfl
    · split
      · exact Or.inl rfl
      · exact Or.inr rfl
  obtain ⟨t, ht, et⟩ := hW.1 W (by omega)
  generalize hp : mR M (a + 11) W = p at *
  -- behind the flag
  have tail : ∀ (N : Mem) (c0 s' : Nat), N.2 = M.2 → (∀ b, b ≠ a + 1 → b ≠ a + 7 → b < p ∨ p + 4 ≤ b → mI N b = mI M b) → (∀ k, k ≠ 7 → k ≠ 10 → mI N (a + 1) k = mI M (a + 1) k) → mI N (a + 1) 10 = nI c0 → c0 ≤ 64 → (mI N p 2 = nI q'' ∧ mI N p 3 = w 21 ∧ mI N p 4 = zHas r w) → (∀ j, j < 8 → mI N (p + 1) j = mI M (a + 4) j ∧ mI N (p + 2) j = mI M (a + 5) j) → (mI N (p + 3) 0 = w 24 ∧ mI N (p + 3) 1 = w 25) → zMP r w 23 = w 21 - mI N (a + 1) 7 → zMP r w 23 = nI s' → s' ≤ 8 → c0 + q'' ≤ 8 * (s' + 1) → (∃ i, i < 25 ∧ mI N (a + 7) 1 = nI i) → zFl (mI N (a + 8)) c0 (mI N (a + 7) 0, mI N (a + 7) 1) = (w 24, w 25) → ∃ M', (vb (f_X3_closeInto_b76 (a + 1) p (r 3) N) fun M9 => nb (sI M9 a 3 ((mI M9 a 3) + 1)) fun M10 => some M10) = some M' ∧ RV M' a (zMP r w) ∧ WR M' a ∧ FrV M M' a ∧ mI M' (a + 1) 1 = mI M (a + 1) 1 := by
    intro N c0 s' n2 nb1 n1 n10 hc0 np nc nh n23 ns hs' hcs ni nz
    obtain ⟨N2, e1, e2, e3, e4, e5, e6, e7⟩ := rem_go (p := p) (m := a + 1) (by omega) (by omega) (by omega) (by omega) (c := c0) (q := q'') hk8 (by omega) q'' 0 lfuel N (by omega) (by unfold lfuel; omega) np.1 n10
    have e1' : f_X3_rememberSinceHead (a + 1) p N = some N2 := e1
    unfold f_X3_closeInto_b76
    rw [e1', vb_s, nb_s, nb_s, vb_s, nb_s]
    refine ⟨_, rfl, ?_⟩
    generalize hM' : sI (sI (sI N2 (a + 1) 5 (mI N2 (a + 1) 5 + 1)) (a + 1 + 2) 2 0) a 3 (mI (sI (sI N2 (a + 1) 5 (mI N2 (a + 1) 5 + 1)) (a + 1 + 2) 2 0) a 3 + 1) = M'
    have m2 : M'.2 = M.2 := by rw [← hM']; exact e2.trans n2
    have far : ∀ b, b ≠ a → b ≠ a + 1 → b ≠ a + 3 → b ≠ a + 7 → b ≠ a + 8 → b < p ∨ p + 4 ≤ b → mI M' b = mI M b := fun b z0 z1 z3 z7 z8 z9 => by rw [← hM', mI_sn z0, mI_sn z3, mI_sn z1, e3 b z1 z8, nb1 b z1 z7 z9]
    have kp : ∀ o, o < 4 → mI M' (p + o) = mI N (p + o) := fun o ho => by rw [← hM', mI_sn (by omega), mI_sn (by omega), mI_sn (by omega), e3 _ (by omega) (by omega)]
    have k7 : mI M' (a + 7) = mI N (a + 7) := by rw [← hM', mI_sn (by omega), mI_sn (by omega), mI_sn (by omega), e3 _ (by omega) (by omega)]
    have k8 : mI M' (a + 8) = mI N2 (a + 8) := by rw [← hM', mI_sn (by omega), mI_sn (by omega), mI_sn (by omega)]
    have k1 : ∀ k, k ≠ 5 → mI M' (a + 1) k = mI N2 (a + 1) k := fun k hk => by rw [← hM', mI_sn (by omega), mI_sn (by omega), mI_sk hk]
    have k15 : mI M' (a + 1) 5 = w 21 + 1 := by rw [← hM', mI_sn (by omega), mI_sn (by omega), mI_ss, e4 5 (by decide), n1 5 (by decide) (by decide), f5]
    have k3 : ∀ k, k ≠ 2 → mI M' (a + 3) k = mI M (a + 3) k := fun k hk => by rw [← hM', mI_sn (by omega), mI_sk hk, mI_sn (by omega), e3 _ (by omega) (by omega), nb1 _ (by omega) (by omega) (by omega)]
    have k32 : mI M' (a + 3) 2 = 0 := by rw [← hM', mI_sn (by omega), mI_ss]
    have k0 : ∀ k, k ≠ 3 → mI M' a k = mI M a k := fun k hk => by rw [← hM', mI_sk hk, mI_sn (by omega), mI_sn (by omega), e3 _ (by omega) (by omega), nb1 _ (by omega) (by omega) (by omega)]
    have k03 : mI M' a 3 = nI (W + 1) := by rw [← hM', mI_ss, mI_sn (by omega), mI_sn (by omega), e3 _ (by omega) (by omega), nb1 _ (by omega) (by omega) (by omega), g3, h38, nI_succ]
    have zl : ∀ i, i < 39 → i ≠ 38 → i ≠ 21 → i ≠ 4 → i ≠ 23 → (i < 5 ∨ 21 ≤ i) → zMP r w i = w i := fun i => zMP_lo h38 hq
    have z4 : zMP r w 4 = nI 0 := by rw [zMP_v h38 hq 4 (by decide)]; rfl
    have z21 : zMP r w 21 = w 21 + 1 := by rw [zMP_v h38 hq 21 (by decide)]; rfl
    have z38 : zMP r w 38 = nI (W + 1) := by rw [zMP_v h38 hq 38 (by decide)]; rfl
    have pf : ∀ o, o < 4 → mI M' (p + o) = mI N (p + o) := kp
    refine ⟨⟨⟨⟨0, by decide, z4, k32, ⟨?_, ?_, ?_, ?_, ?_, ?_⟩, fun j hj => by omega, fun hz => (hz rfl).elim, fun _ => ?_⟩, ⟨0, c0 + q'', by decide, z4, ?_, by omega, Or.inr ⟨s', ns, hs', hcs⟩, ?_, fun _ => ?_, fun hz => (hz rfl).elim⟩, ?_⟩, ⟨k03.trans z38.symm, ?_⟩, W + 1, by omega, z38, fun j hj => ?_⟩, ⟨?_, ?_, ?_, ?_⟩, FrV.of (fun b hb => far b (by omega) (by omega) (by omega) (by omega) (by omega) (by omega)) m2, ?_⟩
    · exact (congrFun (far (a + 2) (by omega) (by omega) (by omega) (by omega) (by omega) (by omega)) 0).trans (f0.trans (zl 0 (by decide) (by decide) (by decide) (by decide) (by decide) (by decide)).symm)
    · exact (congrFun (far (a + 2) (by omega) (by omega) (by omega) (by omega) (by omega) (by omega)) 1).trans (f1.trans (zl 1 (by decide) (by decide) (by decide) (by decide) (by decide) (by decide)).symm)
    · rw [k1 2 (by decide), e4 2 (by decide), n1 2 (by decide) (by decide), zl 2 (by decide) (by decide) (by decide) (by decide) (by decide) (by decide)]; exact f2
    · rw [k1 3 (by decide), e4 3 (by decide), n1 3 (by decide) (by decide), zl 3 (by decide) (by decide) (by decide) (by decide) (by decide) (by decide)]; exact f3
    · rw [k15, z21]
    · rw [k1 6 (by decide), e4 6 (by decide), n1 6 (by decide) (by decide), zl 22 (by decide) (by decide) (by decide) (by decide) (by decide) (by decide)]; exact f6
    · rw [n23, z21, Int32.add_sub_cancel, k1 7 (by decide), e4 7 (by decide)]
    · rw [k1 10 (by decide)]; exact e5
    · show ∃ i, i < 25 ∧ mI M' (a + 7) 1 = nI i
      rw [k7]; exact ni
    · show zFl (mI M' (a + 8)) (c0 + q'') (mI M' (a + 7) 0, mI M' (a + 7) 1) = _
      rw [k7, k8, zFl_add (w := mI N (a + 8)) (u := fun j => w (5 + j)) (fun j hj => e6 j (by omega)) (fun j hj => (e7 j (by omega) hj).trans ((nc j (by omega)).1.trans (q7 j hj).1)), nz, (c8 (by omega)).2, zl 0 (by decide) (by decide) (by decide) (by decide) (by decide) (by decide), zl 1 (by decide) (by decide) (by decide) (by decide) (by decide) (by decide)]
    · exact hE.tr (far _ (by omega) (by omega) (by omega) (by omega) (by omega) (by omega)) (far _ (by omega) (by omega) (by omega) (by omega) (by omega) (by omega)) fun i z1 z2 => (zl i (by omega) (by omega) (by omega) (by omega) (by omega) (by omega)).symm
    · rw [k0 4 (by decide), zl 36 (by decide) (by decide) (by decide) (by decide) (by decide) (by decide)]; exact g4
    · rw [mR_of2 m2]
      by_cases hj2 : j = W
      · subst hj2
        rw [hp]
        have zz : ∀ i, i < 21 → zMP r w (39 + 21 * j + i) = if 5 ≤ i then w i else if i = 4 then (if zHas r w = 0 then -10000 else w 25) else if i = 3 then (if zHas r w = 0 then -10000 else w 24) else if i = 2 then (if zHas r w = 0 then 0 else 1) else if i = 1 then w 4 else w 21 := by
          intro i hi
          rw [zMP_v h38 hq _ (by omega), if_neg (by omega), if_neg (by omega), if_neg (by omega), if_neg (by omega)]
          by_cases i5 : 5 ≤ i
          · rw [if_pos (by omega), if_pos i5, Nat.add_sub_cancel_left]
          rw [if_neg (show ¬ (39 + 21 * j + 5 ≤ 39 + 21 * j + i ∧ 39 + 21 * j + i < 39 + 21 * j + 21) by omega), if_neg (show ¬ (5 ≤ 39 + 21 * j + i ∧ 39 + 21 * j + i < 21) by omega), if_neg i5]
          by_cases i4 : i = 4
          · rw [if_pos (by omega), if_pos i4]
          rw [if_neg (show ¬ 39 + 21 * j + i = 39 + 21 * j + 4 by omega), if_neg i4]
          by_cases i3 : i = 3
          · rw [if_pos (by omega), if_pos i3]
          rw [if_neg (show ¬ 39 + 21 * j + i = 39 + 21 * j + 3 by omega), if_neg i3]
          by_cases i2 : i = 2
          · rw [if_pos (by omega), if_pos i2]
          rw [if_neg (show ¬ 39 + 21 * j + i = 39 + 21 * j + 2 by omega), if_neg i2]
          by_cases i1 : i = 1
          · rw [if_pos (by omega), if_pos i1]
          rw [if_neg (show ¬ 39 + 21 * j + i = 39 + 21 * j + 1 by omega), if_neg i1, if_pos (by omega)]
        refine RP.congr (u := fun i => if 5 ≤ i then w i else if i = 4 then (if zHas r w = 0 then -10000 else w 25) else if i = 3 then (if zHas r w = 0 then -10000 else w 24) else if i = 2 then (if zHas r w = 0 then 0 else 1) else if i = 1 then w 4 else w 21) ⟨q'', hk8, h4, ?_, ?_, ?_, ?_, fun j hj => ⟨?_, ?_⟩⟩ fun i hi => (zz i hi).symm
        · exact (congrFun (kp 0 (by decide)) 2).trans np.1
        · exact (congrFun (kp 0 (by decide)) 3).trans np.2.1
        · refine (congrFun (kp 0 (by decide)) 4).trans (np.2.2.trans ?_)
          show zHas r w = if zHas r w = 0 then 0 else 1
          rcases hh01 with e | e <;> rw [e] <;> rfl
        · show ((if zHas r w = 0 then 0 else 1 : Int32) = 0 ∧ (if zHas r w = 0 then -10000 else w 24 : Int32) = -10000 ∧ (if zHas r w = 0 then -10000 else w 25 : Int32) = -10000) ∨ ((if zHas r w = 0 then 0 else 1 : Int32) = 1 ∧ mI M' (p + 3) 0 = (if zHas r w = 0 then -10000 else w 24) ∧ mI M' (p + 3) 1 = (if zHas r w = 0 then -10000 else w 25))
          rcases hh01 with e | e
          · left; rw [e]; exact ⟨rfl, rfl, rfl⟩
          · right
            rw [e, kp 3 (by decide)]
            exact ⟨rfl, nh.1, nh.2⟩
        · show mI M' (p + 1) j = if 5 ≤ 5 + j then w (5 + j) else _
          rw [if_pos (by omega), kp 1 (by decide), (nc j (by omega)).1]
          exact (q7 j hj).1
        · show mI M' (p + 2) j = if 5 ≤ 13 + j then w (13 + j) else _
          rw [if_pos (by omega), kp 2 (by decide), (nc j (by omega)).2]
          exact (q7 j hj).2
      · obtain ⟨t2, ht2, et2⟩ := hW.1 j (by omega)
        have hne : t2 ≠ t := fun z => hj2 (hW.2.1 j W (by omega) (by omega) (by rw [et2, hp, et, z]))
        refine RP.congr (RP.tr (hP j (by omega)) ⟨fun z hz => ?_, fun z hz k hk => ?_⟩) fun i hi => ?_
        · have := pkS_lt z hz
          rw [far _ (by omega) (by omega) (by omega) (by omega) (by omega) (by omega)]
        · have := pkT_lt z hz
          rw [far _ (by omega) (by omega) (by omega) (by omega) (by omega) (by omega)]
        · rw [zMP_v h38 hq _ (by omega), if_neg (by omega), if_neg (by omega), if_neg (by omega), if_neg (by omega), if_neg (by omega), if_neg (by omega), if_neg (by omega), if_neg (by omega), if_neg (by omega), if_neg (by omega), if_neg (by omega)]
    · exact fun j hj => by rw [mR_of2 m2]; exact hW.1 j hj
    · exact fun i j hi hj => by rw [mR_of2 m2]; exact hW.2.1 i j hi hj
    · intro j hj
      rw [mR_of2 m2]
      by_cases hj2 : j = W
      · subst hj2
        rw [hp]
        have e := (congrFun (kp 0 (by decide)) 4).trans np.2.2
        have e : mI M' p 4 = zHas r w := e
        rw [e]
        exact hh01
      · obtain ⟨t2, ht2, et2⟩ := hW.1 j (by omega)
        have hne : t2 ≠ t := fun z => hj2 (hW.2.1 j W (by omega) (by omega) (by rw [et2, hp, et, z]))
        rw [far _ (by omega) (by omega) (by omega) (by omega) (by omega) (by omega)]
        exact hW.2.2.1 j hj
    · rw [k3 4 (by decide)]; exact hW.2.2.2
    · rw [k1 1 (by decide), e4 1 (by decide), n1 1 (by decide) (by decide)]
  -- up to the flag
  obtain ⟨M1, e1, p1, p2, p3⟩ := pcopy (M := M) (d := p) (s := a + 3) (by omega) hW.2.2.2
  have pa := p1.1
  have x2 : mI M1 p 2 = mI M (a + 3) 2 := pa (0, 2) (by decide)
  have x30 : mI M1 (p + 3) 0 = mI M (a + 6) 0 := pa (3, 0) (by decide)
  have x31 : mI M1 (p + 3) 1 = mI M (a + 6) 1 := pa (3, 1) (by decide)
  have y1 : ∀ j, j < 8 → mI M1 (p + 1) j = mI M (a + 4) j := p1.2 (1, 8) (by decide)
  have y2 : ∀ j, j < 8 → mI M1 (p + 2) j = mI M (a + 5) j := p1.2 (2, 8) (by decide)
  have hq0 : q'' ≠ 0 := by omega
  unfold f_X7_closePacket
  rw [g3, h38, if_neg (nI_pos (by omega)), if_neg (show ¬ (8 : Int32) ≤ nI W from nI_ge (b := 8) hq (by decide)), gd_s (nI_ix hq (by decide)), nb_s, nI_clamp (by omega), hp, val_l hr 3 (by decide), vb_s]
  unfold f_X3_closeInto
  have e1' : f_X2_copyFrom p (a + 1 + 2) M = some M1 := e1
  rw [e1', vb_s, nb_s]
  have z5 : mI M1 (a + 1) 5 = w 21 := by rw [p2 _ (by omega)]; exact f5
  have z7 : mI M1 (a + 1) 7 = mI M (a + 1) 7 := by rw [p2 _ (by omega)]
  rw [z5, mI_sn (show a + 1 ≠ p by omega), z5, z7]
  -- the flag
  have flag : ∀ N : Mem, N = sI (sI M1 p 3 (w 21)) p 4 (zHas r w) → ∃ M', (vb (f_X3_closeInto_b42 (a + 1) p (r 3) (zHas r w) p (sI M1 p 3 (w 21))) fun M9 => nb (sI M9 a 3 ((mI M9 a 3) + 1)) fun M10 => some M10) = some M' ∧ RV M' a (zMP r w) ∧ WR M' a ∧ FrV M M' a ∧ mI M' (a + 1) 1 = mI M (a + 1) 1 := by
    intro N hN
    unfold f_X3_closeInto_b42
    rw [gd_s hh01, nb_s, ← hN]
    have N2 : N.2 = M.2 := by rw [hN]; exact p3
    have Nf : ∀ b, b < p ∨ p + 4 ≤ b → mI N b = mI M b := fun b hb => by rw [hN, mI_sn (by omega), mI_sn (by omega), p2 b hb]
    have Np2 : mI N p 2 = nI q'' := by rw [hN, mI_sk (by decide), mI_sk (by decide), x2, q3]
    have Np3 : mI N p 3 = w 21 := by rw [hN, mI_sk (by decide), mI_ss]
    have Np4 : mI N p 4 = zHas r w := by rw [hN, mI_ss]
    have Nq : ∀ o, 0 < o → o < 4 → mI N (p + o) = mI M1 (p + o) := fun o z1 z2 => by rw [hN, mI_sn (by omega), mI_sn (by omega)]
    rw [Np4]
    have z23 : zMP r w 23 = if zHas r w = 0 then w 23 + 1 else 0 := by rw [zMP_v h38 hq 23 (by decide)]; rfl
    rcases hh01 with e | e
    · rw [e, if_pos rfl]
      have h21 : w 21 ≠ 0 := fun z => by
        unfold zHas at e
        rw [if_pos z] at e
        exact absurd e (by decide)
      have h23 := q9 h21
      have hlt : w 23 + 1 < r 3 := by
        unfold zHas at e
        rw [if_neg h21] at e
        by_cases hh : w 23 + 1 < r 3
        · exact hh
        · rw [if_neg hh] at e
          exact absurd e (by decide)
      rcases c5 with ⟨z, -⟩ | ⟨s, es, hs, hcs⟩
      · exact (h21 z).elim
      · have hsd : s + 1 < d3 := by
          rw [es, er3, ← nI_succ] at hlt
          exact (nI_ltI (by omega) (by omega)).mp hlt
        refine tail N c (s + 1) N2 (fun b z1 z2 z3 => Nf b z3) (fun k _ _ => congrFun (Nf (a + 1) (by omega)) k) ((congrFun (Nf (a + 1) (by omega)) 10).trans c3) (by omega) ⟨Np2, Np3, Np4⟩ (fun j hj => ⟨by rw [Nq 1 (by decide) (by decide)]; exact y1 j hj, by rw [Nq 2 (by decide) (by decide)]; exact y2 j hj⟩) ⟨by rw [Nq 3 (by decide) (by decide), x30]; exact (q8 hq0).1, by rw [Nq 3 (by decide) (by decide), x31]; exact (q8 hq0).2⟩ ?_ ?_ (by omega) (by omega) ?_ ?_
        · rw [z23, e, if_pos rfl, h23, Nf (a + 1) (by omega), Int32.sub_eq_add_neg (w 21 - 1), Int32.add_assoc, Int32.add_comm (-mI M (a + 1) 7), ← Int32.add_assoc, Int32.sub_add_cancel, ← Int32.sub_eq_add_neg]
        · rw [z23, e, if_pos rfl, es, nI_succ]
        · rw [Nf (a + 7) (by omega)]; exact c6
        · rw [Nf (a + 7) (by omega), Nf (a + 8) (by omega)]; exact (c8 hq0).1
    · rw [e, if_neg (by decide), nb_s, ecopy_c, vb_s, nb_s]
      have Na5 : mI N (a + 1) 5 = w 21 := by rw [Nf (a + 1) (by omega)]; exact f5
      rw [Na5, mI_sn (show p + 3 ≠ a + 1 by omega), Nq 3 (by decide) (by decide), x30, x31]
      generalize hN3 : sI (sE (sI N (a + 1) 7 (w 21)) (a + 1 + 6) (mI M (a + 6) 0, mI M (a + 6) 1)) (a + 1) 10 0 = N3
      have nf : ∀ b, b ≠ a + 1 → b ≠ a + 7 → mI N3 b = mI N b := fun b z1 z2 => by rw [← hN3, mI_sn z1, mI_sEn z2, mI_sn z1]
      have n70 : mI N3 (a + 7) 0 = mI M (a + 6) 0 := by rw [← hN3, mI_sn (by omega)]; exact mI_sE0
      have n71 : mI N3 (a + 7) 1 = mI M (a + 6) 1 := by rw [← hN3, mI_sn (by omega)]; exact mI_sE1
      refine tail N3 0 0 (by rw [← hN3]; exact N2) (fun b z1 z2 z3 => by rw [nf b z1 z2, Nf b z3]) (fun k z1 z2 => ?_) (by rw [← hN3, mI_ss]; rfl) (by omega) ⟨by rw [nf _ (by omega) (by omega)]; exact Np2, by rw [nf _ (by omega) (by omega)]; exact Np3, by rw [nf _ (by omega) (by omega)]; exact Np4⟩ (fun j hj => ⟨by rw [nf _ (by omega) (by omega), Nq 1 (by decide) (by decide)]; exact y1 j hj, by rw [nf _ (by omega) (by omega), Nq 2 (by decide) (by decide)]; exact y2 j hj⟩) ⟨by rw [nf _ (by omega) (by omega), Nq 3 (by decide) (by decide), x30]; exact (q8 hq0).1, by rw [nf _ (by omega) (by omega), Nq 3 (by decide) (by decide), x31]; exact (q8 hq0).2⟩ ?_ ?_ (by omega) (by omega) ?_ ?_
      · rw [← hN3, mI_sk z2, mI_sEn (by omega), mI_sk z1, Nf (a + 1) (by omega)]
      · rw [z23, e, if_neg (by decide), ← hN3, mI_sk (by decide), mI_sEn (by omega), mI_ss, Int32.sub_self]
      · rw [z23, e, if_neg (by decide)]; rfl
      · rw [n71]
        have h8 := (q8 hq0).2
        have h8 : mI M (a + 6) 1 = w 25 := h8
        rw [h8]
        exact hg25
      · rw [n70, n71]
        have h8 := q8 hq0
        have h8 : mI M (a + 6) 0 = w 24 ∧ mI M (a + 6) 1 = w 25 := h8
        rw [h8.1, h8.2]
        rfl
  have fl := flag _ rfl
  unfold f_X3_closeInto_b37
  by_cases h21 : w 21 = 0
  · have e : zHas r w = 1 := by unfold zHas; rw [if_pos h21]
    rw [e] at fl
    rw [if_pos h21]
    exact fl
  · rw [if_neg h21]
    have h23 := q9 h21
    have h23' : w 21 - mI M (a + 1) 7 = w 23 + 1 := by
      rw [h23, Int32.sub_eq_add_neg (w 21 - 1), Int32.add_assoc, Int32.add_comm (-mI M (a + 1) 7), ← Int32.add_assoc, Int32.sub_add_cancel, ← Int32.sub_eq_add_neg]
    rw [h23']
    by_cases hlt : w 23 + 1 < r 3
    · have e : zHas r w = 0 := by unfold zHas; rw [if_neg h21, if_pos hlt]
      rw [e] at fl
      rw [if_pos hlt]
      exact fl
    · have e : zHas r w = 1 := by unfold zHas; rw [if_neg h21, if_neg hlt]
      rw [e] at fl
      rw [if_neg hlt]
      exact fl
end CCLOSE
