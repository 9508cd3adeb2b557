/-! LOOKS. What is told of the ends, the packets, the codes -/
def Lk (x : Nat) (M M' : Mem) : Prop := (∀ b, b ≠ x + 276 → b ≠ x + 277 → b ≠ x + 278 → mI M' b = mI M b) ∧ M'.2 = M.2
def LkM (mo : Nat) (N N' : Mem) : Prop := (∀ b, b ≠ mo + 4 → mI N' b = mI N b) ∧ N'.2 = N.2
section LOOKS
variable {M M1 M' N : Mem} {x mo a e s d n m c l v j k i : Nat} {r q w t f u : Nat → Int32} {g : Nat → Nat → Int32} {b : Bool} {y p p1 p2 p3 z : Int32}
theorem Lk.rf : Lk x M M := ⟨fun _ _ _ _ => rfl, rfl⟩
theorem Lk.trans (h : Lk x M M1) (h2 : Lk x M1 M') : Lk x M M' := ⟨fun b h3 h4 h5 => (h2.1 b h3 h4 h5).trans (h.1 b h3 h4 h5), h2.2.trans h.2⟩
theorem Lk.sE {zz : Int32 × Int32} : Lk x M (sE M (x + 276) zz) := ⟨fun b h1 _ _ => mI_sEn h1, rfl⟩
theorem Lk.sHr : Lk x M (sHr M (x + 277) w) := ⟨fun b _ h1 h2 => mI_sHn h1 h2, rfl⟩
theorem LkM.rf : LkM mo N N := ⟨fun _ _ => rfl, rfl⟩
theorem CI.lk (h : CI x M n r q b g c t l) (hk : Lk x M M') : CI x M' n r q b g c t l := h.fr (fun b _ _ _ h1 h2 h3 => hk.1 b h1 h2 h3) (fun b _ _ => mR_of2 hk.2) (by rw [hk.1 _ (by omega) (by omega) (by omega)])
theorem Lk.out (hk : Lk x M M') : Out x M M' := Out.of2 (fun b hb => hk.1 b (by omega) (by omega) (by omega)) hk.2
theorem MI.lk {N' : Mem} (h : MI mo N r q b g c t l) (hk : LkM mo N N') : MI mo N' r q b g c t l := h.fr (hk.1 _ (by omega)) (hk.1 _ (by omega)) (hk.1 _ (by omega)) (hk.1 _ (by omega)) (hk.1 _ (by omega)) (by rw [hk.1 _ (by omega)]) (by rw [hk.1 _ (by omega)]) (by rw [hk.1 _ (by omega)])
theorem LkM.out {N' : Mem} (hk : LkM mo N N') : OutM mo N N' := ⟨fun b hb => hk.1 b (by omega), by rw [hk.2], fun b _ => by show N'.2.2.1 b = N.2.2.1 b; rw [hk.2], by rw [hk.2]⟩
theorem RV.cells (h : RV M a w) : mI M (a + 2) 0 = w 0 ∧ mI M (a + 2) 1 = w 1 ∧ mI M (a + 1) 2 = w 2 ∧ mI M (a + 1) 3 = w 3 ∧ mI M (a + 3) 2 = w 4 := by
  obtain ⟨⟨⟨q, q1, q2, q3, ⟨f0, f1, f2, f3, f5, f6⟩, -⟩, -⟩, -⟩ := h
  exact ⟨f0, f1, f2, f3, by rw [q2]; exact q3⟩
theorem RV.ear (h : RV M a w) : mI M (a + 10) 0 = w 26 ∧ mI M (a + 10) 1 = w 27 ∧ ∀ k, 1 ≤ k → k ≤ 9 → mI M (a + 9) k = w (earIx k) := h.1.2.2
/-- the guess told a second way -/
theorem since_c (h : RV M a w) (hB : WBs w) (he : e < a ∨ a + 44 ≤ e) : f_X3_guessSinceHead (a + 1) e M = some (w 0, sE M e (w 0, w 1)) := by
  have n1 : a + 1 ≠ e := by omega
  have n3 : a + 1 + 2 ≠ e := by omega
  have n4 : a + 1 + 2 + 1 ≠ e := by omega
  have n8 : a + 1 + 7 ≠ e := by omega
  obtain ⟨⟨⟨q', q1, q2, q3, ⟨f0, f1, f2, f3, f5, f6⟩, q7, q8, q9⟩, ⟨q'', c, c1, c2, c3, c4, c5, c6, c7, c8⟩, hE⟩, -⟩ := h
  have eq2 : q' = q'' := (nI_eq (by omega) (by omega)).mp (q2.symm.trans c2)
  subst eq2
  clear c5
  have hi : ∀ j, ∃ m, m < 25 ∧ (zFl (mI M (a + 1 + 7)) j (mI M (a + 1 + 6) 0, mI M (a + 1 + 6) 1)).2 = nI m := fun j => zFl_i c6
  clear c6
  have tail : f_X3_guessSinceHead_b43 (a + 1) e (sE M e (zFl (mI M (a + 1 + 7)) c (mI M (a + 1 + 6) 0, mI M (a + 1 + 6) 1))) = some (w 0, sE M e (w 0, w 1)) := by
    unfold f_X3_guessSinceHead_b43
    rw [all_c (q := q') n3 n4 q1 (by rw [mI_sEn n3]; exact q3) (by rw [mI_sE1]; exact hi c), vb_s, sE_sE, mI_sE0, mI_sEn n4, mI_sE0, mI_sE1]
    have ez : zFl (mI M (a + 1 + 2 + 1)) q' ((zFl (mI M (a + 1 + 7)) c (mI M (a + 1 + 6) 0, mI M (a + 1 + 6) 1)).1, (zFl (mI M (a + 1 + 7)) c (mI M (a + 1 + 6) 0, mI M (a + 1 + 6) 1)).2) = (w 0, w 1) := by
      by_cases hq : q' = 0
      · rw [c7 hq, hq]; rfl
      · rw [(c8 hq).1, ← (c8 hq).2]
        exact zFl_congr fun j hj => (q7 j hj).1
    rw [ez]
  have go : ∀ (d j n : Nat), j + d = c → d < n → f_X3_guessSinceHead_b10 (a + 1) e n (nI j) (sE M e (zFl (mI M (a + 1 + 7)) j (mI M (a + 1 + 6) 0, mI M (a + 1 + 6) 1))) = some (w 0, sE M e (w 0, w 1)) := by
    intro d
    induction d with
    | zero =>
      intro j n hj hn
      obtain ⟨n, rfl⟩ : ∃ k, n = k + 1 := ⟨n - 1, by omega⟩
      have hj : j = c := by omega
      subst hj
      rw [f_X3_guessSinceHead_b10, mI_sEn n1, c3, if_pos (nI_le (Nat.le_refl _) (by omega))]
      exact tail
    | succ d ih =>
      intro j n hj hn
      obtain ⟨n, rfl⟩ : ∃ k, n = k + 1 := ⟨n - 1, by omega⟩
      obtain ⟨m, hm1, hm2⟩ := hi j
      have hj72 : j < 72 := by omega
      have hjc : j < c := by omega
      rw [f_X3_guessSinceHead_b10, mI_sEn n1, c3, if_neg (nI_ge hjc (by omega)), if_neg (show ¬ (72 : Int32) ≤ nI j from nI_ge (b := 72) hj72 (by decide)), gd_s (nI_ix hj72 (by decide)), nI_clamp (by omega), mI_sEn n8, follow_c (n := m) (by rw [mI_sE1]; exact hm2) hm1, vb_s, nb_s, ← nI_succ, sE_sE, mI_sE0, mI_sE1]
      exact ih (j + 1) n (by omega) (by omega)
  unfold f_X3_guessSinceHead
  rw [ecopy_c, vb_s]
  exact go c 0 lfuel (by omega) (by unfold lfuel; omega)
theorem saying_T (h : CI x M n r q b g c t l) (hv : v < 3) (hj : j ≤ 9) : ∃ y M', f_X8_tellSaying x (x + 5 + 44 * v) (nI j) M = some (y, M') ∧ Lk x M M' ∧ ∀ N, MI (x + 1095) N r q b g c t l → f_X9_ofSaying (x + 1095) (nI v) (nI j) N = some y := by
  obtain ⟨hV, hW, hB, hS, hR⟩ := h.rv hv
  obtain ⟨w0, w1, w2, w3, w4⟩ := hV.cells
  obtain ⟨k22, k21, k38, k36, k37⟩ := hV.cnt
  obtain ⟨i, hi, ei⟩ := hB.1.1.1.2
  have st : f_X0_step (x + 5 + 44 * v + 1 + 1) M = some (cSTEPS i) := step_c (e := x + 5 + 44 * v + 2) (w1.trans ei) hi
  unfold f_X8_tellSaying f_X9_ofSaying
  match j, hj with
  | 0, _ => exact ⟨_, _, if_pos rfl, Lk.rf, fun N hN => by rw [if_pos (show nI 0 = 0 from rfl), of_m 0 hN hv (by decide), vb_s]; exact congrArg some w0.symm⟩
  | 1, _ => exact ⟨_, _, by rw [if_neg (by decide), if_pos (by decide)], Lk.rf, fun N hN => by rw [if_neg (by decide), if_pos (by decide), of_m 1 hN hv (by decide), vb_s]; exact congrArg some w1.symm⟩
  | 2, _ =>
    refine ⟨_, _, by rw [if_neg (by decide), if_neg (by decide), if_pos (by decide), st, vb_s], Lk.rf, fun N hN => ?_⟩
    rw [if_neg (by decide), if_neg (by decide), if_pos (by decide), of_m 1 hN hv (by decide), vb_s, ei, gd_s (nI_ix hi (by decide)), nI_clamp (by omega), hN.1.2]
  | 3, _ => exact ⟨_, _, by rw [if_neg (by decide), if_neg (by decide), if_neg (by decide), if_pos (by decide)], Lk.rf, fun N hN => by rw [if_neg (by decide), if_neg (by decide), if_neg (by decide), if_pos (by decide), of_m 2 hN hv (by decide), vb_s]; exact congrArg some w2.symm⟩
  | 4, _ => exact ⟨_, _, by rw [if_neg (by decide), if_neg (by decide), if_neg (by decide), if_neg (by decide), if_pos (by decide)], Lk.rf, fun N hN => by rw [if_neg (by decide), if_neg (by decide), if_neg (by decide), if_neg (by decide), if_pos (by decide), of_m 3 hN hv (by decide), vb_s]; exact congrArg some w3.symm⟩
  | 5, _ => exact ⟨_, _, by rw [if_neg (by decide), if_neg (by decide), if_neg (by decide), if_neg (by decide), if_neg (by decide), if_pos (by decide)], Lk.rf, fun N hN => by rw [if_neg (by decide), if_neg (by decide), if_neg (by decide), if_neg (by decide), if_neg (by decide), if_pos (by decide), of_m 4 hN hv (by decide), vb_s]; exact congrArg some w4.symm⟩
  | 6, _ => exact ⟨_, _, by rw [if_neg (by decide), if_neg (by decide), if_neg (by decide), if_neg (by decide), if_neg (by decide), if_neg (by decide), if_pos (by decide)], Lk.rf, fun N hN => by rw [if_neg (by decide), if_neg (by decide), if_neg (by decide), if_neg (by decide), if_neg (by decide), if_neg (by decide), if_pos (by decide), of_m 21 hN hv (by decide), vb_s]; exact congrArg some k21.symm⟩
  | 7, _ => exact ⟨_, _, by rw [if_neg (by decide), if_neg (by decide), if_neg (by decide), if_neg (by decide), if_neg (by decide), if_neg (by decide), if_neg (by decide), if_pos (by decide)], Lk.rf, fun N hN => by rw [if_neg (by decide), if_neg (by decide), if_neg (by decide), if_neg (by decide), if_neg (by decide), if_neg (by decide), if_neg (by decide), if_pos (by decide), of_m 22 hN hv (by decide), vb_s]; exact congrArg some k22.symm⟩
  | 8, _ => exact ⟨_, _, by rw [if_neg (by decide), if_neg (by decide), if_neg (by decide), if_neg (by decide), if_neg (by decide), if_neg (by decide), if_neg (by decide), if_neg (by decide), if_pos (by decide), since_c hV hB.1.1 (by omega), cb_s], Lk.sE, fun N hN => by rw [if_neg (by decide), if_neg (by decide), if_neg (by decide), if_neg (by decide), if_neg (by decide), if_neg (by decide), if_neg (by decide), if_neg (by decide), if_pos (by decide), of_m 0 hN hv (by decide), vb_s]⟩
  | 9, _ => exact ⟨_, _, by rw [if_neg (by decide), if_neg (by decide), if_neg (by decide), if_neg (by decide), if_neg (by decide), if_neg (by decide), if_neg (by decide), if_neg (by decide), if_neg (by decide)], Lk.rf, fun N hN => by rw [if_neg (by decide), if_neg (by decide), if_neg (by decide), if_neg (by decide), if_neg (by decide), if_neg (by decide), if_neg (by decide), if_neg (by decide), if_neg (by decide), of_m 38 hN hv (by decide), vb_s]; exact congrArg some k38.symm⟩
def heK (j : Nat) : Nat := if j = 0 then 26 else if j = 1 then 27 else if j ≤ 10 then 25 + j else 36
theorem hearing_T (h : CI x M n r q b g c t l) (hv : v < 3) (hj : j ≤ 11) : ∃ y, f_X8_tellHearing x (x + 5 + 44 * v) (nI j) M = some y ∧ ∀ N, MI (x + 1095) N r q b g c t l → f_X9_ofHearing (x + 1095) (nI v) (nI j) N = some y := by
  obtain ⟨hV, hW, hB, hS, hR⟩ := h.rv hv
  obtain ⟨w26, w27, wk⟩ := hV.ear
  obtain ⟨k22, k21, k38, k36, k37⟩ := hV.cnt
  obtain ⟨i, hi, ei⟩ := hB.1.2.2
  have st : f_X0_step (x + 5 + 44 * v + 9 + 1) M = some (cSTEPS i) := step_c (e := x + 5 + 44 * v + 10) (w27.trans ei) hi
  unfold f_X8_tellHearing f_X1_tell f_X9_ofHearing
  match j, hj with
  | 0, _ => exact ⟨_, by rw [if_neg (by decide), if_pos (by decide), vb_s], fun N hN => by rw [if_pos (by decide), of_m 26 hN hv (by decide), vb_s]; exact congrArg some w26.symm⟩
  | 1, _ => exact ⟨_, by rw [if_neg (by decide), if_neg (by decide), if_pos (by decide), vb_s], fun N hN => by rw [if_neg (by decide), if_pos (by decide), of_m 27 hN hv (by decide), vb_s]; exact congrArg some w27.symm⟩
  | 2, _ =>
    refine ⟨_, by rw [if_neg (by decide), if_neg (by decide), if_neg (by decide), if_pos (by decide), st, vb_s, vb_s], fun N hN => ?_⟩
    rw [if_neg (by decide), if_neg (by decide), if_pos (by decide), of_m 27 hN hv (by decide), vb_s, ei, gd_s (nI_ix hi (by decide)), nI_clamp (by omega), hN.1.2]
  | 3, _ => exact ⟨_, by rw [if_neg (by decide), if_neg (by decide), if_neg (by decide), if_neg (by decide), if_pos (by decide), vb_s], fun N hN => by rw [if_neg (by decide), if_neg (by decide), if_neg (by decide), if_pos (by decide), of_m 28 hN hv (by decide), vb_s]; exact congrArg some (wk 1 (by decide) (by decide)).symm⟩
  | 4, _ => exact ⟨_, by rw [if_neg (by decide), if_neg (by decide), if_neg (by decide), if_neg (by decide), if_neg (by decide), if_pos (by decide), vb_s], fun N hN => by rw [if_neg (by decide), if_neg (by decide), if_neg (by decide), if_neg (by decide), if_pos (by decide), of_m 29 hN hv (by decide), vb_s]; exact congrArg some (wk 2 (by decide) (by decide)).symm⟩
  | 5, _ => exact ⟨_, by rw [if_neg (by decide), if_neg (by decide), if_neg (by decide), if_neg (by decide), if_neg (by decide), if_neg (by decide), if_pos (by decide), vb_s], fun N hN => by rw [if_neg (by decide), if_neg (by decide), if_neg (by decide), if_neg (by decide), if_neg (by decide), if_pos (by decide), of_m 30 hN hv (by decide), vb_s]; exact congrArg some (wk 3 (by decide) (by decide)).symm⟩
  | 6, _ => exact ⟨_, by rw [if_neg (by decide), if_neg (by decide), if_neg (by decide), if_neg (by decide), if_neg (by decide), if_neg (by decide), if_neg (by decide), if_pos (by decide), vb_s], fun N hN => by rw [if_neg (by decide), if_neg (by decide), if_neg (by decide), if_neg (by decide), if_neg (by decide), if_neg (by decide), if_pos (by decide), of_m 31 hN hv (by decide), vb_s]; exact congrArg some (wk 4 (by decide) (by decide)).symm⟩
  | 7, _ => exact ⟨_, by rw [if_neg (by decide), if_neg (by decide), if_neg (by decide), if_neg (by decide), if_neg (by decide), if_neg (by decide), if_neg (by decide), if_neg (by decide), if_pos (by decide), vb_s], fun N hN => by rw [if_neg (by decide), if_neg (by decide), if_neg (by decide), if_neg (by decide), if_neg (by decide), if_neg (by decide), if_neg (by decide), if_pos (by decide), of_m 32 hN hv (by decide), vb_s]; exact congrArg some (wk 5 (by decide) (by decide)).symm⟩
  | 8, _ => exact ⟨_, by rw [if_neg (by decide), if_neg (by decide), if_neg (by decide), if_neg (by decide), if_neg (by decide), if_neg (by decide), if_neg (by decide), if_neg (by decide), if_neg (by decide), if_pos (by decide), vb_s], fun N hN => by rw [if_neg (by decide), if_neg (by decide), if_neg (by decide), if_neg (by decide), if_neg (by decide), if_neg (by decide), if_neg (by decide), if_neg (by decide), if_pos (by decide), of_m 33 hN hv (by decide), vb_s]; exact congrArg some (wk 6 (by decide) (by decide)).symm⟩
  | 9, _ => exact ⟨_, by rw [if_neg (by decide), if_neg (by decide), if_neg (by decide), if_neg (by decide), if_neg (by decide), if_neg (by decide), if_neg (by decide), if_neg (by decide), if_neg (by decide), if_neg (by decide), if_pos (by decide), vb_s], fun N hN => by rw [if_neg (by decide), if_neg (by decide), if_neg (by decide), if_neg (by decide), if_neg (by decide), if_neg (by decide), if_neg (by decide), if_neg (by decide), if_neg (by decide), if_pos (by decide), of_m 34 hN hv (by decide), vb_s]; exact congrArg some (wk 7 (by decide) (by decide)).symm⟩
  | 10, _ => exact ⟨_, by rw [if_neg (by decide), if_neg (by decide), if_neg (by decide), if_neg (by decide), if_neg (by decide), if_neg (by decide), if_neg (by decide), if_neg (by decide), if_neg (by decide), if_neg (by decide), if_neg (by decide), vb_s], fun N hN => by rw [if_neg (by decide), if_neg (by decide), if_neg (by decide), if_neg (by decide), if_neg (by decide), if_neg (by decide), if_neg (by decide), if_neg (by decide), if_neg (by decide), if_neg (by decide), if_pos (by decide), of_m 35 hN hv (by decide), vb_s]; exact congrArg some (wk 8 (by decide) (by decide)).symm⟩
  | 11, _ => exact ⟨_, by rw [if_pos (by decide)], fun N hN => by rw [if_neg (by decide), if_neg (by decide), if_neg (by decide), if_neg (by decide), if_neg (by decide), if_neg (by decide), if_neg (by decide), if_neg (by decide), if_neg (by decide), if_neg (by decide), if_neg (by decide), of_m 36 hN hv (by decide), vb_s]; exact congrArg some k36.symm⟩
/-! packets -/
theorem row_m (h : MI mo N r q b g c t l) (hv : v < 3) (hk : k < 207) (hp : p = nI (5 + 207 * v + k)) : ix p 626 ∧ mI N (mo + 1) p.toNatClampNeg = vo r v k := by
  subst hp
  refine ⟨nI_ix (by omega) (by decide), ?_⟩
  rw [nI_clamp (by omega), h.1.1]
  rfl
/-- the codes as one number -/
def zOne (u : Nat → Int32) : Nat → Nat → Int32 → Int32
  | 0, _, y => y
  | d + 1, j, y => zOne u d (j + 1) (16 * y + u (5 + j))
theorem one_c {qq : Nat} (hq : qq ≤ 8) (h2 : mI M s 2 = nI qq) (hc : ∀ j, j < qq → mI M (s + 1) j = u (5 + j)) : ∀ (d j n : Nat) (y : Int32), j + d = qq → d < n → f_X2_codesAsOne_b4 s n y (nI j) M = some (zOne u d j y) := by
  intro d
  induction d with
  | zero =>
    intro j n y hj hn
    obtain ⟨n, rfl⟩ : ∃ k, n = k + 1 := ⟨n - 1, by omega⟩
    have hj : j = qq := by omega
    subst hj
    rw [f_X2_codesAsOne_b4, h2, if_pos (nI_le (Nat.le_refl _) (by omega))]
    rfl
  | succ d ih =>
    intro j n y hj hn
    obtain ⟨n, rfl⟩ : ∃ k, n = k + 1 := ⟨n - 1, by omega⟩
    rw [f_X2_codesAsOne_b4, h2, if_neg (nI_ge (by omega) (by omega)), codeAt_c (by omega), vb_s, nb_s, nb_s, ← nI_succ, hc j (by omega), ih (j + 1) n _ (by omega) (by omega)]
    rfl
theorem one_m {qq i : Nat} (h : MI mo N r q b g c t l) (hv : v < 3) (hi : i < 8) (hq : qq ≤ 8) (h2 : vo r v (39 + 21 * i + 1) = nI qq) : ∀ (d j n : Nat) (y : Int32), j + d = qq → d < n → f_X9_ofPacket_b100 mo p1 p2 p3 n (nI (5 + 207 * v + (39 + 21 * i))) y (nI j) N = some (zOne (fun k => vo r v (39 + 21 * i + k)) d j y) := by
  have a1 := row_m h hv (k := 39 + 21 * i + 1) (by omega) (at_add (v := v) (k := 39 + 21 * i) (c := 1))
  intro d
  induction d with
  | zero =>
    intro j n y hj hn
    obtain ⟨n, rfl⟩ : ∃ k, n = k + 1 := ⟨n - 1, by omega⟩
    have hj : j = qq := by omega
    subst hj
    rw [f_X9_ofPacket_b100, gd_s a1.1, a1.2, h2, if_pos (nI_le (Nat.le_refl _) (by omega))]
    rfl
  | succ d ih =>
    intro j n y hj hn
    obtain ⟨n, rfl⟩ : ∃ k, n = k + 1 := ⟨n - 1, by omega⟩
    have e5 : nI (5 + 207 * v + (39 + 21 * i)) + 5 + nI j = nI (5 + 207 * v + (39 + 21 * i + 5 + j)) := by rw [at_add (c := 5), zA, Nat.add_assoc]
    have a5 := row_m h hv (k := 39 + 21 * i + 5 + j) (by omega) e5
    rw [f_X9_ofPacket_b100, gd_s a1.1, a1.2, h2, if_neg (nI_ge (by omega) (by omega)), gd_s a5.1, a5.2, nb_s, nb_s, ← nI_succ, ih (j + 1) n _ (by omega) (by omega)]
    show some (zOne _ d (j + 1) _) = some (zOne _ d (j + 1) (16 * y + vo r v (39 + 21 * i + (5 + j))))
    rw [Nat.add_assoc (39 + 21 * i)]
theorem packet_T (h : CI x M n r q b g c t l) (hv : v < 3) (h38 : vo r v 38 = nI m) (hm : m ≤ 8) (hi : i < m) (hj : j ≤ 5) : ∃ y, f_X2_tell (mR M (x + 5 + 44 * v + 11) i) (nI j) M = some y ∧ ∀ N, MI (x + 1095) N r q b g c t l → f_X9_ofPacket (x + 1095) (nI v) (nI i) (nI j) N = some y := by
  obtain ⟨hV, hW, hB, hS, hR⟩ := h.rv hv
  obtain ⟨-, -, W, hW8, w38, hP⟩ := hV
  have eW : W = m := (nI_eq (by omega) (by omega)).mp (w38.symm.trans h38)
  subst eW
  have hp := hP i hi
  generalize mR M (x + 5 + 44 * v + 11) i = p at hp
  obtain ⟨qq, q8, u1, p2, p3, p4, ph, pc⟩ := hp
  replace u1 : vo r v (39 + 21 * i + 1) = nI qq := u1
  replace p3 : mI M p 3 = vo r v (39 + 21 * i) := p3
  replace p4 : mI M p 4 = vo r v (39 + 21 * i + 2) := p4
  replace ph : vo r v (39 + 21 * i + 2) = 0 ∧ vo r v (39 + 21 * i + 3) = -10000 ∧ vo r v (39 + 21 * i + 4) = -10000 ∨ vo r v (39 + 21 * i + 2) = 1 ∧ mI M (p + 3) 0 = vo r v (39 + 21 * i + 3) ∧ mI M (p + 3) 1 = vo r v (39 + 21 * i + 4) := ph
  unfold f_X2_tell f_X9_ofPacket
  match j, hj with
  | 0, _ =>
    refine ⟨_, if_pos (by decide), fun N hN => ?_⟩
    have a0 := row_m hN hv (k := 39 + 21 * i + 0) (by omega) (at_add (v := v) (k := 39 + 21 * i) (c := 0))
    rw [packet_at, vb_s, if_pos (by decide), gd_s a0.1, a0.2]
    exact congrArg some p3.symm
  | 1, _ =>
    refine ⟨_, by rw [if_neg (by decide), if_pos (by decide)], fun N hN => ?_⟩
    have a0 := row_m hN hv (k := 39 + 21 * i + 1) (by omega) (at_add (v := v) (k := 39 + 21 * i) (c := 1))
    rw [packet_at, vb_s, if_neg (by decide), if_pos (by decide), gd_s a0.1, a0.2, p2, u1]
  | 2, _ =>
    refine ⟨vo r v (39 + 21 * i + 2), ?_, fun N hN => ?_⟩
    · rw [if_neg (by decide), if_neg (by decide), if_pos (by decide), p4]
      rcases ph with ⟨z, -⟩ | ⟨z, -⟩
      · rw [z, if_pos rfl]
      · rw [z, if_neg (by decide)]
    · have a0 := row_m hN hv (k := 39 + 21 * i + 2) (by omega) (at_add (v := v) (k := 39 + 21 * i) (c := 2))
      rw [packet_at, vb_s, if_neg (by decide), if_neg (by decide), if_pos (by decide), gd_s a0.1, a0.2]
  | 3, _ =>
    refine ⟨vo r v (39 + 21 * i + 3), ?_, fun N hN => ?_⟩
    · rw [if_neg (by decide), if_neg (by decide), if_neg (by decide), if_pos (by decide), p4]
      rcases ph with ⟨z, z2, -⟩ | ⟨z, z2, -⟩
      · rw [z, if_pos rfl, z2]
      · rw [z, if_neg (by decide), z2]
    · have a0 := row_m hN hv (k := 39 + 21 * i + 3) (by omega) (at_add (v := v) (k := 39 + 21 * i) (c := 3))
      rw [packet_at, vb_s, if_neg (by decide), if_neg (by decide), if_neg (by decide), if_pos (by decide), gd_s a0.1, a0.2]
  | 4, _ =>
    refine ⟨vo r v (39 + 21 * i + 4), ?_, fun N hN => ?_⟩
    · rw [if_neg (by decide), if_neg (by decide), if_neg (by decide), if_neg (by decide), if_pos (by decide), p4]
      rcases ph with ⟨z, -, z2⟩ | ⟨z, -, z2⟩
      · rw [z, if_pos rfl, z2]
      · rw [z, if_neg (by decide), z2]
    · have a0 := row_m hN hv (k := 39 + 21 * i + 4) (by omega) (at_add (v := v) (k := 39 + 21 * i) (c := 4))
      rw [packet_at, vb_s, if_neg (by decide), if_neg (by decide), if_neg (by decide), if_neg (by decide), if_pos (by decide), gd_s a0.1, a0.2]
  | 5, _ =>
    refine ⟨zOne (fun k => vo r v (39 + 21 * i + k)) qq 0 0, ?_, fun N hN => ?_⟩
    · rw [if_neg (by decide), if_neg (by decide), if_neg (by decide), if_neg (by decide), if_neg (by decide)]
      unfold f_X2_codesAsOne
      rw [show f_X2_codesAsOne_b4 p lfuel 0 0 M = f_X2_codesAsOne_b4 p lfuel 0 (nI 0) M from rfl, one_c (u := fun k => vo r v (39 + 21 * i + k)) q8 p2 (fun j hj => (pc j hj).1) qq 0 lfuel 0 (by omega) (by unfold lfuel; omega), vb_s]
    · rw [packet_at, vb_s, if_neg (by decide), if_neg (by decide), if_neg (by decide), if_neg (by decide), if_neg (by decide)]
      exact one_m hN hv (by omega) q8 u1 qq 0 lfuel 0 (by omega) (by unfold lfuel; omega)
/-! codes -/
theorem coD (hv : v < 3) (hN : MI mo N r q b g c t l) (hi : vo r v 1 = nI i) (hi2 : i < 25) : f_X9_of mo (nI v) 0 N = some (vo r v 0) ∧ f_X9_of mo (nI v) 1 N = some (nI i) ∧ ∀ z, f_X9_codeOf mo z (vo r v 0) (nI i) N = some (zK z (vo r v 0) (cSTEPS i)) := by
  refine ⟨of_m 0 hN hv (by decide), by rw [← hi]; exact of_m 1 hN hv (by decide), fun z => ?_⟩
  rw [code_v rfl hi2, hN.1.2]
theorem code_T (h : CI x M n r q b g c t l) (hv : v < 3) (hx : B2 p) (hj : j ≤ 4) : ∃ y M', f_X8_tellCode x (x + 5 + 44 * v) p (nI j) M = some (y, M') ∧ Lk x M M' ∧ ∀ N, MI (x + 1095) N r q b g c t l → f_X9_ofCode (x + 1095) (nI v) p (nI j) N = some y := by
  obtain ⟨hV, hW, hB, hS, hR⟩ := h.rv hv
  obtain ⟨w0, w1, -⟩ := hV.cells
  obtain ⟨b0, i, hi, ei⟩ := hB.1.1.1
  have cp : f_X0_copyFrom (x + 276) (x + 5 + 44 * v + 1 + 1) M = some (sE M (x + 276) (vo r v 0, vo r v 1)) := by
    rw [ecopy_c]
    show some (sE M (x + 276) (mI M (x + 5 + 44 * v + 2) 0, mI M (x + 5 + 44 * v + 2) 1)) = _
    rw [w0, w1]
  have e0 : mI (sE M (x + 276) (vo r v 0, vo r v 1)) (x + 276) 0 = vo r v 0 := mI_sE0
  have e1 : mI (sE M (x + 276) (vo r v 0, vo r v 1)) (x + 276) 1 = nI i := by rw [mI_sE1]; exact ei
  have cc : f_X0_codeFor (x + 276) p (sE M (x + 276) (vo r v 0, vo r v 1)) = some (zK p (vo r v 0) (cSTEPS i)) := by
    rw [code_c e1 hi hx (by rw [e0]; exact b0), e0]
  have nc : f_X0_nearestCodeFor (x + 276) p (sE M (x + 276) (vo r v 0, vo r v 1)) = some (nI (zNr (zFar (vo r v 0) (cSTEPS i) p) 15 1 0)) := by
    rw [near_c e1 hi hx, e0]
  have fo : ∀ c, f_X0_follow (x + 276) c (sE M (x + 276) (vo r v 0, vo r v 1)) = some (sE M (x + 276) (zG (vo r v 0) (cSTEPS i) c, zI (nI i) c)) := fun c => by
    rw [follow_c e1 hi, sE_sE, e0, e1]
    unfold zSt
    rw [nI_clamp (by omega)]
  have nm : ∀ N, MI (x + 1095) N r q b g c t l → f_X9_nearestCode (x + 1095) (vo r v 0) (nI i) p N = some (nI (zNr (zFar (vo r v 0) (cSTEPS i) p) 15 1 0)) := fun N hN => near_v1 (by rw [hN.1.2]) hi 15 1 0 lfuel rfl (by decide) (by decide)
  have gm : ∀ N c, MI (x + 1095) N r q b g c t l → True := fun _ _ _ => trivial
  unfold f_X8_tellCode f_X8_tellCode_b38 f_X9_ofCode
  rw [cp, vb_s]
  match j, hj with
  | 0, _ =>
    refine ⟨_, _, by rw [if_neg (by decide), cc, vb_s, if_pos (by decide)], Lk.sE, fun N hN => ?_⟩
    obtain ⟨z0, z1, z2⟩ := coD hv hN ei hi
    rw [z0, vb_s, z1, vb_s, z2, vb_s, if_pos (by decide)]
  | 1, _ =>
    refine ⟨_, _, by rw [if_neg (by decide), cc, vb_s, if_neg (by decide), if_neg (by decide), fo, vb_s, if_neg (by decide)], Lk.sE, fun N hN => ?_⟩
    obtain ⟨z0, z1, z2⟩ := coD hv hN ei hi
    rw [z0, vb_s, z1, vb_s, z2, vb_s, if_neg (by decide), if_pos (by decide), guess_v rfl hi, vb_s, hN.1.2, mI_sE0]
  | 2, _ =>
    refine ⟨_, _, by rw [if_neg (by decide), cc, vb_s, if_neg (by decide), if_neg (by decide), fo, vb_s, if_pos (by decide)], Lk.sE, fun N hN => ?_⟩
    obtain ⟨z0, z1, z2⟩ := coD hv hN ei hi
    rw [z0, vb_s, z1, vb_s, z2, vb_s, if_neg (by decide), if_neg (by decide), if_pos (by decide), index_v, vb_s, mI_sE1]
  | 3, _ =>
    refine ⟨_, _, by rw [if_pos (by decide), nc, vb_s, if_neg (by decide), if_pos (by decide)], Lk.sE, fun N hN => ?_⟩
    obtain ⟨z0, z1, z2⟩ := coD hv hN ei hi
    rw [z0, vb_s, z1, vb_s, z2, vb_s, if_neg (by decide), if_neg (by decide), if_neg (by decide), if_pos (by decide), nm N hN, vb_s]
  | 4, _ =>
    refine ⟨_, _, by rw [if_pos (by decide), nc, vb_s, if_neg (by decide), if_neg (by decide), fo, vb_s, if_neg (by decide)], Lk.sE, fun N hN => ?_⟩
    obtain ⟨z0, z1, z2⟩ := coD hv hN ei hi
    rw [z0, vb_s, z1, vb_s, z2, vb_s, if_neg (by decide), if_neg (by decide), if_neg (by decide), if_neg (by decide), nm N hN, vb_s, guess_v rfl hi, vb_s, hN.1.2, mI_sE0]
theorem settle_go (hx : B2 p) : ∀ (d j : Nat) (gg : Int32) (i : Nat), j + d = 61 → B2 gg → i < 25 → ∃ y zz, (∀ M n, d < n → f_X8_codesToComeNear_b17 x a p z n (nI j) (sE M (x + 276) (gg, nI i)) = some (y, sE M (x + 276) zz)) ∧ ∀ N n, mI N (mo + 5) = cSTEPS → d < n → f_X9_settledBehind_b19 mo p1 p z n gg (nI i) (nI j) N = some y := by
  intro d
  induction d with
  | zero =>
    intro j gg i hj hg hi
    have hj : j = 61 := by omega
    subst hj
    refine ⟨-10000, (gg, nI i), fun M n hn => ?_, fun N n hN hn => ?_⟩
    · obtain ⟨n, rfl⟩ : ∃ k, n = k + 1 := ⟨n - 1, by omega⟩
      rw [f_X8_codesToComeNear_b17, if_pos (show (60 : Int32) < nI 61 by decide)]
    · obtain ⟨n, rfl⟩ : ∃ k, n = k + 1 := ⟨n - 1, by omega⟩
      rw [f_X9_settledBehind_b19, if_pos (show (60 : Int32) < nI 61 by decide)]
  | succ d ih =>
    intro j gg i hj hg hi
    have hlt : ¬ (60 : Int32) < nI j := nI_nlt (a := 60) (by omega) (by decide)
    by_cases hnear : z ≤ zS (gg - p)
    · obtain ⟨i2, hi2, ei2⟩ := zC_at (t := if 4 ≤ zK p gg (cSTEPS i) &&& 7 then nI i + 2 * ((zK p gg (cSTEPS i) &&& 7) - 3) else nI i - 1)
      have ei2 : zI (nI i) (zK p gg (cSTEPS i)) = nI i2 := ei2
      obtain ⟨y, zz, g1, g2⟩ := ih (j + 1) (zG gg (cSTEPS i) (zK p gg (cSTEPS i))) i2 (by omega) zG_B2 hi2
      refine ⟨y, zz, fun M n hn => ?_, fun N n hN hn => ?_⟩
      · obtain ⟨n, rfl⟩ : ∃ k, n = k + 1 := ⟨n - 1, by omega⟩
        have e1 : mI (sE M (x + 276) (gg, nI i)) (x + 276) 1 = nI i := mI_sE1
        rw [f_X8_codesToComeNear_b17, if_neg hlt, mI_sE0, dist_c hg hx, vb_s, if_pos hnear, code_c e1 hi hx (by rw [mI_sE0]; exact hg), vb_s, mI_sE0, follow_c e1 hi, vb_s, nb_s, ← nI_succ, sE_sE, mI_sE0, e1]
        unfold zSt
        rw [nI_clamp (by omega), ei2]
        exact g1 M n (by omega)
      · obtain ⟨n, rfl⟩ : ∃ k, n = k + 1 := ⟨n - 1, by omega⟩
        rw [f_X9_settledBehind_b19, if_neg hlt, size_v, vb_s, if_pos hnear, code_v rfl hi, vb_s, guess_v rfl hi, vb_s, index_v, vb_s, nb_s, ← nI_succ, hN, ei2]
        exact g2 N n hN (by omega)
    · refine ⟨nI j, (gg, nI i), fun M n hn => ?_, fun N n hN hn => ?_⟩
      · obtain ⟨n, rfl⟩ : ∃ k, n = k + 1 := ⟨n - 1, by omega⟩
        rw [f_X8_codesToComeNear_b17, if_neg hlt, mI_sE0, dist_c hg hx, vb_s, if_neg hnear]
      · obtain ⟨n, rfl⟩ : ∃ k, n = k + 1 := ⟨n - 1, by omega⟩
        rw [f_X9_settledBehind_b19, if_neg hlt, size_v, vb_s, if_neg hnear]
theorem settle_T (h : CI x M n r q b g c t l) (hv : v < 3) (hx : B2 p) : ∃ y M', f_X8_codesToComeNear x (x + 5 + 44 * v) p z M = some (y, M') ∧ Lk x M M' ∧ ∀ N, MI (x + 1095) N r q b g c t l → f_X9_settledBehind (x + 1095) (nI v) p z N = some y := by
  obtain ⟨hV, hW, hB, hS, hR⟩ := h.rv hv
  obtain ⟨w0, w1, -⟩ := hV.cells
  obtain ⟨b0, i, hi, ei⟩ := hB.1.1.1
  obtain ⟨y, zz, g1, g2⟩ := settle_go (x := x) (a := x + 5 + 44 * v) (mo := x + 1095) (p1 := nI v) (z := z) hx 61 0 (vo r v 0) i rfl b0 hi
  refine ⟨y, _, ?_, Lk.sE (zz := zz), fun N hN => ?_⟩
  · unfold f_X8_codesToComeNear
    rw [ecopy_c, vb_s]
    show f_X8_codesToComeNear_b17 x (x + 5 + 44 * v) p z lfuel (nI 0) (sE M (x + 276) (mI M (x + 5 + 44 * v + 2) 0, mI M (x + 5 + 44 * v + 2) 1)) = _
    rw [w0, w1, ei]
    exact g1 M lfuel (by decide)
  · unfold f_X9_settledBehind
    rw [of_m 0 hN hv (by decide), vb_s, of_m 1 hN hv (by decide), vb_s, ei]
    exact g2 N lfuel hN.1.2 (by decide)
end LOOKS
