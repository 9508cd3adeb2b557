/-! THE LAW. The mean of a voice's errors, the share of the lost -/
section MEAN
variable {M M1 M' : Mem} {x a s d n m c l v e k L : Nat} {r q w t f : Nat → Int32} {g : Nat → Nat → Int32} {b : Bool} {y p p1 p2 p3 z : Int32} {xs : Nat → Int32}
theorem mean_T (h : CI x M n r q b g c t l) (hn : n ≤ 512) (hv : v < 3) : ∃ d, f_X1_meanOfErrors (x + 5 + 44 * v + 9) M = some d ∧ DN d ∧ ∀ N, MI (x + 1095) N r q b g c t l → f_X9_mean (x + 1095) (nI v) N = some d := by
  obtain ⟨hV, hW, hB, hS, hR⟩ := h.rv hv
  obtain ⟨w26, w27, wk⟩ := hV.ear
  obtain ⟨N, A, C, Z, Lo, H, E, lo, ⟨k21, k28, k37, k30, k31, k29, k33, k36⟩, h1, h2, h3, h4, h5, h6, h7, h8⟩ := hB.2.1
  have e2 : mI M (x + 5 + 44 * v + 9) 2 = nI H := (wk 2 (by decide) (by decide)).trans k29
  have e6 : mI M (x + 5 + 44 * v + 9) 6 = nI E := (wk 6 (by decide) (by decide)).trans k33
  have m29 : ∀ N, MI (x + 1095) N r q b g c t l → f_X9_of (x + 1095) (nI v) 29 N = some (nI H) := fun N hN => by rw [of_m 29 hN hv (by decide), k29]
  have m33 : ∀ N, MI (x + 1095) N r q b g c t l → f_X9_of (x + 1095) (nI v) 33 N = some (nI E) := fun N hN => by rw [of_m 33 hN hv (by decide), k33]
  by_cases h0 : H = 0
  · subst h0
    refine ⟨FP.dconst0, ?_, Or.inl rfl, fun N hN => ?_⟩
    · unfold f_X1_meanOfErrors
      rw [e2, if_pos (by decide)]
    · unfold f_X9_mean
      rw [m29 N hN, vb_s, if_pos (by decide)]
  · have hd := dv_DN (a := E) (h := H) (by omega) h0 (by omega)
    refine ⟨_, ?_, hd, fun N hN => ?_⟩
    · unfold f_X1_meanOfErrors
      rw [e2, e6, if_neg (show ¬ nI H ≤ 0 from nI_ge (b := H) (a := 0) (by omega) (by omega)), gd_s hd.ok]
    · unfold f_X9_mean
      rw [m29 N hN, vb_s, if_neg (nI_ne0 (by omega) (by omega)), m33 N hN, vb_s, vb_s, gd_s hd.ok]
theorem share_T (h : CI x M n r q b g c t l) (hn : n ≤ 512) : ∃ d, f_X8_shareOfLost x M = some d ∧ FN d ∧ ∀ N, MI (x + 1095) N r q b g c t l → f_X9_share (x + 1095) N = some d := by
  have cnt : ∀ v, v < 3 → ∃ A B, vo r v 21 = nI A ∧ vo r v 36 = nI B ∧ A ≤ 512 ∧ B ≤ 512 := fun v hv => by
    obtain ⟨hV, hW, hB, hS, hR⟩ := h.rv hv
    obtain ⟨N, A, C, Z, Lo, H, E, lo, ⟨k21, k28, k37, k30, k31, k29, k33, k36⟩, h1, h2, h3, h4, h5, h6, h7, h8⟩ := hB.2.1
    exact ⟨N, lo, k21, k36, by omega, by omega⟩
  obtain ⟨A0, B0, a0, b0, c0, d0⟩ := cnt 0 (by decide)
  obtain ⟨A1, B1, a1, b1, c1, d1⟩ := cnt 1 (by decide)
  obtain ⟨A2, B2, a2, b2, c2, d2⟩ := cnt 2 (by decide)
  have s21 : suV r 21 = nI (A0 + A1 + A2) := by
    unfold suV
    rw [a0, a1, a2, zA, zA]
  have s36 : suV r 36 = nI (B0 + B1 + B2) := by
    unfold suV
    rw [b0, b1, b2, zA, zA]
  have c21 : f_X8_sumOver x 2 M = some (nI (A0 + A1 + A2)) := by rw [sums_c h (by decide), ← s21]; rfl
  have c36 : f_X8_sumOver x 4 M = some (nI (B0 + B1 + B2)) := by rw [sums_c h (by decide), ← s36]; rfl
  have m21 : ∀ N, MI (x + 1095) N r q b g c t l → f_X9_sum (x + 1095) 21 N = some (nI (A0 + A1 + A2)) := fun N hN => (sum_m hN (kk := 21) (by decide) rfl).trans (congrArg some s21)
  have m36 : ∀ N, MI (x + 1095) N r q b g c t l → f_X9_sum (x + 1095) 36 N = some (nI (B0 + B1 + B2)) := fun N hN => (sum_m hN (kk := 36) (by decide) rfl).trans (congrArg some s36)
  have hA : A0 + A1 + A2 < 2147483648 := by omega
  have hB : B0 + B1 + B2 < 2147483648 := by omega
  generalize A0 + A1 + A2 = A at *
  generalize B0 + B1 + B2 = B at *
  by_cases h0 : A = 0
  · subst h0
    refine ⟨FP.fconst0, ?_, Or.inl rfl, fun N hN => ?_⟩
    · unfold f_X8_shareOfLost
      rw [c21, vb_s, if_pos (by decide)]
    · unfold f_X9_share
      rw [m21 N hN, vb_s, if_pos (by decide)]
  · have hd := dv_FN (a := B) (h := A) hB h0 hA
    refine ⟨_, ?_, hd, fun N hN => ?_⟩
    · unfold f_X8_shareOfLost
      rw [c21, vb_s, if_neg (show ¬ nI A ≤ 0 from nI_ge (b := A) (a := 0) (by omega) (by omega)), c36, vb_s, gd_s hd.ok]
    · unfold f_X9_share
      rw [m21 N hN, vb_s, if_neg (nI_ne0 (by omega) (by omega)), m36 N hN, vb_s, vb_s, gd_s hd.ok]
theorem mD_s {a b j : Nat} {v : UInt64} {u : Int32} : mD (sI (sD M a v) b j u) a = v := by
  show (if a = a then v else _) = v
  rw [if_pos rfl]
theorem w_22 (hL : 4 * k + 4 ≤ L) (hL2 : L ≤ 2048) (h : Inv x k M) : ∃ M', f_law_22 x (x + 1095) (x + 1105) (x + 1106) xs L (Int32.ofNat (4 * k)) M = some M' ∧ Inv x (k + 1) M' := by
  obtain ⟨r, q, b, g, c, t, l, hl, hC, hI⟩ := h
  have a1 : ix (Int32.ofNat (4 * k) + 1) L := at_ix (j := 1) hL hL2 (by decide)
  unfold f_law_22 f_L_meanError
  simp only [gd_s a1]
  generalize xs (Int32.ofNat (4 * k) + 1).toNatClampNeg = p1
  rcases arg_cs p1 2 (by decide) with ⟨v, hv, rfl⟩ | hv
  · have hv : v < 3 := by omega
    obtain ⟨y, e, hD, hm⟩ := mean_T hC (by omega) hv
    have ec : wb (f_X8_meanError x (nI v) M) hs_L_meanError (fun r N => sD N (x + 1106) r) = some (0, sD M (x + 1106) y) := by
      unfold f_X8_meanError
      rw [voice_ok hv, xb_s, e, vb_s]
      rfl
    have hN : MI (x + 1095) (sD M (x + 1106) y) r q b g c t l := hI.out fun b hb => rfl
    rw [ec, cb_s]
    unfold f_X9_meanError f_X9_thrown
    rw [nb_s, isV_ok hv, vb_s, if_neg (by decide), hm _ (hN7 hN), vb_s, cb_s, vb_s, mI_ss, if_pos rfl, if_pos rfl, gd_s (by decide), mD_s, hD.same, cv_eq, if_pos rfl]
    refine ⟨_, rfl, r, q, b, g, c, t, l, by omega, ?_, hN7 hN⟩
    have hO : OutM (x + 1095) (sD M (x + 1106) y) (sI (sD M (x + 1106) y) (x + 1095) 7 0) := OutM.sI (by omega) (by omega)
    have hC2 : CI x (sD M (x + 1106) y) (k - l) r q b g c t l := hC.fr (fun _ _ _ _ _ _ _ => rfl) (fun _ _ _ => rfl) rfl
    exact (hC2.after hO).mono (by omega)
  · have ec : wb (f_X8_meanError x p1 M) hs_L_meanError (fun r N => sD N (x + 1106) r) = some (1, M) := by
      unfold f_X8_meanError
      rw [voice_no hv, xb_n (by decide)]
      rfl
    rw [ec, cb_s]
    unfold f_X9_meanError f_X9_thrown
    obtain ⟨N', b1, b2, b3, b4⟩ := fail_m (z := 1) (hN7 hI)
    rw [nb_s, isV_no hv, vb_s, if_pos rfl, b1, cb_s, cb_s, vb_s, b4, if_pos rfl, if_neg (by decide)]
    have hO : OutM (x + 1095) M N' := (OutM.sI (by omega) (by omega)).trans b3
    exact ⟨_, rfl, r, q, b, g, c, t, l, by omega, (hC.after hO).mono (by omega), b2⟩
theorem w_23 (hL : 4 * k + 4 ≤ L) (hL2 : L ≤ 2048) (h : Inv x k M) : ∃ M', f_law_23 x (x + 1095) (x + 1105) (x + 1106) xs L (Int32.ofNat (4 * k)) M = some M' ∧ Inv x (k + 1) M' := by
  obtain ⟨r, q, b, g, c, t, l, hl, hC, hI⟩ := h
  obtain ⟨y, e, hF, hm⟩ := share_T hC (by omega)
  unfold f_law_23 f_X8_lostShare f_X9_lostShare
  rw [e, vb_s, vb_s, gd_s hF.d.ok, nb_s, nb_s, hm _ (hN7 hI), vb_s, cb_s, gd_s hF.d.ok, nb_s, hF.d.same, cv_eq, if_pos rfl]
  have hO : OutM (x + 1095) M (sI M (x + 1095) 7 0) := OutM.sI (by omega) (by omega)
  exact ⟨_, rfl, r, q, b, g, c, t, l, by omega, (hC.after hO).mono (by omega), hN7 hI⟩
end MEAN
