/-! THE LAW. The counts agree -/
/-- what why() tells of a voice -/
def wyR (w : Nat → Int32) : Int32 := whyR w (zDA (w 38).toNatClampNeg w) (zOp w (zDA (w 38).toNatClampNeg w) (w 4).toNatClampNeg)
def agR (r : Nat → Int32) : Int32 := (if wyR (vo r 2) = 0 then 1 else 0) + ((if wyR (vo r 1) = 0 then 1 else 0) + ((if wyR (vo r 0) = 0 then 1 else 0) + 0))
section LCOUNT
variable {M M1 M' N : Mem} {x a s d n m c l v j k i u : Nat} {r q w w' t f : Nat → Int32} {g : Nat → Nat → Int32} {b : Bool} {y p p1 p2 p3 z : Int32} {E F C P : Nat → Int32}
theorem why_w (h : CI x M n r q b g c t l) (hv : v < 3) (hn : n < 9990) : ∃ M', f_X8_tellWhy x (x + 5 + 44 * v) M = some (wyR (vo r v), M') ∧ Lk x M M' := by
  obtain ⟨hV, hW, hB, hS, hR⟩ := h.rv hv
  obtain ⟨W, hW8, w38, -⟩ := hB.2.2
  obtain ⟨qq, hq7, w4⟩ := hB.1.1.2.2.1
  have e := why_c h hv hn w38 hW8 w4 (by omega)
  unfold wyR
  rw [w38, w4, nI_clamp (by omega), nI_clamp (by omega)]
  exact e
theorem why_p (h : CI x M n r q b g c t l) (hv : v < 3) (hn : n < 9990) : ∃ M', f_X8_why x (nI v) M = some (0, wyR (vo r v), M') ∧ Lk x M M' := by
  obtain ⟨M', e, lk⟩ := why_w h hv hn
  refine ⟨M', ?_, lk⟩
  unfold f_X8_why
  rw [voice_ok hv, xb_s, e, cb_s]
theorem cnts_l (h : CI x M n r q b g c t l) (hI : LI x M r) (hn : n ≤ 512) : ∃ M', f_L_areCounts x (x + 1095) (x + 1096) (agR r) M = some (1, M') ∧ Lk x M M' := by
  have e : ∀ v, v < 3 → ∀ i, i < 20 → mI M (x + 1095) (20 * v + i) = vo r v (sg i) := fun v hv => (hI.1 v hv).1.1
  have f3 : ∀ v, v < 3 → mI M (x + 1096) (3 + v) = vo r v 36 := fun v hv => (hI.1 v hv).1.2.2.1
  have f6 : ∀ v, v < 3 → mI M (x + 1096) (6 + v) = vo r v 37 := fun v hv => (hI.1 v hv).1.2.2.2
  have e6 : mI M (x + 1095) 6 = vo r 0 22 := e 0 (by decide) 6 (by decide)
  have e26 : mI M (x + 1095) 26 = vo r 1 22 := e 1 (by decide) 6 (by decide)
  have e46 : mI M (x + 1095) 46 = vo r 2 22 := e 2 (by decide) 6 (by decide)
  have e5 : mI M (x + 1095) 5 = vo r 0 21 := e 0 (by decide) 5 (by decide)
  have e25 : mI M (x + 1095) 25 = vo r 1 21 := e 1 (by decide) 5 (by decide)
  have e45 : mI M (x + 1095) 45 = vo r 2 21 := e 2 (by decide) 5 (by decide)
  have e19 : mI M (x + 1095) 19 = vo r 0 38 := e 0 (by decide) 19 (by decide)
  have e39 : mI M (x + 1095) 39 = vo r 1 38 := e 1 (by decide) 19 (by decide)
  have e59 : mI M (x + 1095) 59 = vo r 2 38 := e 2 (by decide) 19 (by decide)
  have g3 : mI M (x + 1096) 3 = vo r 0 36 := f3 0 (by decide)
  have g4 : mI M (x + 1096) 4 = vo r 1 36 := f3 1 (by decide)
  have g5 : mI M (x + 1096) 5 = vo r 2 36 := f3 2 (by decide)
  have g6 : mI M (x + 1096) 6 = vo r 0 37 := f6 0 (by decide)
  have g7 : mI M (x + 1096) 7 = vo r 1 37 := f6 1 (by decide)
  have g8 : mI M (x + 1096) 8 = vo r 2 37 := f6 2 (by decide)
  have g13 : mI M (x + 1096) 13 = r 4 := hI.2.2
  have k0 : f_X8_count x 0 M = some (0, r 4, M) := count_T h (j := 0) (by decide)
  have k1 : f_X8_count x 1 M = some (0, suV r 22, M) := count_T h (j := 1) (by decide)
  have k2 : f_X8_count x 2 M = some (0, suV r 21, M) := count_T h (j := 2) (by decide)
  have k3 : f_X8_count x 3 M = some (0, suV r 38, M) := count_T h (j := 3) (by decide)
  have k4 : f_X8_count x 4 M = some (0, suV r 36, M) := count_T h (j := 4) (by decide)
  have k5 : f_X8_count x 5 M = some (0, suV r 37, M) := count_T h (j := 5) (by decide)
  obtain ⟨M', k6, lk⟩ := agree_T h (fun N hN => why_w hN (v := 0) (by decide) (by omega)) (fun N hN => why_w hN (v := 1) (by decide) (by omega)) (fun N hN => why_w hN (v := 2) (by decide) (by omega))
  have k6 : f_X8_count x 6 M = some (0, agR r, M') := k6
  have h2 := h.lk lk
  have eE : mI M' (x + 1095) = mI M (x + 1095) := lk.1 _ (by omega) (by omega) (by omega)
  have eF : mI M' (x + 1096) = mI M (x + 1096) := lk.1 _ (by omega) (by omega) (by omega)
  refine ⟨M', ?_, lk⟩
  unfold f_L_areCounts
  simp (disch := omega) only [nb_s, gdi, nI_clamp, iA_1, iA_2, iA_3, iA_4, iA_5, iA_6, iA_7, iA_8, iA_9, iA_10, iA_11, iA_12, iA_13, iA_14, iA_15, iA_16, iA_17, iA_18, iA_19, iA_20, Ai_1, Ai_2, Ai_3, Ai_5, Ai_6, Ai_9, Ai_16, Mi_8, Mi_16, Mi_20, gl_0, gl_1, gl_2, gl_3, gl_4, gl_5, gl_6, gl_7, gl_8, gl_9, gl_10, gl_11, gl_12, gl_13, cl_0, cl_1, cl_2, cl_3, cl_4, cl_5, cl_6, cl_7, cl_8, cl_9, cl_10, cl_11, cl_12, cl_13, gl_19, cl_19, gl_25, cl_25, gl_26, cl_26, gl_39, cl_39, gl_45, cl_45, gl_46, cl_46, gl_59, cl_59]
  rw [k0, zb_s, g13, gd_s rfl, k1, zb_s, e6, e26, e46, gd_s (show suV r 22 = vo r 0 22 + vo r 1 22 + vo r 2 22 from rfl), k2, zb_s, e5, e25, e45, gd_s (show suV r 21 = vo r 0 21 + vo r 1 21 + vo r 2 21 from rfl), k3, zb_s, e19, e39, e59, gd_s (show suV r 38 = vo r 0 38 + vo r 1 38 + vo r 2 38 from rfl), k4, zb_s, g3, g4, g5, gd_s (show suV r 36 = vo r 0 36 + vo r 1 36 + vo r 2 36 from rfl), k5, zb_s, g6, g7, g8, gd_s (show suV r 37 = vo r 0 37 + vo r 1 37 + vo r 2 37 from rfl), k6, zb_s, gd_s rfl]
  have set : ∀ i, i < 4 → f_X8_setting x (nI i) M' = some (0, r i, M') := fun i hi => setting_T h2 hi
  have go : ∀ d j nn, j + d = 4 → d < nn → f_L_areCounts_b138 x (x + 1095) (x + 1096) (agR r) nn 1 (nI j) M' = some (1, M') := by
    intro d
    induction d with
    | zero =>
      intro j nn hj hfu
      obtain ⟨nn, rfl⟩ : ∃ k, nn = k + 1 := ⟨nn - 1, by omega⟩
      have hj : j = 4 := by omega
      subst hj
      rw [f_L_areCounts_b138, if_pos (by decide)]
      simp (disch := omega) only [nb_s, gdi, nI_clamp, iA_1, iA_2, iA_3, iA_4, iA_5, iA_6, iA_7, iA_8, iA_9, iA_10, iA_11, iA_12, iA_13, iA_14, iA_15, iA_16, iA_17, iA_18, iA_19, iA_20, Ai_1, Ai_2, Ai_3, Ai_5, Ai_6, Ai_9, Ai_16, Mi_8, Mi_16, Mi_20, gl_0, gl_1, gl_2, gl_3, gl_4, gl_5, gl_6, gl_7, gl_8, gl_9, gl_10, gl_11, gl_12, gl_13, cl_0, cl_1, cl_2, cl_3, cl_4, cl_5, cl_6, cl_7, cl_8, cl_9, cl_10, cl_11, cl_12, cl_13, gl_19, cl_19, gl_25, cl_25, gl_26, cl_26, gl_39, cl_39, gl_45, cl_45, gl_46, cl_46, gl_59, cl_59]
      rw [gd_s (by decide), (share_T h2 hn).1, vb_s, eE, eF, e5, e25, e45, g3, g4, g5]
      have hD := (share_T h2 (by omega)).2
      unfold f_L_areCounts_b227
      unfold shareR suV at hD ⊢
      by_cases h0 : vo r 0 21 + vo r 1 21 + vo r 2 21 = 0
      · rw [if_pos h0] at hD ⊢
        rw [if_pos h0, gd_s (by rw [hD.same, cv_eq])]
      · rw [if_neg h0] at hD ⊢
        rw [if_neg h0, gd_s hD.ok, gd_s (by rw [hD.same, cv_eq])]
    | succ d ih =>
      intro j nn hj hfu
      obtain ⟨nn, rfl⟩ : ∃ k, nn = k + 1 := ⟨nn - 1, by omega⟩
      have hs : mI M' (x + 1096) (9 + j) = r j := by rw [eF]; exact hI.2.1 j (by omega)
      rw [f_L_areCounts_b138, if_neg (show ¬ (4 : Int32) ≤ nI j from nI_ge (b := 4) (by omega) (by decide)), gd_s (by decide), set j (by omega), zb_s]
      simp (disch := omega) only [nb_s, gdi, nI_clamp, iA_1, iA_2, iA_3, iA_4, iA_5, iA_6, iA_7, iA_8, iA_9, iA_10, iA_11, iA_12, iA_13, iA_14, iA_15, iA_16, iA_17, iA_18, iA_19, iA_20, Ai_1, Ai_2, Ai_3, Ai_5, Ai_6, Ai_9, Ai_16, Mi_8, Mi_16, Mi_20, gl_0, gl_1, gl_2, gl_3, gl_4, gl_5, gl_6, gl_7, gl_8, gl_9, gl_10, gl_11, gl_12, gl_13, cl_0, cl_1, cl_2, cl_3, cl_4, cl_5, cl_6, cl_7, cl_8, cl_9, cl_10, cl_11, cl_12, cl_13, hs]
      rw [gd_s trivial]
      exact ih (j + 1) nn (by omega) (by omega)
  exact go 4 0 lfuel rfl (by decide)
end LCOUNT
