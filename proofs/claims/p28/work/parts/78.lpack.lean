/-! THE LAW'S OWN VOICES. A packet is made -/
def hdL (v : Nat) (E F : Nat → Int32) : Int32 := if E (20 * v + 5) = 0 then 1 else if E (20 * v + 7) + 1 < F 12 then 0 else 1
def pkE (v q : Nat) (E : Nat → Int32) (hd : Int32) : Nat → Int32 := upd (upd (upd (upd E (20 * v + 7) (if hd = 0 then E (20 * v + 7) + 1 else 0)) (20 * v + 4) 0) (20 * v + 5) (E (20 * v + 5) + 1)) (20 * v + 19) (nI (q + 1))
def pkH (v q : Nat) (E P : Nat → Int32) (hd : Int32) : Nat → Int32 := upd (upd (upd (upd (upd P (16 * q) (E (20 * v + 5))) (16 * q + 1) (E (20 * v + 4))) (16 * q + 2) (if hd = 0 then 0 else 1)) (16 * q + 3) (if hd = 0 then -10000 else E (20 * v + 8))) (16 * q + 4) (if hd = 0 then -10000 else E (20 * v + 9))
def pkC (v q j : Nat) (C P : Nat → Int32) : Nat → Int32 := fun i => if 16 * q + 5 ≤ i ∧ i < 16 * q + 5 + j then C (8 * v + (i - (16 * q + 5))) else P i
section LPACK
variable {v k i u q e f c p n : Nat} {r w w' E E' F F' C C' P P' : Nat → Int32} {x y hd : Int32} {M : Mem}
theorem pk_tail (h : D4 e f c p) (hv : v < 3) (hE : E (20 * v + 19) = nI q) (hq : q ≤ 3) : ∀ d j m, j + d = 8 → d < m → f_L_packs_b154 e f c p (nI v) m (nI (16 * q)) hd (nI j) (T4 e f c p M E F C (pkC v q j C P)) = some (T4 e f c p M (pkE v q E hd) F C (pkC v q 8 C P)) := by
  intro d
  induction d with
  | zero =>
    intro j m hj hm
    obtain ⟨m, rfl⟩ : ∃ k, m = k + 1 := ⟨m - 1, by omega⟩
    have hj : j = 8 := by omega
    subst hj
    rw [f_L_packs_b154, if_pos (show (8 : Int32) ≤ nI 8 by decide)]
    unfold f_L_packs_b216 pkE
    by_cases h0 : hd = 0
    · rw [if_pos h0, if_pos h0]
      simp (disch := omega) only [nb_s, gdi, nI_clamp, iA_1, iA_2, iA_3, iA_4, iA_5, iA_6, iA_7, iA_8, iA_9, iA_10, iA_11, iA_12, iA_13, iA_14, iA_15, iA_16, iA_17, iA_18, iA_19, iA_20, Ai_1, Ai_2, Ai_3, Ai_5, Ai_6, Ai_9, Ai_16, Mi_8, Mi_16, Mi_20, gl_0, gl_1, gl_2, gl_3, gl_4, gl_5, gl_6, gl_7, gl_8, gl_9, gl_10, gl_11, gl_12, gl_13, cl_0, cl_1, cl_2, cl_3, cl_4, cl_5, cl_6, cl_7, cl_8, cl_9, cl_10, cl_11, cl_12, cl_13, T_e h, T_f h, T_c h, T_p, S_e h, S_f h, S_c h, S_p, upd_ne, upd_eq, hE]
    · rw [if_neg h0, if_neg h0]
      simp (disch := omega) only [nb_s, gdi, nI_clamp, iA_1, iA_2, iA_3, iA_4, iA_5, iA_6, iA_7, iA_8, iA_9, iA_10, iA_11, iA_12, iA_13, iA_14, iA_15, iA_16, iA_17, iA_18, iA_19, iA_20, Ai_1, Ai_2, Ai_3, Ai_5, Ai_6, Ai_9, Ai_16, Mi_8, Mi_16, Mi_20, gl_0, gl_1, gl_2, gl_3, gl_4, gl_5, gl_6, gl_7, gl_8, gl_9, gl_10, gl_11, gl_12, gl_13, cl_0, cl_1, cl_2, cl_3, cl_4, cl_5, cl_6, cl_7, cl_8, cl_9, cl_10, cl_11, cl_12, cl_13, T_e h, T_f h, T_c h, T_p, S_e h, S_f h, S_c h, S_p, upd_ne, upd_eq, hE]
  | succ d ih =>
    intro j m hj hm
    obtain ⟨m, rfl⟩ : ∃ k, m = k + 1 := ⟨m - 1, by omega⟩
    rw [f_L_packs_b154, if_neg (show ¬ (8 : Int32) ≤ nI j from nI_ge (b := 8) (by omega) (by decide))]
    simp (disch := omega) only [nb_s, gdi, nI_clamp, iA_1, iA_2, iA_3, iA_4, iA_5, iA_6, iA_7, iA_8, iA_9, iA_10, iA_11, iA_12, iA_13, iA_14, iA_15, iA_16, iA_17, iA_18, iA_19, iA_20, Ai_1, Ai_2, Ai_3, Ai_5, Ai_6, Ai_9, Ai_16, Mi_8, Mi_16, Mi_20, gl_0, gl_1, gl_2, gl_3, gl_4, gl_5, gl_6, gl_7, gl_8, gl_9, gl_10, gl_11, gl_12, gl_13, cl_0, cl_1, cl_2, cl_3, cl_4, cl_5, cl_6, cl_7, cl_8, cl_9, cl_10, cl_11, cl_12, cl_13, T_e h, T_f h, T_c h, T_p, S_e h, S_f h, S_c h, S_p, zA]
    have e1 : upd (pkC v q j C P) (16 * q + 5 + j) (C (8 * v + j)) = pkC v q (j + 1) C P := by
      funext i
      unfold upd pkC
      by_cases h1 : i = 16 * q + 5 + j
      · rw [if_pos h1, if_pos (by omega)]
        congr 1
        omega
      · rw [if_neg h1]
        by_cases h2 : 16 * q + 5 ≤ i ∧ i < 16 * q + 5 + j
        · rw [if_pos h2, if_pos (by omega)]
        · rw [if_neg h2, if_neg (by omega)]
    rw [e1]
    exact ih (j + 1) m (by omega) (by omega)
theorem pk_head (h : D4 e f c p) (hv : v < 3) (hE : E (20 * v + 19) = nI q) (hq : q ≤ 3) : f_L_packs_b51 e f c p (nI v) (nI (16 * q)) hd (T4 e f c p M E F C P) = some (T4 e f c p M (pkE v q E hd) F C (pkC v q 8 C (pkH v q E P hd))) := by
  have tl := fun P => pk_tail (M := M) (F := F) (C := C) (hd := hd) (P := P) h hv hE hq 8 0 lfuel rfl (by decide)
  have e0 : ∀ P, pkC v q 0 C P = P := fun P => by
    funext i
    unfold pkC
    rw [if_neg (by omega)]
  unfold f_L_packs_b51 f_L_packs_b96 f_L_packs_b123 f_L_packs_b150
  unfold pkH
  by_cases h0 : hd = 0
  · simp only [if_pos h0]
    simp (disch := omega) only [nb_s, gdi, nI_clamp, iA_1, iA_2, iA_3, iA_4, iA_5, iA_6, iA_7, iA_8, iA_9, iA_10, iA_11, iA_12, iA_13, iA_14, iA_15, iA_16, iA_17, iA_18, iA_19, iA_20, Ai_1, Ai_2, Ai_3, Ai_5, Ai_6, Ai_9, Ai_16, Mi_8, Mi_16, Mi_20, gl_0, gl_1, gl_2, gl_3, gl_4, gl_5, gl_6, gl_7, gl_8, gl_9, gl_10, gl_11, gl_12, gl_13, cl_0, cl_1, cl_2, cl_3, cl_4, cl_5, cl_6, cl_7, cl_8, cl_9, cl_10, cl_11, cl_12, cl_13, T_e h, T_f h, T_c h, T_p, S_e h, S_f h, S_c h, S_p]
    have t := tl (upd (upd (upd (upd (upd P (16 * q) (E (20 * v + 5))) (16 * q + 1) (E (20 * v + 4))) (16 * q + 2) 0) (16 * q + 3) (-10000)) (16 * q + 4) (-10000))
    rw [e0] at t
    exact t
  · simp only [if_neg h0]
    simp (disch := omega) only [nb_s, gdi, nI_clamp, iA_1, iA_2, iA_3, iA_4, iA_5, iA_6, iA_7, iA_8, iA_9, iA_10, iA_11, iA_12, iA_13, iA_14, iA_15, iA_16, iA_17, iA_18, iA_19, iA_20, Ai_1, Ai_2, Ai_3, Ai_5, Ai_6, Ai_9, Ai_16, Mi_8, Mi_16, Mi_20, gl_0, gl_1, gl_2, gl_3, gl_4, gl_5, gl_6, gl_7, gl_8, gl_9, gl_10, gl_11, gl_12, gl_13, cl_0, cl_1, cl_2, cl_3, cl_4, cl_5, cl_6, cl_7, cl_8, cl_9, cl_10, cl_11, cl_12, cl_13, T_e h, T_f h, T_c h, T_p, S_e h, S_f h, S_c h, S_p]
    have t := tl (upd (upd (upd (upd (upd P (16 * q) (E (20 * v + 5))) (16 * q + 1) (E (20 * v + 4))) (16 * q + 2) 1) (16 * q + 3) (E (20 * v + 8))) (16 * q + 4) (E (20 * v + 9)))
    rw [e0] at t
    exact t
theorem packs_l (h : D4 e f c p) (hv : v < 3) (hE : E (20 * v + 19) = nI q) (hq : q ≤ 3) : f_L_packs e f c p (nI v) (T4 e f c p M E F C P) = some (T4 e f c p M (pkE v q E (hdL v E F)) F C (pkC v q 8 C (pkH v q E P (hdL v E F)))) := by
  unfold f_L_packs f_L_packs_b46
  simp (disch := omega) only [nb_s, gdi, nI_clamp, iA_1, iA_2, iA_3, iA_4, iA_5, iA_6, iA_7, iA_8, iA_9, iA_10, iA_11, iA_12, iA_13, iA_14, iA_15, iA_16, iA_17, iA_18, iA_19, iA_20, Ai_1, Ai_2, Ai_3, Ai_5, Ai_6, Ai_9, Ai_16, Mi_8, Mi_16, Mi_20, gl_0, gl_1, gl_2, gl_3, gl_4, gl_5, gl_6, gl_7, gl_8, gl_9, gl_10, gl_11, gl_12, gl_13, cl_0, cl_1, cl_2, cl_3, cl_4, cl_5, cl_6, cl_7, cl_8, cl_9, cl_10, cl_11, cl_12, cl_13, T_e h, T_f h, T_c h, T_p, S_e h, S_f h, S_c h, S_p, hE]
  unfold hdL
  by_cases h5 : E (20 * v + 5) = 0
  · simp only [if_pos h5]
    exact pk_head h hv hE hq
  · simp only [if_neg h5]
    by_cases h7 : E (20 * v + 7) + 1 < F 12
    · simp only [if_pos h7]
      exact pk_head h hv hE hq
    · simp only [if_neg h7]
      exact pk_head h hv hE hq
theorem pkE_FE : FE v E (pkE v q E hd) := (((FE.rf.up (by decide)).up (by decide)).up (by decide)).up (by decide)
theorem hdL_r (hE : LE v w E) (hF : F 12 = r 3) : hdL v E F = zHas r w := by
  unfold hdL zHas
  have e5 : E (20 * v + 5) = w 21 := hE 5 (by decide)
  have e7 : E (20 * v + 7) = w 23 := hE 7 (by decide)
  rw [e5, e7, hF]
theorem LV.packs (h : LV v w E F C P) (h38 : w 38 = nI q) (hq : q ≤ 3) (hF : F 12 = r 3) : LV v (zMP r w) (pkE v q E (hdL v E F)) F C (pkC v q 8 C (pkH v q E P (hdL v E F))) := by
  obtain ⟨⟨hE, hW⟩, ⟨s, s8, s4, sc⟩, W, hW4, w38, hP⟩ := h
  have eW : W = q := (nI_eq (by omega) (by omega)).mp (w38.symm.trans h38)
  subst eW
  rw [hdL_r hE hF]
  have z38 : zMP r w 38 = nI (W + 1) := by rw [zMP_v h38 (by omega) 38 (by decide), if_pos rfl]
  have z21 : zMP r w 21 = w 21 + 1 := by rw [zMP_v h38 (by omega) 21 (by decide), if_neg (by decide), if_pos rfl]
  have z4 : zMP r w 4 = 0 := by rw [zMP_v h38 (by omega) 4 (by decide), if_neg (by decide), if_neg (by decide), if_pos rfl]
  have z23 : zMP r w 23 = if zHas r w = 0 then w 23 + 1 else 0 := by rw [zMP_v h38 (by omega) 23 (by decide), if_neg (by decide), if_neg (by decide), if_neg (by decide), if_pos rfl]
  have lo : ∀ i, i < 39 → i ≠ 38 → i ≠ 21 → i ≠ 4 → i ≠ 23 → (i < 5 ∨ 21 ≤ i) → zMP r w i = w i := fun i h1 h2 h3 h4 h5 h6 => zMP_lo h38 (by omega) h1 h2 h3 h4 h5 h6
  generalize hz : zHas r w = hd at *
  refine ⟨⟨fun i hi => ?_, ⟨hW.1.trans (lo 35 (by decide) (by decide) (by decide) (by decide) (by decide) (by decide)).symm, hW.2.1.trans (lo 36 (by decide) (by decide) (by decide) (by decide) (by decide) (by decide)).symm, hW.2.2.trans (lo 37 (by decide) (by decide) (by decide) (by decide) (by decide) (by decide)).symm⟩⟩, ⟨0, by omega, z4, fun j hj => absurd hj (Nat.not_lt_zero j)⟩, W + 1, by omega, z38, fun j hj => ?_⟩
  · have e5 : E (20 * v + 5) = w 21 := hE 5 (by decide)
    have e7 : E (20 * v + 7) = w 23 := hE 7 (by decide)
    unfold pkE
    by_cases i19 : i = 19
    · subst i19
      rw [upd_eq]
      exact z38.symm
    · rw [upd_ne (by omega)]
      by_cases i5 : i = 5
      · subst i5
        rw [upd_eq, e5]
        exact z21.symm
      · rw [upd_ne (by omega)]
        by_cases i4 : i = 4
        · subst i4
          rw [upd_eq]
          exact z4.symm
        · rw [upd_ne (by omega)]
          by_cases i7 : i = 7
          · subst i7
            rw [upd_eq, e7]
            exact z23.symm
          · rw [upd_ne (by omega), hE i hi]
            have k : ∀ i, i < 20 → i = 19 ∨ i = 5 ∨ i = 4 ∨ i = 7 ∨ (sg i < 39 ∧ sg i ≠ 38 ∧ sg i ≠ 21 ∧ sg i ≠ 4 ∧ sg i ≠ 23 ∧ (sg i < 5 ∨ 21 ≤ sg i)) := by decide
            obtain ⟨k1, k2, k3, k4, k5, k6⟩ := ((((k i hi).resolve_left i19).resolve_left i5).resolve_left i4).resolve_left i7
            exact (lo _ k1 k2 k3 k4 k5 k6).symm
  · by_cases hjW : j < W
    · refine (hP j hjW).congr (fun i hi => ?_) fun i hi => ?_
      · rw [zMP_v h38 (by omega) _ (by omega), if_neg (by omega), if_neg (by omega), if_neg (by omega), if_neg (by omega), if_neg (by omega), if_neg (by omega), if_neg (by omega), if_neg (by omega), if_neg (by omega), if_neg (by omega), if_neg (by omega)]
      · unfold pkC pkH
        rw [if_neg (by omega), upd_ne (by omega), upd_ne (by omega), upd_ne (by omega), upd_ne (by omega), upd_ne (by omega)]
    · have hj : j = W := by omega
      subst hj
      have zz : ∀ i, i < 21 → zMP r w (39 + 21 * j + i) = if 5 ≤ i then w i else if i = 4 then (if hd = 0 then -10000 else w 25) else if i = 3 then (if hd = 0 then -10000 else w 24) else if i = 2 then (if hd = 0 then 0 else 1) else if i = 1 then w 4 else w 21 := by
        intro i hi
        rw [zMP_v h38 (by omega) _ (by omega), if_neg (by omega), if_neg (by omega), if_neg (by omega), if_neg (by omega), hz]
        by_cases h5 : 5 ≤ i
        · rw [if_pos (by omega), if_pos h5, show 39 + 21 * j + i - (39 + 21 * j) = i by omega]
        · rw [if_neg (by omega), if_neg h5, if_neg (by omega)]
          by_cases h4 : i = 4
          · rw [if_pos (by omega), if_pos h4]
          · rw [if_neg (by omega), if_neg h4]
            by_cases h3 : i = 3
            · rw [if_pos (by omega), if_pos h3]
            · rw [if_neg (by omega), if_neg h3]
              by_cases h2 : i = 2
              · rw [if_pos (by omega), if_pos h2]
              · rw [if_neg (by omega), if_neg h2]
                by_cases h1 : i = 1
                · rw [if_pos (by omega), if_pos h1]
                · rw [if_neg (by omega), if_neg h1, if_pos (by omega)]
      have e4 : E (20 * v + 4) = w 4 := hE 4 (by decide)
      have e5 : E (20 * v + 5) = w 21 := hE 5 (by decide)
      have e8 : E (20 * v + 8) = w 24 := hE 8 (by decide)
      have e9 : E (20 * v + 9) = w 25 := hE 9 (by decide)
      refine ⟨⟨?_, ?_, ?_, ?_, ?_⟩, s, s8, ?_, fun i hi => ⟨?_, ?_⟩⟩
      · show pkC v j 8 C (pkH v j E P hd) (16 * j) = zMP r w (39 + 21 * j + 0)
        rw [zz 0 (by omega)]
        unfold pkC pkH
        rw [if_neg (by omega), upd_ne (by omega), upd_ne (by omega), upd_ne (by omega), upd_ne (by omega), upd_eq, e5]
        rfl
      · show pkC v j 8 C (pkH v j E P hd) (16 * j + 1) = zMP r w (39 + 21 * j + 1)
        rw [zz 1 (by omega)]
        unfold pkC pkH
        rw [if_neg (by omega), upd_ne (by omega), upd_ne (by omega), upd_ne (by omega), upd_eq, e4]
        rfl
      · show pkC v j 8 C (pkH v j E P hd) (16 * j + 2) = zMP r w (39 + 21 * j + 2)
        rw [zz 2 (by omega)]
        unfold pkC pkH
        rw [if_neg (by omega), upd_ne (by omega), upd_ne (by omega), upd_eq]
        rfl
      · show pkC v j 8 C (pkH v j E P hd) (16 * j + 3) = zMP r w (39 + 21 * j + 3)
        rw [zz 3 (by omega)]
        unfold pkC pkH
        rw [if_neg (by omega), upd_ne (by omega), upd_eq, e8]
        rfl
      · show pkC v j 8 C (pkH v j E P hd) (16 * j + 4) = zMP r w (39 + 21 * j + 4)
        rw [zz 4 (by omega)]
        unfold pkC pkH
        rw [if_neg (by omega), upd_eq, e9]
        rfl
      · show zMP r w (39 + 21 * j + 1) = nI s
        rw [zz 1 (by omega)]
        exact s4
      · show pkC v j 8 C (pkH v j E P hd) (16 * j + 5 + i) = cm (zMP r w (39 + 21 * j + (5 + i))) (zMP r w (39 + 21 * j + (13 + i)))
        rw [zz _ (by omega), zz _ (by omega), if_pos (by omega), if_pos (by omega)]
        unfold pkC
        rw [if_pos (by omega), show 16 * j + 5 + i - (16 * j + 5) = i by omega]
        exact (sc i hi).1
      · show c16 (zMP r w (39 + 21 * j + (5 + i)))
        rw [zz _ (by omega), if_pos (by omega)]
        exact (sc i hi).2
end LPACK
