/-! THE LAW. What holds between turns; the numbers of a voice agree -/
def LI (x : Nat) (M : Mem) (r : Nat → Int32) : Prop := (∀ v, v < 3 → LV v (vo r v) (mI M (x + 1095)) (mI M (x + 1096)) (mI M (x + 1097)) (mI M (x + 1098 + v))) ∧ (∀ i, i < 4 → mI M (x + 1096) (9 + i) = r i) ∧ mI M (x + 1096) 13 = r 4
section LVOICE
variable {M M1 M' N : Mem} {x a e s d n m c l v j k i u : Nat} {r q w w' t f : Nat → Int32} {g : Nat → Nat → Int32} {b : Bool} {y p p1 p2 p3 z : Int32} {E F C P : Nat → Int32}
theorem LI.same (h : LI x M r) (hb : ∀ b, x + 1095 ≤ b → mI M' b = mI M b) : LI x M' r := by
  refine ⟨fun v hv => ?_, fun i hi => ?_, ?_⟩
  · rw [hb _ (by omega), hb _ (by omega), hb _ (by omega), hb _ (by omega)]
    exact h.1 v hv
  · rw [hb _ (by omega)]
    exact h.2.1 i hi
  · rw [hb _ (by omega)]
    exact h.2.2
theorem LI.lk (h : LI x M r) (hk : Lk x M M') : LI x M' r := h.same fun b hb => hk.1 b (by omega) (by omega) (by omega)
theorem LI.out (h : LI x M r) (hk : Out x M M') : LI x M' r := h.same fun b hb => hk.1 b (by omega)
theorem CI.law (h : CI x M n r q b g c t l) (hb : ∀ b, b < x + 1095 → mI M' b = mI M b) (h2 : M'.2 = M.2) : CI x M' n r q b g c t l := h.fr (fun b _ h2 _ _ _ _ => hb b h2) (fun b _ _ => mR_of2 h2) (by rw [hb _ (by omega)])
theorem step_e {i : Int32} (hi : ∃ n, n < 25 ∧ i = nI n) : f_L_step i N = some (cSTEPS i.toNatClampNeg) := by
  obtain ⟨n, hn, rfl⟩ := hi
  rw [step_v hn, nI_clamp (by omega)]
/-- the packets told -/
theorem codes_go {K : Int32 → Int32 → Int32 → Mem → Option (Int32 × Mem)} {pa qq rk : Nat} {x6 : Int32} (hrk : rk < 4) (hq : qq ≤ 8) {P u : Nat → Int32} (hP : mI M pa = P) (h1 : P (16 * rk + 1) = nI qq) (hc : ∀ j, j < qq → P (16 * rk + 5 + j) = cm (u (5 + j)) (u (13 + j)) ∧ c16 (u (5 + j))) (hm : ∀ j, j < 8 → B2 (u (13 + j))) {a1 a2 a3 : Nat} : ∀ (d j nn : Nat) (y : Int32), j + d = qq → d < nn → f_L_isVoice_b426 a a1 a2 a3 pa p K nn x6 (nI rk) y (nI j) M = f_L_isVoice_b426 a a1 a2 a3 pa p K 1 x6 (nI rk) (zOne u d j y) (nI qq) M := by
  intro d
  induction d with
  | zero =>
    intro j nn y hj hn
    obtain ⟨nn, rfl⟩ : ∃ k, nn = k + 1 := ⟨nn - 1, by omega⟩
    have hj : j = qq := by omega
    subst hj
    rw [f_L_isVoice_b426, f_L_isVoice_b426]
    simp (disch := omega) only [nb_s, gdi, nI_clamp, iA_1, iA_2, iA_3, iA_4, iA_5, iA_6, iA_7, iA_8, iA_9, iA_10, iA_11, iA_12, iA_13, iA_14, iA_15, iA_16, iA_17, iA_18, iA_19, iA_20, Ai_1, Ai_2, Ai_3, Ai_5, Ai_6, Ai_9, Ai_16, Mi_8, Mi_16, Mi_20, gl_0, gl_1, gl_2, gl_3, gl_4, gl_5, gl_6, gl_7, gl_8, gl_9, gl_10, gl_11, gl_12, gl_13, cl_0, cl_1, cl_2, cl_3, cl_4, cl_5, cl_6, cl_7, cl_8, cl_9, cl_10, cl_11, cl_12, cl_13, hP, h1]
    rw [if_pos (nI_le (Nat.le_refl _) (by omega)), if_pos (nI_le (Nat.le_refl _) (by omega))]
    rfl
  | succ d ih =>
    intro j nn y hj hn
    obtain ⟨nn, rfl⟩ : ∃ k, nn = k + 1 := ⟨nn - 1, by omega⟩
    rw [f_L_isVoice_b426]
    obtain ⟨hp1, hp2⟩ := hc j (by omega)
    simp (disch := omega) only [nb_s, gdi, nI_clamp, iA_1, iA_2, iA_3, iA_4, iA_5, iA_6, iA_7, iA_8, iA_9, iA_10, iA_11, iA_12, iA_13, iA_14, iA_15, iA_16, iA_17, iA_18, iA_19, iA_20, Ai_1, Ai_2, Ai_3, Ai_5, Ai_6, Ai_9, Ai_16, Mi_8, Mi_16, Mi_20, gl_0, gl_1, gl_2, gl_3, gl_4, gl_5, gl_6, gl_7, gl_8, gl_9, gl_10, gl_11, gl_12, gl_13, cl_0, cl_1, cl_2, cl_3, cl_4, cl_5, cl_6, cl_7, cl_8, cl_9, cl_10, cl_11, cl_12, cl_13, hP, h1, zA, hp1]
    rw [if_neg (nI_ge (by omega) (by omega)), gd_s (by decide), cm_c hp2 (hm j (by omega))]
    exact ih (j + 1) nn _ (by omega) (by omega)
theorem isv_l (h : CI x M n r q b g c t l) (hI : LI x M r) (hv : v < 3) (hn : n ≤ 512) : ∃ M', f_L_isVoice x (x + 1095) (x + 1096) (x + 1097) (x + 1098 + v) (nI v) M = some (1, M') ∧ Lk x M M' := by
  obtain ⟨⟨hE, hW1, hW2, hW3⟩, hC, hQ⟩ := hI.1 v hv
  obtain ⟨hV, hWR, hB, hS, hR⟩ := h.rv hv
  have e0 : mI M (x + 1095) (20 * v) = vo r v 0 := hE 0 (by decide)
  have e1 : mI M (x + 1095) (20 * v + 1) = vo r v 1 := hE 1 (by decide)
  have e2 : mI M (x + 1095) (20 * v + 2) = vo r v 2 := hE 2 (by decide)
  have e3 : mI M (x + 1095) (20 * v + 3) = vo r v 3 := hE 3 (by decide)
  have e4 : mI M (x + 1095) (20 * v + 4) = vo r v 4 := hE 4 (by decide)
  have e5 : mI M (x + 1095) (20 * v + 5) = vo r v 21 := hE 5 (by decide)
  have e6 : mI M (x + 1095) (20 * v + 6) = vo r v 22 := hE 6 (by decide)
  have e10 : mI M (x + 1095) (20 * v + 10) = vo r v 26 := hE 10 (by decide)
  have e11 : mI M (x + 1095) (20 * v + 11) = vo r v 27 := hE 11 (by decide)
  have e12 : mI M (x + 1095) (20 * v + 12) = vo r v 28 := hE 12 (by decide)
  have e13 : mI M (x + 1095) (20 * v + 13) = vo r v 29 := hE 13 (by decide)
  have e14 : mI M (x + 1095) (20 * v + 14) = vo r v 30 := hE 14 (by decide)
  have e15 : mI M (x + 1095) (20 * v + 15) = vo r v 31 := hE 15 (by decide)
  have e16 : mI M (x + 1095) (20 * v + 16) = vo r v 32 := hE 16 (by decide)
  have e17 : mI M (x + 1095) (20 * v + 17) = vo r v 33 := hE 17 (by decide)
  have e18 : mI M (x + 1095) (20 * v + 18) = vo r v 34 := hE 18 (by decide)
  have e19 : mI M (x + 1095) (20 * v + 19) = vo r v 38 := hE 19 (by decide)
  generalize hEe : mI M (x + 1095) = E at *
  generalize hFf : mI M (x + 1096) = F at *
  generalize hPp : mI M (x + 1098 + v) = P at *
  obtain ⟨i0, hi0, ei0⟩ := hB.1.1.1.2
  obtain ⟨i1, hi1, ei1⟩ := hB.1.2.2
  obtain ⟨W, hW4, w38, hPk⟩ := hQ
  obtain ⟨Wb, hWb8, wb38, hwp⟩ := hB.2.2
  have eWb : Wb = W := (nI_eq (by omega) (by omega)).mp (wb38.symm.trans w38)
  subst eWb
  obtain ⟨S0, s0, k0⟩ := saying_T (h) hv (j := 0) (by decide)
  have lk0 := k0
  have s0 : f_X8_saying x (nI v) 0 M = some (0, sayR (vo r v) 0, S0) := s0
  have E0 : mI S0 (x + 1095) = E := (lk0.1 _ (by omega) (by omega) (by omega)).trans hEe
  obtain ⟨S1, s1, k1⟩ := saying_T (h.lk lk0) hv (j := 1) (by decide)
  have lk1 := lk0.trans k1
  have s1 : f_X8_saying x (nI v) 1 S0 = some (0, sayR (vo r v) 1, S1) := s1
  have E1 : mI S1 (x + 1095) = E := (lk1.1 _ (by omega) (by omega) (by omega)).trans hEe
  obtain ⟨S2, s2, k2⟩ := saying_T (h.lk lk1) hv (j := 2) (by decide)
  have lk2 := lk1.trans k2
  have s2 : f_X8_saying x (nI v) 2 S1 = some (0, sayR (vo r v) 2, S2) := s2
  have E2 : mI S2 (x + 1095) = E := (lk2.1 _ (by omega) (by omega) (by omega)).trans hEe
  obtain ⟨S3, s3, k3⟩ := saying_T (h.lk lk2) hv (j := 3) (by decide)
  have lk3 := lk2.trans k3
  have s3 : f_X8_saying x (nI v) 3 S2 = some (0, sayR (vo r v) 3, S3) := s3
  have E3 : mI S3 (x + 1095) = E := (lk3.1 _ (by omega) (by omega) (by omega)).trans hEe
  obtain ⟨S4, s4, k4⟩ := saying_T (h.lk lk3) hv (j := 4) (by decide)
  have lk4 := lk3.trans k4
  have s4 : f_X8_saying x (nI v) 4 S3 = some (0, sayR (vo r v) 4, S4) := s4
  have E4 : mI S4 (x + 1095) = E := (lk4.1 _ (by omega) (by omega) (by omega)).trans hEe
  obtain ⟨S5, s5, k5⟩ := saying_T (h.lk lk4) hv (j := 5) (by decide)
  have lk5 := lk4.trans k5
  have s5 : f_X8_saying x (nI v) 5 S4 = some (0, sayR (vo r v) 5, S5) := s5
  have E5 : mI S5 (x + 1095) = E := (lk5.1 _ (by omega) (by omega) (by omega)).trans hEe
  obtain ⟨S6, s6, k6⟩ := saying_T (h.lk lk5) hv (j := 6) (by decide)
  have lk6 := lk5.trans k6
  have s6 : f_X8_saying x (nI v) 6 S5 = some (0, sayR (vo r v) 6, S6) := s6
  have E6 : mI S6 (x + 1095) = E := (lk6.1 _ (by omega) (by omega) (by omega)).trans hEe
  obtain ⟨S7, s7, k7⟩ := saying_T (h.lk lk6) hv (j := 7) (by decide)
  have lk7 := lk6.trans k7
  have s7 : f_X8_saying x (nI v) 7 S6 = some (0, sayR (vo r v) 7, S7) := s7
  have E7 : mI S7 (x + 1095) = E := (lk7.1 _ (by omega) (by omega) (by omega)).trans hEe
  obtain ⟨S8, s8, k8⟩ := saying_T (h.lk lk7) hv (j := 8) (by decide)
  have lk8 := lk7.trans k8
  have s8 : f_X8_saying x (nI v) 8 S7 = some (0, sayR (vo r v) 8, S8) := s8
  have E8 : mI S8 (x + 1095) = E := (lk8.1 _ (by omega) (by omega) (by omega)).trans hEe
  obtain ⟨S9, s9, k9⟩ := saying_T (h.lk lk8) hv (j := 9) (by decide)
  have lk9 := lk8.trans k9
  have s9 : f_X8_saying x (nI v) 9 S8 = some (0, sayR (vo r v) 9, S9) := s9
  have E9 : mI S9 (x + 1095) = E := (lk9.1 _ (by omega) (by omega) (by omega)).trans hEe
  have hL := h.lk lk9
  have F9 : mI S9 (x + 1096) = F := (lk9.1 _ (by omega) (by omega) (by omega)).trans hFf
  have P9 : mI S9 (x + 1098 + v) = P := (lk9.1 _ (by omega) (by omega) (by omega)).trans hPp
  have h0 : f_X8_hearing x (nI v) 0 S9 = some (0, hearR (vo r v) 0, S9) := hearing_T hL hv (j := 0) (by decide)
  have h1 : f_X8_hearing x (nI v) 1 S9 = some (0, hearR (vo r v) 1, S9) := hearing_T hL hv (j := 1) (by decide)
  have h2 : f_X8_hearing x (nI v) 2 S9 = some (0, hearR (vo r v) 2, S9) := hearing_T hL hv (j := 2) (by decide)
  have h3 : f_X8_hearing x (nI v) 3 S9 = some (0, hearR (vo r v) 3, S9) := hearing_T hL hv (j := 3) (by decide)
  have h4 : f_X8_hearing x (nI v) 4 S9 = some (0, hearR (vo r v) 4, S9) := hearing_T hL hv (j := 4) (by decide)
  have h5 : f_X8_hearing x (nI v) 5 S9 = some (0, hearR (vo r v) 5, S9) := hearing_T hL hv (j := 5) (by decide)
  have h6 : f_X8_hearing x (nI v) 6 S9 = some (0, hearR (vo r v) 6, S9) := hearing_T hL hv (j := 6) (by decide)
  have h7 : f_X8_hearing x (nI v) 7 S9 = some (0, hearR (vo r v) 7, S9) := hearing_T hL hv (j := 7) (by decide)
  have h8 : f_X8_hearing x (nI v) 8 S9 = some (0, hearR (vo r v) 8, S9) := hearing_T hL hv (j := 8) (by decide)
  have h9 : f_X8_hearing x (nI v) 9 S9 = some (0, hearR (vo r v) 9, S9) := hearing_T hL hv (j := 9) (by decide)
  have h10 : f_X8_hearing x (nI v) 10 S9 = some (0, hearR (vo r v) 10, S9) := hearing_T hL hv (j := 10) (by decide)
  have h11 : f_X8_hearing x (nI v) 11 S9 = some (0, hearR (vo r v) 11, S9) := hearing_T hL hv (j := 11) (by decide)
  have mean := mean_T hL hn hv
  unfold f_L_isVoice
  simp (disch := omega) only [nb_s, gdi, nI_clamp, iA_1, iA_2, iA_3, iA_4, iA_5, iA_6, iA_7, iA_8, iA_9, iA_10, iA_11, iA_12, iA_13, iA_14, iA_15, iA_16, iA_17, iA_18, iA_19, iA_20, Ai_1, Ai_2, Ai_3, Ai_5, Ai_6, Ai_9, Ai_16, Mi_8, Mi_16, Mi_20, gl_0, gl_1, gl_2, gl_3, gl_4, gl_5, gl_6, gl_7, gl_8, gl_9, gl_10, gl_11, gl_12, gl_13, cl_0, cl_1, cl_2, cl_3, cl_4, cl_5, cl_6, cl_7, cl_8, cl_9, cl_10, cl_11, cl_12, cl_13]
  rw [s0, zb_s, E0, gd_s (show sayR (vo r v) 0 = E (20 * v) from e0.symm)]
  rw [s1, zb_s, E1, gd_s (show sayR (vo r v) 1 = E (20 * v + 1) from e1.symm)]
  rw [s2, zb_s, E2, e1, step_e ⟨i0, hi0, ei0⟩, vb_s, gd_s (show sayR (vo r v) 2 = cSTEPS (vo r v 1).toNatClampNeg from rfl)]
  rw [s3, zb_s, E3, gd_s (show sayR (vo r v) 3 = E (20 * v + 2) from e2.symm)]
  rw [s4, zb_s, E4, gd_s (show sayR (vo r v) 4 = E (20 * v + 3) from e3.symm)]
  rw [s5, zb_s, E5, gd_s (show sayR (vo r v) 5 = E (20 * v + 4) from e4.symm)]
  rw [s6, zb_s, E6, gd_s (show sayR (vo r v) 6 = E (20 * v + 5) from e5.symm)]
  rw [s7, zb_s, E7, gd_s (show sayR (vo r v) 7 = E (20 * v + 6) from e6.symm)]
  rw [s8, zb_s, E8, gd_s (show sayR (vo r v) 8 = E (20 * v) from e0.symm)]
  rw [s9, zb_s, E9, gd_s (show sayR (vo r v) 9 = E (20 * v + 19) from e19.symm)]
  rw [gd_s (by decide)]
  rw [h0, zb_s, E9, gd_s (show hearR (vo r v) 0 = E (20 * v + 10) from e10.symm)]
  rw [h1, zb_s, E9, gd_s (show hearR (vo r v) 1 = E (20 * v + 11) from e11.symm)]
  rw [h2, zb_s, E9, e11, step_e ⟨i1, hi1, ei1⟩, vb_s, gd_s (show hearR (vo r v) 2 = cSTEPS (vo r v 27).toNatClampNeg from rfl)]
  rw [h3, zb_s, E9, gd_s (show hearR (vo r v) 3 = E (20 * v + 12) from e12.symm)]
  rw [h4, zb_s, E9, gd_s (show hearR (vo r v) 4 = E (20 * v + 13) from e13.symm)]
  rw [h5, zb_s, E9, gd_s (show hearR (vo r v) 5 = E (20 * v + 14) from e14.symm)]
  rw [h6, zb_s, E9, gd_s (show hearR (vo r v) 6 = E (20 * v + 15) from e15.symm)]
  rw [h7, zb_s, E9, gd_s (show hearR (vo r v) 7 = E (20 * v + 16) from e16.symm)]
  rw [h8, zb_s, E9, gd_s (show hearR (vo r v) 8 = E (20 * v + 17) from e17.symm)]
  rw [h9, zb_s, E9, gd_s (show hearR (vo r v) 9 = E (20 * v + 18) from e18.symm)]
  rw [h10, zb_s, F9, gd_s (show hearR (vo r v) 10 = F v from hW1.symm)]
  rw [h11, zb_s, F9, gd_s (show hearR (vo r v) 11 = F (3 + v) from hW2.symm)]
  have go : ∀ d j nn, j + d = Wb → d < nn → f_L_isVoice_b403 x (x + 1095) (x + 1096) (x + 1097) (x + 1098 + v) (nI v) nn (nI (20 * v)) 1 (nI j) S9 = some (1, S9) := by
    intro d
    induction d with
    | zero =>
      intro j nn hj hn
      obtain ⟨nn, rfl⟩ : ∃ k, nn = k + 1 := ⟨nn - 1, by omega⟩
      have hj : j = Wb := by omega
      subst hj
      rw [f_L_isVoice_b403]
      simp (disch := omega) only [nb_s, gdi, nI_clamp, iA_1, iA_2, iA_3, iA_4, iA_5, iA_6, iA_7, iA_8, iA_9, iA_10, iA_11, iA_12, iA_13, iA_14, iA_15, iA_16, iA_17, iA_18, iA_19, iA_20, Ai_1, Ai_2, Ai_3, Ai_5, Ai_6, Ai_9, Ai_16, Mi_8, Mi_16, Mi_20, gl_0, gl_1, gl_2, gl_3, gl_4, gl_5, gl_6, gl_7, gl_8, gl_9, gl_10, gl_11, gl_12, gl_13, cl_0, cl_1, cl_2, cl_3, cl_4, cl_5, cl_6, cl_7, cl_8, cl_9, cl_10, cl_11, cl_12, cl_13, E9, e19, w38]
      rw [if_pos (nI_le (Nat.le_refl _) (by omega)), gd_s (by decide), mean.1, zb_s]
      simp only [E9, e13, e17]
      unfold f_L_isVoice_b648
      have hD := mean.2
      unfold meanR at hD ⊢
      by_cases h0 : vo r v 29 = 0
      · rw [if_pos h0] at hD ⊢
        rw [if_pos h0, gd_s (by rw [hD.same, cv_eq])]
      · rw [if_neg h0] at hD ⊢
        rw [if_neg h0, gd_s hD.ok, gd_s (by rw [hD.same, cv_eq])]
    | succ d ih =>
      intro j nn hj hn
      obtain ⟨nn, rfl⟩ : ∃ k, nn = k + 1 := ⟨nn - 1, by omega⟩
      obtain ⟨⟨p0, p1, p2, p3, p4⟩, qq, hq8, u1, pc⟩ := hPk j (by omega)
      obtain ⟨-, -, hmn, -⟩ := hwp j (by omega)
      rw [f_L_isVoice_b403]
      simp (disch := omega) only [nb_s, gdi, nI_clamp, iA_1, iA_2, iA_3, iA_4, iA_5, iA_6, iA_7, iA_8, iA_9, iA_10, iA_11, iA_12, iA_13, iA_14, iA_15, iA_16, iA_17, iA_18, iA_19, iA_20, Ai_1, Ai_2, Ai_3, Ai_5, Ai_6, Ai_9, Ai_16, Mi_8, Mi_16, Mi_20, gl_0, gl_1, gl_2, gl_3, gl_4, gl_5, gl_6, gl_7, gl_8, gl_9, gl_10, gl_11, gl_12, gl_13, cl_0, cl_1, cl_2, cl_3, cl_4, cl_5, cl_6, cl_7, cl_8, cl_9, cl_10, cl_11, cl_12, cl_13, E9, e19, w38]
      rw [if_neg (nI_ge (by omega) (by omega)), gd_s (by decide), show (0 : Int32) = nI 0 from rfl, codes_go (u := fun i => vo r v (39 + 21 * j + i)) (by omega) hq8 P9 (p1.trans u1) pc hmn qq 0 lfuel _ (by omega) (by unfold lfuel; omega), f_L_isVoice_b426]
      have pk : ∀ i, i ≤ 5 → f_X8_packet x (nI v) (nI j) (nI i) S9 = some (0, pkR (fun i => vo r v (39 + 21 * j + i)) qq i, S9) := fun i hi => packet_T hL hv w38 (by omega) (by omega) hi u1 hq8
      have pk0 : f_X8_packet x (nI v) (nI j) 0 S9 = some (0, vo r v (39 + 21 * j + 0), S9) := pk 0 (by decide)
      have pk1 : f_X8_packet x (nI v) (nI j) 1 S9 = some (0, vo r v (39 + 21 * j + 1), S9) := pk 1 (by decide)
      have pk2 : f_X8_packet x (nI v) (nI j) 2 S9 = some (0, vo r v (39 + 21 * j + 2), S9) := pk 2 (by decide)
      have pk3 : f_X8_packet x (nI v) (nI j) 3 S9 = some (0, vo r v (39 + 21 * j + 3), S9) := pk 3 (by decide)
      have pk4 : f_X8_packet x (nI v) (nI j) 4 S9 = some (0, vo r v (39 + 21 * j + 4), S9) := pk 4 (by decide)
      have pk5 : f_X8_packet x (nI v) (nI j) 5 S9 = some (0, zOne (fun i => vo r v (39 + 21 * j + i)) qq 0 0, S9) := pk 5 (by decide)
      simp (disch := omega) only [nb_s, gdi, nI_clamp, iA_1, iA_2, iA_3, iA_4, iA_5, iA_6, iA_7, iA_8, iA_9, iA_10, iA_11, iA_12, iA_13, iA_14, iA_15, iA_16, iA_17, iA_18, iA_19, iA_20, Ai_1, Ai_2, Ai_3, Ai_5, Ai_6, Ai_9, Ai_16, Mi_8, Mi_16, Mi_20, gl_0, gl_1, gl_2, gl_3, gl_4, gl_5, gl_6, gl_7, gl_8, gl_9, gl_10, gl_11, gl_12, gl_13, cl_0, cl_1, cl_2, cl_3, cl_4, cl_5, cl_6, cl_7, cl_8, cl_9, cl_10, cl_11, cl_12, cl_13, P9, p1.trans u1]
      rw [if_pos (nI_le (Nat.le_refl _) (by omega)), show (nI 0 : Int32) = 0 from rfl, pk0, zb_s, P9, gd_s p0.symm, pk1, zb_s, P9, gd_s p1.symm, pk2, zb_s, P9, gd_s p2.symm, pk3, zb_s, P9, gd_s p3.symm, pk4, zb_s, P9, gd_s p4.symm, pk5, zb_s, gd_s rfl]
      exact ih (j + 1) nn (by omega) (by omega)
  exact ⟨S9, go Wb 0 lfuel (by omega) (by unfold lfuel; omega), lk9⟩
end LVOICE
