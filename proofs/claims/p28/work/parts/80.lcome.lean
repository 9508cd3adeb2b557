/-! THE LAW'S OWN VOICES. A packet comes -/
section LCOME
variable {v k i u q e f c p n A m s : Nat} {r w w' y E E' F F' C C' P P' T : Nat → Int32} {x z mi : Int32} {M : Mem}
theorem zH_28 {cc : Int32} : zH T (upd w 28 z) cc mi = upd (zH T w cc mi) 28 z := by
  funext i
  by_cases h : i = 28
  · subst h
    rw [upd_eq, zH_v, if_neg (by decide), if_neg (by decide), if_neg (by decide), if_neg (by decide), if_neg (by decide), if_neg (by decide), upd_eq]
  · rw [upd_ne h, zH_v, zH_v]
    simp (disch := omega) only [upd_ne]
theorem zHs_28 : ∀ (d j : Nat) (w : Nat → Int32), zHs T d j (upd w 28 z) = upd (zHs T d j w) 28 z := by
  intro d
  induction d with
  | zero => intro j w; rfl
  | succ d ih =>
    intro j w
    show zHs T d (j + 1) (zH T (upd w 28 z) (upd w 28 z (44 + j)) (upd w 28 z (52 + j))) = upd (zHs T d (j + 1) (zH T w (w (44 + j)) (w (52 + j)))) 28 z
    rw [upd_ne (by omega), upd_ne (by omega), zH_28, ih]
theorem LE.tk (h : LE v y E) (h38 : y 38 = nI (k + 1)) : LE v (zTk y) (upd E (20 * v + 19) (nI k)) := by
  refine (h.up (k := 19) (x := nI k) (by decide)).congr fun i hi => ?_
  have kk : ∀ i, i < 20 → i = 19 ∨ sg i < 38 := by decide
  rcases kk i hi with rfl | h1
  · exact (upd_eq).trans (zTk_38 h38).symm
  · rw [zTk_lo h1]
    exact upd_ne (show sg i ≠ 38 by omega)
theorem LW.tk (h : LW v y F) : LW v (zTk y) F := h.congr (zTk_lo (by decide)).symm (zTk_lo (by decide)).symm (zTk_lo (by decide)).symm
/-- a heard code, in the law's rows -/
def heE (v : Nat) (E : Nat → Int32) (cc mi : Int32) : Nat → Int32 :=
  let a := zF cSTEPS E (20 * v + 10) cc
  let er := zS (a (20 * v + 10) - mi)
  upd (upd (upd a (20 * v + 13) (E (20 * v + 13) + 1)) (20 * v + 17) (E (20 * v + 17) + er)) (20 * v + 18) (if er ≤ E (20 * v + 18) then E (20 * v + 18) else er)
theorem heE_FE : FE v E (heE v E x mi) := by
  unfold heE zF
  exact ((((FE.rf.up (by decide)).up (k := 11) (by decide)).up (by decide)).up (by decide)).up (by decide)
theorem LE.he {cc : Int32} (h : LE v y E) : LE v (zH cSTEPS y cc mi) (heE v E cc mi) := by
  have e10 : E (20 * v + 10) = y 26 := h 10 (by decide)
  have e11 : E (20 * v + 10 + 1) = y 27 := h 11 (by decide)
  have e13 : E (20 * v + 13) = y 29 := h 13 (by decide)
  have e17 : E (20 * v + 17) = y 33 := h 17 (by decide)
  have e18 : E (20 * v + 18) = y 34 := h 18 (by decide)
  unfold heE zF
  simp (disch := omega) only [upd_ne, upd_eq, e10, e11, e13, e17, e18]
  have s1 := ((((h.up (k := 10) (x := zG (y 26) (cSTEPS (y 27).toNatClampNeg) cc) (by decide)).up (k := 11) (x := zI (y 27) cc) (by decide)).up (k := 13) (x := y 29 + 1) (by decide)).up (k := 17) (x := y 33 + zS (zG (y 26) (cSTEPS (y 27).toNatClampNeg) cc - mi)) (by decide)).up (k := 18) (x := if zS (zG (y 26) (cSTEPS (y 27).toNatClampNeg) cc - mi) ≤ y 34 then y 34 else zS (zG (y 26) (cSTEPS (y 27).toNatClampNeg) cc - mi)) (by decide)
  refine s1.congr (all20 ?_ ?_ ?_ ?_ ?_ ?_ ?_ ?_ ?_ ?_ ?_ ?_ ?_ ?_ ?_ ?_ ?_ ?_ ?_ ?_) <;> (rw [zH_v]; simp (disch := omega) only [sg, upd_ne, upd_eq, Nat.reduceEqDiff, ↓reduceIte])
theorem lhear_go {x5 : Int32} (h : D4 e f c p) (hv : v < 3) (hs : s ≤ 8) (h1 : P 1 = nI s) (hP : ∀ j, j < s → P (5 + j) = cm (w (44 + j)) (w (52 + j)) ∧ c16 (w (44 + j))) (hm : ∀ j, j < 8 → B2 (w (52 + j))) : ∀ (d j n : Nat) (E F y : Nat → Int32), j + d = s → d < n → LE v y E → F v = y 35 → (∃ i, i < 25 ∧ y 27 = nI i) → (∀ i, 36 ≤ i → y i = w i) → ∃ E' F', f_L_comes_b184 e f p (nI v) n (nI (20 * v)) x5 (nI j) (T4 e f c p M E F C P) = f_L_comes_b184 e f p (nI v) 1 (nI (20 * v)) x5 (nI s) (T4 e f c p M E' F' C P) ∧ LE v (zHs cSTEPS d j y) E' ∧ F' v = zHs cSTEPS d j y 35 ∧ FE v E E' ∧ ∀ i, i ≠ v → F' i = F i := by
  intro d
  induction d with
  | zero =>
    intro j n E F y hj hn hE hF hi hy
    obtain ⟨n, rfl⟩ : ∃ k, n = k + 1 := ⟨n - 1, by omega⟩
    have hj : j = s := by omega
    subst hj
    refine ⟨E, F, ?_, hE, hF, FE.rf, fun _ _ => rfl⟩
    rw [f_L_comes_b184, f_L_comes_b184]
    simp (disch := omega) only [nb_s, gdi, nI_clamp, iA_1, iA_2, iA_3, iA_4, iA_5, iA_6, iA_7, iA_8, iA_9, iA_10, iA_11, iA_12, iA_13, iA_14, iA_15, iA_16, iA_17, iA_18, iA_19, iA_20, Ai_1, Ai_2, Ai_3, Ai_5, Ai_6, Ai_9, Ai_16, Mi_8, Mi_16, Mi_20, gl_0, gl_1, gl_2, gl_3, gl_4, gl_5, gl_6, gl_7, gl_8, gl_9, gl_10, gl_11, gl_12, gl_13, cl_0, cl_1, cl_2, cl_3, cl_4, cl_5, cl_6, cl_7, cl_8, cl_9, cl_10, cl_11, cl_12, cl_13, T_e h, T_f h, T_c h, T_p, S_e h, S_f h, S_c h, S_p, h1]
    rw [if_pos (nI_le (Nat.le_refl _) (by omega)), if_pos (nI_le (Nat.le_refl _) (by omega))]
  | succ d ih =>
    intro j n E F y hj hn hE hF hi hy
    obtain ⟨n, rfl⟩ : ∃ k, n = k + 1 := ⟨n - 1, by omega⟩
    obtain ⟨ii, hi1, hi2⟩ := hi
    obtain ⟨hp1, hp2⟩ := hP j (by omega)
    have hcm := cm_c hp2 (hm j (by omega))
    have hmm := cm_m hp2 (hm j (by omega))
    have y44 : y (44 + j) = w (44 + j) := hy _ (by omega)
    have y52 : y (52 + j) = w (52 + j) := hy _ (by omega)
    have e10 : E (20 * v + 10) = y 26 := hE 10 (by decide)
    have e11 : E (20 * v + 10 + 1) = y 27 := hE 11 (by decide)
    have fo := follows_l (N := 60) (k := 20 * v + 10) (a := e) (M := T4 e f c p M E F C P) (n := ii) (cc := w (44 + j)) (by omega) (by decide) (by rw [T_e h, e11]; exact hi2) hi1 hp2
    obtain ⟨E', F', g1, g2, g3, g4, g5⟩ := ih (j + 1) n (heE v E (w (44 + j)) (w (52 + j))) (upd F v (F v + zF cSTEPS E (20 * v + 10) (w (44 + j)) (20 * v + 10))) (zH cSTEPS y (w (44 + j)) (w (52 + j))) (by omega) (by omega) hE.he (by
      rw [upd_eq, zH_v, if_neg (by decide), if_pos rfl, hF]
      unfold zF
      rw [upd_ne (by omega), upd_eq, e10, e11]) (by
      rw [zH_v, if_neg (by decide), if_neg (by decide), if_neg (by decide), if_neg (by decide), if_pos rfl]
      exact zC_at) (fun i h36 => (zH_at h36).trans (hy i h36))
    refine ⟨E', F', ?_, ?_, ?_, heE_FE.trans g4, fun i hi => (g5 i hi).trans (upd_ne hi)⟩
    · rw [← g1, f_L_comes_b184]
      have sf : (65536 : Int32) ≠ 0 := by decide
      simp (disch := omega) only [nb_s, gdi, nI_clamp, iA_1, iA_2, iA_3, iA_4, iA_5, iA_6, iA_7, iA_8, iA_9, iA_10, iA_11, iA_12, iA_13, iA_14, iA_15, iA_16, iA_17, iA_18, iA_19, iA_20, Ai_1, Ai_2, Ai_3, Ai_5, Ai_6, Ai_9, Ai_16, Mi_8, Mi_16, Mi_20, gl_0, gl_1, gl_2, gl_3, gl_4, gl_5, gl_6, gl_7, gl_8, gl_9, gl_10, gl_11, gl_12, gl_13, cl_0, cl_1, cl_2, cl_3, cl_4, cl_5, cl_6, cl_7, cl_8, cl_9, cl_10, cl_11, cl_12, cl_13, T_e h, T_f h, T_c h, T_p, S_e h, S_f h, S_c h, S_p, h1, zA, hp1]
      rw [if_neg (nI_ge (by omega) (by omega)), gd_s (by decide), hcm, fo, vb_s, T_e h, A_e h]
      have a10 : ∀ k, k ≠ 10 → k ≠ 11 → zF cSTEPS E (20 * v + 10) (w (44 + j)) (20 * v + k) = E (20 * v + k) := fun k k1 k2 => by
        unfold zF
        rw [upd_ne (by omega), upd_ne (by omega)]
      simp (disch := omega) only [nb_s, gdi, nI_clamp, iA_1, iA_2, iA_3, iA_4, iA_5, iA_6, iA_7, iA_8, iA_9, iA_10, iA_11, iA_12, iA_13, iA_14, iA_15, iA_16, iA_17, iA_18, iA_19, iA_20, Ai_1, Ai_2, Ai_3, Ai_5, Ai_6, Ai_9, Ai_16, Mi_8, Mi_16, Mi_20, gl_0, gl_1, gl_2, gl_3, gl_4, gl_5, gl_6, gl_7, gl_8, gl_9, gl_10, gl_11, gl_12, gl_13, cl_0, cl_1, cl_2, cl_3, cl_4, cl_5, cl_6, cl_7, cl_8, cl_9, cl_10, cl_11, cl_12, cl_13, T_e h, T_f h, T_c h, T_p, S_e h, S_f h, S_c h, S_p, hp1, gd_s (show ¬ (65536 : Int32) = 0 by decide), hmm]
      rw [size_v, vb_s]
      simp (disch := omega) only [nb_s, gdi, nI_clamp, iA_1, iA_2, iA_3, iA_4, iA_5, iA_6, iA_7, iA_8, iA_9, iA_10, iA_11, iA_12, iA_13, iA_14, iA_15, iA_16, iA_17, iA_18, iA_19, iA_20, Ai_1, Ai_2, Ai_3, Ai_5, Ai_6, Ai_9, Ai_16, Mi_8, Mi_16, Mi_20, gl_0, gl_1, gl_2, gl_3, gl_4, gl_5, gl_6, gl_7, gl_8, gl_9, gl_10, gl_11, gl_12, gl_13, cl_0, cl_1, cl_2, cl_3, cl_4, cl_5, cl_6, cl_7, cl_8, cl_9, cl_10, cl_11, cl_12, cl_13, T_e h, T_f h, T_c h, T_p, S_e h, S_f h, S_c h, S_p, upd_ne, a10 13 (by decide) (by decide), a10 17 (by decide) (by decide), a10 18 (by decide) (by decide)]
      unfold f_L_comes_b289
      simp (disch := omega) only [nb_s, gdi, nI_clamp, iA_1, iA_2, iA_3, iA_4, iA_5, iA_6, iA_7, iA_8, iA_9, iA_10, iA_11, iA_12, iA_13, iA_14, iA_15, iA_16, iA_17, iA_18, iA_19, iA_20, Ai_1, Ai_2, Ai_3, Ai_5, Ai_6, Ai_9, Ai_16, Mi_8, Mi_16, Mi_20, gl_0, gl_1, gl_2, gl_3, gl_4, gl_5, gl_6, gl_7, gl_8, gl_9, gl_10, gl_11, gl_12, gl_13, cl_0, cl_1, cl_2, cl_3, cl_4, cl_5, cl_6, cl_7, cl_8, cl_9, cl_10, cl_11, cl_12, cl_13, T_e h, T_f h, T_c h, T_p, S_e h, S_f h, S_c h, S_p, upd_ne, a10 13 (by decide) (by decide), a10 17 (by decide) (by decide), a10 18 (by decide) (by decide)]
      have q1 : (1 : Int32) + nI j = nI (j + 1) := by rw [Ai_1, Nat.add_comm]
      unfold heE
      by_cases hle : zS (zF cSTEPS E (20 * v + 10) (w (44 + j)) (20 * v + 10) - w (52 + j)) ≤ E (20 * v + 18)
      · simp only [if_pos hle]
      · simp only [if_neg hle]
    · show LE v (zHs cSTEPS d (j + 1) (zH cSTEPS y (y (44 + j)) (y (52 + j)))) E'
      rw [y44, y52]
      exact g2
    · show F' v = zHs cSTEPS d (j + 1) (zH cSTEPS y (y (44 + j)) (y (52 + j))) 35
      rw [y44, y52]
      exact g3
theorem lfade_go (h : D4 e f c p) (hv : v < 3) (h0 : P 0 = nI (A + m)) (hA : A + m < 100000) : ∀ (d j n : Nat) (E : Nat → Int32), j + d = m → d < n → E (20 * v + 12) = nI (A + j) → f_L_comes_b53 e f p (nI v) n (nI (20 * v)) (nI j) (T4 e f c p M E F C P) = f_L_comes_b53 e f p (nI v) 1 (nI (20 * v)) (nI m) (T4 e f c p M (upd (upd E (20 * v + 10) (zFd d (E (20 * v + 10)))) (20 * v + 12) (nI (A + m))) F C P) := by
  intro d
  induction d with
  | zero =>
    intro j n E hj hn hE
    obtain ⟨n, rfl⟩ : ∃ k, n = k + 1 := ⟨n - 1, by omega⟩
    have hj : j = m := by omega
    subst hj
    have e1 : upd (upd E (20 * v + 10) (zFd 0 (E (20 * v + 10)))) (20 * v + 12) (nI (A + j)) = E := by
      show upd (upd E (20 * v + 10) (E (20 * v + 10))) (20 * v + 12) (nI (A + j)) = E
      rw [upd_self, ← hE, upd_self]
    rw [e1, f_L_comes_b53, f_L_comes_b53]
    simp (disch := omega) only [nb_s, gdi, nI_clamp, iA_1, iA_2, iA_3, iA_4, iA_5, iA_6, iA_7, iA_8, iA_9, iA_10, iA_11, iA_12, iA_13, iA_14, iA_15, iA_16, iA_17, iA_18, iA_19, iA_20, Ai_1, Ai_2, Ai_3, Ai_5, Ai_6, Ai_9, Ai_16, Mi_8, Mi_16, Mi_20, gl_0, gl_1, gl_2, gl_3, gl_4, gl_5, gl_6, gl_7, gl_8, gl_9, gl_10, gl_11, gl_12, gl_13, cl_0, cl_1, cl_2, cl_3, cl_4, cl_5, cl_6, cl_7, cl_8, cl_9, cl_10, cl_11, cl_12, cl_13, T_e h, T_f h, T_c h, T_p, S_e h, S_f h, S_c h, S_p, h0, hE]
    rw [if_pos (Int32.le_refl _), if_pos (Int32.le_refl _)]
  | succ d ih =>
    intro j n E hj hn hE
    obtain ⟨n, rfl⟩ : ∃ k, n = k + 1 := ⟨n - 1, by omega⟩
    rw [f_L_comes_b53]
    simp (disch := omega) only [nb_s, gdi, nI_clamp, iA_1, iA_2, iA_3, iA_4, iA_5, iA_6, iA_7, iA_8, iA_9, iA_10, iA_11, iA_12, iA_13, iA_14, iA_15, iA_16, iA_17, iA_18, iA_19, iA_20, Ai_1, Ai_2, Ai_3, Ai_5, Ai_6, Ai_9, Ai_16, Mi_8, Mi_16, Mi_20, gl_0, gl_1, gl_2, gl_3, gl_4, gl_5, gl_6, gl_7, gl_8, gl_9, gl_10, gl_11, gl_12, gl_13, cl_0, cl_1, cl_2, cl_3, cl_4, cl_5, cl_6, cl_7, cl_8, cl_9, cl_10, cl_11, cl_12, cl_13, T_e h, T_f h, T_c h, T_p, S_e h, S_f h, S_c h, S_p, h0, hE, upd_ne]
    rw [if_neg (nI_ge (by omega) (by omega))]
    have e1 := ih (j + 1) n (upd (upd E (20 * v + 10) (E (20 * v + 10) * 3 / 4)) (20 * v + 12) (nI (A + j + 1))) (by omega) (by omega) (upd_eq)
    rw [e1]
    congr 1
    congr 1
    funext i
    have e2 : zFd (d + 1) (E (20 * v + 10)) = zFd d (E (20 * v + 10) * 3 / 4) := by
      show zFd d (3 * E (20 * v + 10) / 4) = _
      rw [Int32.mul_comm]
    rw [e2]
    by_cases h1 : i = 20 * v + 12
    · rw [h1, upd_eq, upd_eq]
    · rw [upd_ne h1, upd_ne h1]
      by_cases h2 : i = 20 * v + 10
      · rw [h2, upd_eq, upd_eq, upd_ne (by omega), upd_eq]
      · rw [upd_ne h2, upd_ne h2, upd_ne h1, upd_ne h2]
theorem comes_l (h : D4 e f c p) (hv : v < 3) (hE : LE v w E) (hW : LW v w F) (hQ : LQ w P) (hB : WB n w) (h38 : w 38 = nI (k + 1)) (hk : k ≤ 3) (hn : n < 9999) : ∃ E' F' P', f_L_comes e f p (nI v) (T4 e f c p M E F C P) = some (zDa w, T4 e f c p M E' F' C P') ∧ (LE v (zDv cSTEPS w) E' ∧ LW v (zDv cSTEPS w) F' ∧ LQ (zDv cSTEPS w) P') ∧ FE v E E' ∧ FF3 v F F' := by
  obtain ⟨-, hgap, -, hj43, ⟨⟨K, hK, w39⟩, hpk, hmn, s, hs8, w40⟩⟩ := WB.dv (T := cSTEPS) hB h38 (by omega) hn
  obtain ⟨N, A, Cc, Z, Lo, H, Ee, lo, ⟨k21, k28, k37, k30, k31, k29, k33, k36⟩, b1, b2, b3, b4, b5, b6, b7, b8⟩ := hB.2.1
  have hK9 : K < 10000 := by
    rw [k21, nI_clamp (by omega)] at hK
    omega
  have w39 : w 39 = nI K := w39
  have w40 : w 40 = nI s := w40
  have hpk : w 41 = 1 → B2 (w 42) ∧ ∃ m, m < 25 ∧ w 43 = nI m := hpk
  have hmn2 : ∀ j, j < 8 → B2 (w (52 + j)) := fun j hj => by
    have t : B2 (w (39 + (13 + j))) := hmn j hj
    rw [show 39 + (13 + j) = 52 + j by omega] at t
    exact t
  obtain ⟨Wn, hWn, w38', hPk⟩ := hQ
  have eWn : Wn = k + 1 := (nI_eq (by omega) (by omega)).mp (w38'.symm.trans h38)
  obtain ⟨⟨p0, p1, p2, p3, p4⟩, s', hs8', u1, pc⟩ := hPk 0 (by omega)
  have p0 : P 0 = w 39 := p0
  have p1 : P 1 = w 40 := p1
  have p2 : P 2 = w 41 := p2
  have p3 : P 3 = w 42 := p3
  have p4 : P 4 = w 43 := p4
  have u1 : w 40 = nI s' := u1
  have es : s' = s := (nI_eq (by omega) (by omega)).mp (u1.symm.trans w40)
  subst es
  have pc2 : ∀ j, j < s' → P (5 + j) = cm (w (44 + j)) (w (52 + j)) ∧ c16 (w (44 + j)) := fun j hj => by
    have t : P (16 * 0 + 5 + j) = cm (w (39 + 21 * 0 + (5 + j))) (w (39 + 21 * 0 + (13 + j))) ∧ c16 (w (39 + 21 * 0 + (5 + j))) := pc j hj
    rw [show 16 * 0 + 5 + j = 5 + j by omega, show 39 + 21 * 0 + (5 + j) = 44 + j by omega, show 39 + 21 * 0 + (13 + j) = 52 + j by omega] at t
    exact t
  have hQ0 : LQ w P := ⟨Wn, hWn, w38', hPk⟩
  have e10 : E (20 * v + 10) = w 26 := hE 10 (by decide)
  have e11 : E (20 * v + 11) = w 27 := hE 11 (by decide)
  have e12 : E (20 * v + 12) = w 28 := hE 12 (by decide)
  have e14 : E (20 * v + 14) = w 30 := hE 14 (by decide)
  have e15 : E (20 * v + 15) = w 31 := hE 15 (by decide)
  have e16 : E (20 * v + 16) = w 32 := hE 16 (by decide)
  have e19 : E (20 * v + 19) = w 38 := hE 19 (by decide)
  have f37 : F (6 + v) = w 37 := hW.2.2
  -- the row and the law's numbers with one more that came
  have hE1 : LE v (upd w 37 (w 37 + 1)) E := hE.congr fun i hi => by
    have kk : ∀ i, i < 20 → sg i ≠ 37 := by decide
    rw [upd_ne (kk i hi)]
  have hW1 : LW v (upd w 37 (w 37 + 1)) (upd F (6 + v) (w 37 + 1)) := by
    refine ⟨?_, ?_, ?_⟩
    · rw [upd_ne (by omega), upd_ne (by decide)]; exact hW.1
    · rw [upd_ne (by omega), upd_ne (by decide)]; exact hW.2.1
    · rw [upd_eq, upd_eq]
  have ff1 : FF3 v F (upd F (6 + v) (w 37 + 1)) := fun i _ _ h3 => upd_ne h3
  unfold f_L_comes zDa
  simp (disch := omega) only [nb_s, gdi, nI_clamp, iA_1, iA_2, iA_3, iA_4, iA_5, iA_6, iA_7, iA_8, iA_9, iA_10, iA_11, iA_12, iA_13, iA_14, iA_15, iA_16, iA_17, iA_18, iA_19, iA_20, Ai_1, Ai_2, Ai_3, Ai_5, Ai_6, Ai_9, Ai_16, Mi_8, Mi_16, Mi_20, gl_0, gl_1, gl_2, gl_3, gl_4, gl_5, gl_6, gl_7, gl_8, gl_9, gl_10, gl_11, gl_12, gl_13, cl_0, cl_1, cl_2, cl_3, cl_4, cl_5, cl_6, cl_7, cl_8, cl_9, cl_10, cl_11, cl_12, cl_13, T_e h, T_f h, T_c h, T_p, S_e h, S_f h, S_c h, S_p, e12, e15, p0, f37]
  generalize hFa : upd F (6 + v) (w 37 + 1) = Fa at *
  by_cases hle : w 28 ≤ w 39
  · simp only [if_pos hle]
    obtain ⟨m, hm9, hm⟩ := hgap hle
    have hAK : A ≤ K := by
      rw [k28, w39] at hle
      exact (nI_leI (by omega) (by omega)).mp hle
    have hmA : m = K - A := by
      rw [w39, k28, nI_sub hAK (by omega)] at hm
      exact ((nI_eq (by omega) (by omega)).mp hm).symm
    have hKA : K = A + m := by omega
    subst hKA
    rw [show (0 : Int32) = nI 0 from rfl, lfade_go h hv (p0.trans w39) (by omega) m 0 lfuel E (by omega) (by unfold lfuel; omega) (e12.trans k28), e10]
    have z28 : zDv cSTEPS w = zTk (upd (zHs cSTEPS s' 0 (zD2 (zD1 (upd (upd w 37 (w 37 + 1)) 26 (zFd m (w 26))) (nI m)))) 28 (nI (A + m + 1))) := by
      unfold zDv zD3
      simp only [if_pos hle]
      rw [hm, nI_clamp (by omega), w40, nI_clamp (by omega), w39, ← nI_succ]
    -- the numbers behind the fading
    have hE2 : LE v (upd (upd (upd w 37 (w 37 + 1)) 26 (zFd m (w 26))) 28 (nI (A + m))) (upd (upd E (20 * v + 10) (zFd m (w 26))) (20 * v + 12) (nI (A + m))) := (hE1.up (k := 10) (by decide)).up (k := 12) (by decide)
    have fe2 : FE v E (upd (upd E (20 * v + 10) (zFd m (w 26))) (20 * v + 12) (nI (A + m))) := (FE.rf.up (by decide)).up (by decide)
    -- the head
    have head : ∃ E3, f_L_comes_b53 e f p (nI v) 1 (nI (20 * v)) (nI m) (T4 e f c p M (upd (upd E (20 * v + 10) (zFd m (w 26))) (20 * v + 12) (nI (A + m))) Fa C P) = f_L_comes_b181 e f p (nI v) (nI (20 * v)) (nI m) (T4 e f c p M E3 Fa C P) ∧ LE v (upd (zD2 (zD1 (upd (upd w 37 (w 37 + 1)) 26 (zFd m (w 26))) (nI m))) 28 (nI (A + m))) E3 ∧ FE v E E3 := by
      rw [f_L_comes_b53]
      simp (disch := omega) only [nb_s, gdi, nI_clamp, iA_1, iA_2, iA_3, iA_4, iA_5, iA_6, iA_7, iA_8, iA_9, iA_10, iA_11, iA_12, iA_13, iA_14, iA_15, iA_16, iA_17, iA_18, iA_19, iA_20, Ai_1, Ai_2, Ai_3, Ai_5, Ai_6, Ai_9, Ai_16, Mi_8, Mi_16, Mi_20, gl_0, gl_1, gl_2, gl_3, gl_4, gl_5, gl_6, gl_7, gl_8, gl_9, gl_10, gl_11, gl_12, gl_13, cl_0, cl_1, cl_2, cl_3, cl_4, cl_5, cl_6, cl_7, cl_8, cl_9, cl_10, cl_11, cl_12, cl_13, T_e h, T_f h, T_c h, T_p, S_e h, S_f h, S_c h, S_p, upd_ne, upd_eq, p0, w39, p2, p3, p4, e11, e14, e16]
      rw [if_pos (Int32.le_refl _)]
      have hE3 := hE2.up (k := 14) (x := w 30 + nI m) (by decide)
      have fe3 := fe2.up (k := 14) (x := w 30 + nI m) (by decide)
      unfold zD2 zD1
      have c41 : upd (upd (upd w 37 (w 37 + 1)) 26 (zFd m (w 26))) 30 (upd (upd w 37 (w 37 + 1)) 26 (zFd m (w 26)) 30 + nI m) 41 = w 41 := by simp (disch := omega) only [upd_ne]
      rw [c41]
      by_cases h1 : w 41 = 1
      · rw [if_pos h1, if_pos h1]
        have hE4 : ∀ d : Int32, LE v (upd (upd (upd (upd (upd (upd (upd w 37 (w 37 + 1)) 26 (zFd m (w 26))) 28 (nI (A + m))) 30 (w 30 + nI m)) 32 (w 32 + d)) 26 (w 42)) 27 (w 43)) (upd (upd (upd (upd (upd (upd E (20 * v + 10) (zFd m (w 26))) (20 * v + 12) (nI (A + m))) (20 * v + 14) (w 30 + nI m)) (20 * v + 16) (w 32 + d)) (20 * v + 10) (w 42)) (20 * v + 11) (w 43)) := fun d => ((hE3.up (k := 16) (by decide)).up (k := 10) (by decide)).up (k := 11) (by decide)
        have fe4 : ∀ d : Int32, FE v E (upd (upd (upd (upd (upd (upd E (20 * v + 10) (zFd m (w 26))) (20 * v + 12) (nI (A + m))) (20 * v + 14) (w 30 + nI m)) (20 * v + 16) (w 32 + d)) (20 * v + 10) (w 42)) (20 * v + 11) (w 43)) := fun d => ((fe3.up (by decide)).up (by decide)).up (by decide)
        have fin : ∀ d : Int32, f_L_comes_b159 e f p (nI v) (nI (20 * v)) (nI m) d (w 32) (nI (20 * v + 16)) e (T4 e f c p M (upd (upd (upd E (20 * v + 10) (zFd m (w 26))) (20 * v + 12) (nI (A + m))) (20 * v + 14) (w 30 + nI m)) Fa C P) = f_L_comes_b181 e f p (nI v) (nI (20 * v)) (nI m) (T4 e f c p M (upd (upd (upd (upd (upd (upd E (20 * v + 10) (zFd m (w 26))) (20 * v + 12) (nI (A + m))) (20 * v + 14) (w 30 + nI m)) (20 * v + 16) (w 32 + d)) (20 * v + 10) (w 42)) (20 * v + 11) (w 43)) Fa C P) := fun d => by
          unfold f_L_comes_b159
          simp (disch := omega) only [nb_s, gdi, nI_clamp, iA_1, iA_2, iA_3, iA_4, iA_5, iA_6, iA_7, iA_8, iA_9, iA_10, iA_11, iA_12, iA_13, iA_14, iA_15, iA_16, iA_17, iA_18, iA_19, iA_20, Ai_1, Ai_2, Ai_3, Ai_5, Ai_6, Ai_9, Ai_16, Mi_8, Mi_16, Mi_20, gl_0, gl_1, gl_2, gl_3, gl_4, gl_5, gl_6, gl_7, gl_8, gl_9, gl_10, gl_11, gl_12, gl_13, cl_0, cl_1, cl_2, cl_3, cl_4, cl_5, cl_6, cl_7, cl_8, cl_9, cl_10, cl_11, cl_12, cl_13, T_e h, T_f h, T_c h, T_p, S_e h, S_f h, S_c h, S_p, p3, p4]
        have row : ∀ d : Int32, (if zFd m (w 26) = w 42 ∧ w 27 = w 43 then 0 else 1) = d → ∀ i, i < 20 → upd (upd (upd (upd (upd (upd (upd w 37 (w 37 + 1)) 26 (zFd m (w 26))) 28 (nI (A + m))) 30 (w 30 + nI m)) 32 (w 32 + d)) 26 (w 42)) 27 (w 43) (sg i) = upd (zTH (upd (upd (upd w 37 (w 37 + 1)) 26 (zFd m (w 26))) 30 (upd (upd w 37 (w 37 + 1)) 26 (zFd m (w 26)) 30 + nI m)) (upd (upd (upd w 37 (w 37 + 1)) 26 (zFd m (w 26))) 30 (upd (upd w 37 (w 37 + 1)) 26 (zFd m (w 26)) 30 + nI m) 42) (upd (upd (upd w 37 (w 37 + 1)) 26 (zFd m (w 26))) 30 (upd (upd w 37 (w 37 + 1)) 26 (zFd m (w 26)) 30 + nI m) 43)) 28 (nI (A + m)) (sg i) := by
          intro d hd
          unfold zTH
          refine all20 ?_ ?_ ?_ ?_ ?_ ?_ ?_ ?_ ?_ ?_ ?_ ?_ ?_ ?_ ?_ ?_ ?_ ?_ ?_ ?_ <;> simp (disch := omega) only [sg, upd_ne, upd_eq, hd]
        unfold f_L_comes_b158
        by_cases c1 : zFd m (w 26) = w 42
        · rw [if_pos c1]
          by_cases c2 : w 27 = w 43
          · rw [if_pos c2, fin]
            exact ⟨_, rfl, (hE4 0).congr (row 0 (if_pos ⟨c1, c2⟩)), fe4 0⟩
          · rw [if_neg c2, fin]
            exact ⟨_, rfl, (hE4 1).congr (row 1 (if_neg fun z => c2 z.2)), fe4 1⟩
        · rw [if_neg c1, fin]
          exact ⟨_, rfl, (hE4 1).congr (row 1 (if_neg fun z => c1 z.1)), fe4 1⟩
      · rw [if_neg h1, if_neg h1]
        refine ⟨_, rfl, hE3.congr ?_, fe3⟩
        refine all20 ?_ ?_ ?_ ?_ ?_ ?_ ?_ ?_ ?_ ?_ ?_ ?_ ?_ ?_ ?_ ?_ ?_ ?_ ?_ ?_ <;> simp (disch := omega) only [sg, upd_ne, upd_eq]
    obtain ⟨E3, g1, hE3, fe3⟩ := head
    rw [g1]
    unfold f_L_comes_b181
    generalize hY : zD2 (zD1 (upd (upd w 37 (w 37 + 1)) 26 (zFd m (w 26))) (nI m)) = Y at *
    have Yhi : ∀ i, 35 ≤ i → i ≠ 37 → Y i = w i := fun i h1 h2 => by
      rw [← hY]
      unfold zD2 zD1
      split
      · unfold zTH
        simp (disch := omega) only [upd_ne]
      · simp (disch := omega) only [upd_ne]
    have Y37 : Y 37 = w 37 + 1 := by
      rw [← hY]
      unfold zD2 zD1
      split
      · unfold zTH
        simp (disch := omega) only [upd_ne, upd_eq]
      · simp (disch := omega) only [upd_ne, upd_eq]
    have Y27 : ∃ i, i < 25 ∧ Y 27 = nI i := by
      rw [← hY]
      unfold zD2 zD1
      split
      · rename_i h1
        have h41 : w 41 = 1 := by
          rw [← h1]
          simp (disch := omega) only [upd_ne]
        obtain ⟨-, mm, hm1, hm2⟩ := hpk h41
        refine ⟨mm, hm1, ?_⟩
        unfold zTH
        simp (disch := omega) only [upd_ne, upd_eq]
        exact hm2
      · obtain ⟨-, ii, hi1, hi2⟩ := hB.1.2
        refine ⟨ii, hi1, ?_⟩
        simp (disch := omega) only [upd_ne]
        exact hi2
    obtain ⟨E4, F4, g2, hE4, hF4, fe4, ff4⟩ := lhear_go (M := M) (C := C) (x5 := nI m) (w := upd w 37 (w 37 + 1)) h hv hs8 (p1.trans w40) (fun j hj => by rw [upd_ne (by omega), upd_ne (by omega)]; exact pc2 j hj) (fun j hj => by rw [upd_ne (by omega)]; exact hmn2 j hj) s' 0 lfuel E3 Fa (upd Y 28 (nI (A + m))) (by omega) (by unfold lfuel; omega) hE3 (by rw [upd_ne (by decide), Yhi 35 (by decide) (by decide)]; exact hW1.1.trans (upd_ne (by decide))) (by rw [upd_ne (by decide)]; exact Y27) (fun i h36 => by
      rw [upd_ne (by omega)]
      by_cases h37 : i = 37
      · rw [h37, upd_eq]; exact Y37
      · rw [upd_ne h37]; exact Yhi i (by omega) h37)
    rw [show (nI 0 : Int32) = 0 from rfl] at g2
    rw [show (0 : Int32) = nI 0 from rfl] at g2
    rw [show (0 : Int32) = nI 0 from rfl, g2, f_L_comes_b184]
    rw [zHs_28] at hE4 hF4
    generalize hX : zHs cSTEPS s' 0 Y = X at *
    have Xhi : ∀ i, 36 ≤ i → X i = Y i := fun i hi => by rw [← hX]; exact zHs_at hi _ _ _
    have x19 : E4 (20 * v + 19) = nI (k + 1) := (hE4 19 (by decide)).trans ((upd_ne (show 38 ≠ 28 by decide)).trans ((Xhi 38 (by decide)).trans ((Yhi 38 (by decide) (by decide)).trans h38)))
    have x12 : E4 (20 * v + 12) = nI (A + m) := (hE4 12 (by decide)).trans upd_eq
    simp (disch := omega) only [nb_s, gdi, nI_clamp, iA_1, iA_2, iA_3, iA_4, iA_5, iA_6, iA_7, iA_8, iA_9, iA_10, iA_11, iA_12, iA_13, iA_14, iA_15, iA_16, iA_17, iA_18, iA_19, iA_20, Ai_1, Ai_2, Ai_3, Ai_5, Ai_6, Ai_9, Ai_16, Mi_8, Mi_16, Mi_20, gl_0, gl_1, gl_2, gl_3, gl_4, gl_5, gl_6, gl_7, gl_8, gl_9, gl_10, gl_11, gl_12, gl_13, cl_0, cl_1, cl_2, cl_3, cl_4, cl_5, cl_6, cl_7, cl_8, cl_9, cl_10, cl_11, cl_12, cl_13, T_e h, T_f h, T_c h, T_p, S_e h, S_f h, S_c h, S_p, p1, w40, x12]
    rw [if_pos (Int32.le_refl _)]
    have mv := moves_l (M := M) (F := F4) (C := C) (P := P) (E := upd E4 (20 * v + 12) (nI (A + m + 1))) h hv (by rw [upd_ne (by omega)]; exact x19) hk
    have mv' : f_L_moves e p (nI v) (T4 e f c p M (upd E4 (20 * v + 12) (nI (A + m + 1))) F4 C P) = _ := mv
    rw [mv', vb_s, hm]
    have hE5 : LE v (upd X 28 (nI (A + m + 1))) (upd E4 (20 * v + 12) (nI (A + m + 1))) := (hE4.up (k := 12) (x := nI (A + m + 1)) (by decide)).congr fun i _ => by
      show upd (upd X 28 (nI (A + m))) 28 (nI (A + m + 1)) (sg i) = _
      rw [upd_upd]
    have x38 : upd X 28 (nI (A + m + 1)) 38 = nI (k + 1) := (upd_ne (by decide)).trans ((Xhi 38 (by decide)).trans ((Yhi 38 (by decide) (by decide)).trans h38))
    refine ⟨_, _, _, rfl, ⟨?_, ?_, ?_⟩, ((fe3.trans fe4).up (by decide)).up (by decide), ff1.trans fun i h1 _ _ => ff4 i h1⟩
    · rw [z28]
      exact hE5.tk x38
    · rw [z28]
      refine LW.tk ⟨?_, ?_, ?_⟩
      · rw [upd_ne (by decide)]
        exact hF4.trans (upd_ne (by decide))
      · rw [upd_ne (by decide), ff4 _ (by omega), Xhi 36 (by decide), Yhi 36 (by decide) (by decide)]
        exact hW1.2.1.trans (upd_ne (by decide))
      · rw [upd_ne (by decide), ff4 _ (by omega), Xhi 37 (by decide), Y37]
        exact hW1.2.2.trans upd_eq
    · rw [z28]
      refine hQ0.tk h38 hk fun i h1 _ => ?_
      rw [upd_ne (by omega), Xhi i (by omega), Yhi i (by omega) (by omega)]
  · simp only [if_neg hle]
    have mv := moves_l (M := M) (F := Fa) (C := C) (P := P) (E := upd E (20 * v + 15) (w 31 + 1)) h hv (by rw [upd_ne (by omega), e19]; exact h38) hk
    rw [mv, vb_s]
    have z31 : zDv cSTEPS w = zTk (upd (upd w 37 (w 37 + 1)) 31 (w 31 + 1)) := by
      unfold zDv
      simp only [if_neg hle]
    have x38 : upd (upd w 37 (w 37 + 1)) 31 (w 31 + 1) 38 = nI (k + 1) := by rw [upd_ne (by decide), upd_ne (by decide)]; exact h38
    refine ⟨_, _, _, rfl, ⟨?_, ?_, ?_⟩, (FE.rf.up (by decide)).up (by decide), ff1⟩
    · rw [z31]
      exact (hE1.up (k := 15) (by decide)).tk x38
    · rw [z31]
      exact LW.tk (hW1.congr (upd_ne (by decide)).symm (upd_ne (by decide)).symm (upd_ne (by decide)).symm)
    · rw [z31]
      refine hQ0.tk h38 hk fun i h1 _ => ?_
      rw [upd_ne (by omega), upd_ne (by omega)]
end LCOME
