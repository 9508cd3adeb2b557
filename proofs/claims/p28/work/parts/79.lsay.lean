/-! THE LAW'S OWN VOICES. A sample is said -/
section LSAY
variable {v k i u q e f c p n g d : Nat} {r w w' E E' F F' C C' P P' : Nat → Int32} {x y m : Int32} {M : Mem}
theorem LE.ga (h : LE v w E) : LE v (zGa w x) (upd (upd E (20 * v + 2) (w 2 + 1)) (20 * v + 3) (w 3 + x)) := by
  have h2 := (h.up (k := 2) (x := w 2 + 1) (by decide)).up (k := 3) (x := w 3 + x) (by decide)
  refine h2.congr fun i _ => ?_
  show upd (upd w 2 (w 2 + 1)) 3 (w 3 + x) (sg i) = upd (upd w 3 (w 3 + x)) 2 (w 2 + 1) (sg i)
  rw [upd_cm (by decide)]
theorem LV.ga (h : LV v w E F C P) : LV v (zGa w x) (upd (upd E (20 * v + 2) (w 2 + 1)) (20 * v + 3) (w 3 + x)) (upd F 13 y) C P ∨ ¬ v < 3 := by
  by_cases hv : v < 3
  · obtain ⟨⟨hE, h1, h2, h3⟩, hC, hP⟩ := h
    have z : ∀ k, 4 ≤ k → w k = zGa w x k := fun k hk => by
      unfold zGa
      rw [upd_ne (by omega), upd_ne (by omega)]
    refine Or.inl ⟨⟨hE.ga, ?_, ?_, ?_⟩, hC.congr fun i h1 _ => z i h1, hP.congr fun i h1 _ => z i (by omega)⟩
    · rw [upd_ne (by omega)]; exact h1.trans (z 35 (by decide))
    · rw [upd_ne (by omega)]; exact h2.trans (z 36 (by decide))
    · rw [upd_ne (by omega)]; exact h3.trans (z 37 (by decide))
  · exact Or.inr hv
theorem gate {r1 a : Int32} {β : Type} {A : Int32 → β} (hr : r1 = nI d) (hd : d ≤ 99) (ha : B2 a) : (if r1 ≤ a then A a else if r1 ≤ -a then A a else A 0) = A (if r1 ≤ zS a then a else 0) := by
  subst hr
  obtain ⟨h1, h2⟩ := ha
  have ed : (nI d).toInt = d := nI_toInt (by omega)
  have en : (-a).toInt = -a.toInt := by
    rw [Int32.toInt_neg, Int.bmod_eq_of_le_mul_two (by omega) (by omega)]
  unfold zS
  by_cases h0 : 0 ≤ a
  · rw [if_pos h0]
    by_cases h3 : nI d ≤ a
    · rw [if_pos h3, if_pos h3]
    · rw [if_neg h3, if_neg h3, if_neg]
      intro h4
      rw [Int32.le_iff_toInt_le] at h0 h3 h4
      rw [i0] at h0
      rw [ed] at h3 h4
      rw [en] at h4
      omega
  · rw [if_neg h0, if_neg]
    · split <;> rfl
    · intro h4
      rw [Int32.le_iff_toInt_le] at h0 h4
      rw [i0] at h0
      rw [ed] at h4
      omega
/-- the numbers behind a code of the mean m -/
def scE (v q : Nat) (E : Nat → Int32) (code : Int32) : Nat → Int32 :=
  let b := upd (upd E (20 * v + 2) 0) (20 * v + 3) 0
  let a := if q = 0 then upd (upd b (20 * v + 8) (E (20 * v))) (20 * v + 9) (E (20 * v + 1)) else b
  zF cSTEPS (upd (upd a (20 * v + 4) (nI (q + 1))) (20 * v + 6) (E (20 * v + 6) + 1)) (20 * v) code
theorem LE.mc (h : LE v w E) (h4 : w 4 = nI q) (hq : q < 8) (hi : w 1 = nI n) (hn : n < 25) : LE v (zMC cSTEPS w m) (scE v q E (zMC1 cSTEPS w m)) := by
  have e0 : E (20 * v) = w 0 := h 0 (by decide)
  have e1 : E (20 * v + 1) = w 1 := h 1 (by decide)
  have e6 : E (20 * v + 6) = w 22 := h 6 (by decide)
  rw [zMC_v h4 hq]
  unfold scE zF zMCb
  generalize zMC1 cSTEPS w m = cc
  by_cases h0 : q = 0
  · simp only [if_pos h0]
    have s1 := (((((h.up (k := 2) (x := 0) (by decide)).up (k := 3) (x := 0) (by decide)).up (k := 8) (x := w 0) (by decide)).up (k := 9) (x := w 1) (by decide)).up (k := 4) (x := nI (q + 1)) (by decide)).up (k := 6) (x := w 22 + 1) (by decide)
    have s2 := (s1.up (k := 0) (x := zG (w 0) (cSTEPS (w 1).toNatClampNeg) cc) (by decide)).up (k := 1) (x := zI (w 1) cc) (by decide)
    simp (disch := omega) only [upd_ne, e0, e1, e6]
    refine s2.congr (all20 ?_ ?_ ?_ ?_ ?_ ?_ ?_ ?_ ?_ ?_ ?_ ?_ ?_ ?_ ?_ ?_ ?_ ?_ ?_ ?_) <;> simp (disch := omega) only [sg, upd_ne, upd_eq]
  · simp only [if_neg h0]
    have s1 := (((h.up (k := 2) (x := 0) (by decide)).up (k := 3) (x := 0) (by decide)).up (k := 4) (x := nI (q + 1)) (by decide)).up (k := 6) (x := w 22 + 1) (by decide)
    have s2 := (s1.up (k := 0) (x := zG (w 0) (cSTEPS (w 1).toNatClampNeg) cc) (by decide)).up (k := 1) (x := zI (w 1) cc) (by decide)
    simp (disch := omega) only [upd_ne, e0, e1, e6]
    refine s2.congr (all20 ?_ ?_ ?_ ?_ ?_ ?_ ?_ ?_ ?_ ?_ ?_ ?_ ?_ ?_ ?_ ?_ ?_ ?_ ?_ ?_) <;> simp (disch := omega) only [sg, upd_ne, upd_eq]
theorem LC.mc (h : LC v w C) (h4 : w 4 = nI q) (hq : q < 8) : LC v (zMC cSTEPS w m) (upd C (8 * v + q) (cm (zMC1 cSTEPS w m) m)) := by
  obtain ⟨s, s8, s4, sc⟩ := h
  have es : s = q := (nI_eq (by omega) (by omega)).mp (s4.symm.trans h4)
  subst es
  refine ⟨s + 1, by omega, (zMC_23 h4 hq).2.2, fun j hj => ?_⟩
  have hm : zMC cSTEPS w m (13 + j) = if j = s then m else w (13 + j) := zMC_m h4 hq (by omega)
  have hc : zMC cSTEPS w m (5 + j) = if j = s then zMC1 cSTEPS w m else w (5 + j) := by
    rw [zMC_v h4 hq, upd_ne (by omega), upd_ne (by omega), upd_ne (by omega), upd_ne (by omega), upd_ne (by omega)]
    by_cases hjs : j = s
    · rw [if_pos hjs, hjs, upd_eq]
    · rw [if_neg hjs, upd_ne (by omega)]
      unfold zMCb
      split
      · rw [upd_ne (by omega), upd_ne (by omega), upd_ne (by omega), upd_ne (by omega)]
      · rw [upd_ne (by omega), upd_ne (by omega)]
  rw [hm, hc]
  by_cases hjs : j = s
  · rw [if_pos hjs, if_pos hjs, hjs, upd_eq]
    exact ⟨rfl, zK_16⟩
  · rw [if_neg hjs, if_neg hjs, upd_ne (by omega)]
    exact sc j (by omega)
theorem LV.mc (h : LV v w E F C P) (h4 : w 4 = nI q) (hq : q < 8) (hi : w 1 = nI n) (hn : n < 25) : LV v (zMC cSTEPS w m) (scE v q E (zMC1 cSTEPS w m)) F (upd C (8 * v + q) (cm (zMC1 cSTEPS w m) m)) P := by
  have z : ∀ k, 26 ≤ k → w k = zMC cSTEPS w m k := fun k hk => (zMC_at h4 hq hk).symm
  exact ⟨⟨h.1.1.mc h4 hq hi hn, h.1.2.congr (z 35 (by decide)) (z 36 (by decide)) (z 37 (by decide))⟩, h.2.1.mc h4 hq, h.2.2.congr fun i h1 _ => z i (by omega)⟩
theorem scE_FE : FE v E (scE v q E x) := by
  unfold scE zF
  simp only []
  split
  · exact (((((((FE.rf.up (by decide)).up (by decide)).up (by decide)).up (by decide)).up (by decide)).up (by decide)).up0).up (by decide)
  · exact (((((FE.rf.up (by decide)).up (by decide)).up (by decide)).up (by decide)).up0).up (by decide)
/-- the law makes a code -/
theorem mc_l (h : D4 e f c p) (hv : v < 3) (hE : LE v w E) (h4 : w 4 = nI q) (hq : q < 8) (hi : w 1 = nI n) (hn : n < 25) (h0 : B2 (w 0)) (hm : B2 m) (hq2 : ∃ z, F 11 = z) : f_L_says_b115 e f c p (nI v) x (nI (20 * v)) m (T4 e f c p M E F C P) = (if nI (q + 1) < F 11 then some (zMC1 cSTEPS w m, T4 e f c p M (scE v q E (zMC1 cSTEPS w m)) F (upd C (8 * v + q) (cm (zMC1 cSTEPS w m) m)) P) else vb (f_L_packs e f c p (nI v) (T4 e f c p M (scE v q E (zMC1 cSTEPS w m)) F (upd C (8 * v + q) (cm (zMC1 cSTEPS w m) m)) P)) fun N => some (zMC1 cSTEPS w m, N)) := by
  have e0 : E (20 * v) = w 0 := hE 0 (by decide)
  have e1 : E (20 * v + 1) = w 1 := hE 1 (by decide)
  have e4 : E (20 * v + 4) = w 4 := hE 4 (by decide)
  have hz : (nI q = 0) ↔ q = 0 := nI_eq (b := 0) (by omega) (by decide)
  have e16 : c16 (zMC1 cSTEPS w m) := zK_16
  have ecode : zMC1 cSTEPS w m = zK m (w 0) (cSTEPS n) := by
    unfold zMC1
    rw [hi, nI_clamp (by omega)]
  have cd : ∀ N, f_L_code m (w 0) (w 1) N = some (zMC1 cSTEPS w m) := fun N => by rw [code_v hi hn hm h0, ecode]
  -- behind the head
  have t2 : ∀ E2 : Nat → Int32, E2 (20 * v) = w 0 → E2 (20 * v + 1) = w 1 → E2 (20 * v + 4) = nI q → f_L_says_b164 e f c p (nI v) x (nI (20 * v)) m (T4 e f c p M E2 F C P) = (if nI (q + 1) < F 11 then some (zMC1 cSTEPS w m, T4 e f c p M (zF cSTEPS (upd (upd E2 (20 * v + 4) (nI (q + 1))) (20 * v + 6) (E2 (20 * v + 6) + 1)) (20 * v) (zMC1 cSTEPS w m)) F (upd C (8 * v + q) (cm (zMC1 cSTEPS w m) m)) P) else vb (f_L_packs e f c p (nI v) (T4 e f c p M (zF cSTEPS (upd (upd E2 (20 * v + 4) (nI (q + 1))) (20 * v + 6) (E2 (20 * v + 6) + 1)) (20 * v) (zMC1 cSTEPS w m)) F (upd C (8 * v + q) (cm (zMC1 cSTEPS w m) m)) P)) fun N => some (zMC1 cSTEPS w m, N)) := by
    intro E2 a0 a1 a4
    unfold f_L_says_b164
    simp (disch := omega) only [nb_s, gdi, nI_clamp, iA_1, iA_2, iA_3, iA_4, iA_5, iA_6, iA_7, iA_8, iA_9, iA_10, iA_11, iA_12, iA_13, iA_14, iA_15, iA_16, iA_17, iA_18, iA_19, iA_20, Ai_1, Ai_2, Ai_3, Ai_5, Ai_6, Ai_9, Ai_16, Mi_8, Mi_16, Mi_20, gl_0, gl_1, gl_2, gl_3, gl_4, gl_5, gl_6, gl_7, gl_8, gl_9, gl_10, gl_11, gl_12, gl_13, cl_0, cl_1, cl_2, cl_3, cl_4, cl_5, cl_6, cl_7, cl_8, cl_9, cl_10, cl_11, cl_12, cl_13, T_e h, T_f h, T_c h, T_p, S_e h, S_f h, S_c h, S_p, zA, a0, a1, a4]
    rw [cd, vb_s]
    simp (disch := omega) only [nb_s, gdi, nI_clamp, iA_1, iA_2, iA_3, iA_4, iA_5, iA_6, iA_7, iA_8, iA_9, iA_10, iA_11, iA_12, iA_13, iA_14, iA_15, iA_16, iA_17, iA_18, iA_19, iA_20, Ai_1, Ai_2, Ai_3, Ai_5, Ai_6, Ai_9, Ai_16, Mi_8, Mi_16, Mi_20, gl_0, gl_1, gl_2, gl_3, gl_4, gl_5, gl_6, gl_7, gl_8, gl_9, gl_10, gl_11, gl_12, gl_13, cl_0, cl_1, cl_2, cl_3, cl_4, cl_5, cl_6, cl_7, cl_8, cl_9, cl_10, cl_11, cl_12, cl_13, T_e h, T_f h, T_c h, T_p, S_e h, S_f h, S_c h, S_p, zA, a0, a1, a4, upd_ne]
    have fo := fun (E3 : Nat → Int32) (C3 : Nat → Int32) (b1 : E3 (20 * v + 1) = nI n) => follows_l (N := 60) (k := 20 * v) (a := e) (M := T4 e f c p M E3 F C3 P) (n := n) (by omega) (by decide) (by rw [T_e h]; exact b1) hn e16
    have fo2 := fo (upd (upd E2 (20 * v + 4) (nI (q + 1))) (20 * v + 6) (E2 (20 * v + 6) + 1)) (upd C (8 * v + q) (cm (zMC1 cSTEPS w m) m)) (by rw [upd_ne (by omega), upd_ne (by omega), a1, hi])
    unfold cm at fo2 ⊢
    rw [fo2, vb_s, T_e h, A_e h]
    have z4 : zF cSTEPS (upd (upd E2 (20 * v + 4) (nI (q + 1))) (20 * v + 6) (E2 (20 * v + 6) + 1)) (20 * v) (zMC1 cSTEPS w m) (20 * v + 4) = nI (q + 1) := by
      unfold zF
      rw [upd_ne (by omega), upd_ne (by omega), upd_ne (by omega), upd_eq]
    simp (disch := omega) only [nb_s, gdi, nI_clamp, iA_1, iA_2, iA_3, iA_4, iA_5, iA_6, iA_7, iA_8, iA_9, iA_10, iA_11, iA_12, iA_13, iA_14, iA_15, iA_16, iA_17, iA_18, iA_19, iA_20, Ai_1, Ai_2, Ai_3, Ai_5, Ai_6, Ai_9, Ai_16, Mi_8, Mi_16, Mi_20, gl_0, gl_1, gl_2, gl_3, gl_4, gl_5, gl_6, gl_7, gl_8, gl_9, gl_10, gl_11, gl_12, gl_13, cl_0, cl_1, cl_2, cl_3, cl_4, cl_5, cl_6, cl_7, cl_8, cl_9, cl_10, cl_11, cl_12, cl_13, T_e h, T_f h, T_c h, T_p, S_e h, S_f h, S_c h, S_p, z4]
  unfold f_L_says_b115
  simp (disch := omega) only [nb_s, gdi, nI_clamp, iA_1, iA_2, iA_3, iA_4, iA_5, iA_6, iA_7, iA_8, iA_9, iA_10, iA_11, iA_12, iA_13, iA_14, iA_15, iA_16, iA_17, iA_18, iA_19, iA_20, Ai_1, Ai_2, Ai_3, Ai_5, Ai_6, Ai_9, Ai_16, Mi_8, Mi_16, Mi_20, gl_0, gl_1, gl_2, gl_3, gl_4, gl_5, gl_6, gl_7, gl_8, gl_9, gl_10, gl_11, gl_12, gl_13, cl_0, cl_1, cl_2, cl_3, cl_4, cl_5, cl_6, cl_7, cl_8, cl_9, cl_10, cl_11, cl_12, cl_13, T_e h, T_f h, T_c h, T_p, S_e h, S_f h, S_c h, S_p, upd_ne, e4, h4, hz]
  by_cases h0 : q = 0
  · rw [if_pos h0, t2 _ (by rw [upd_ne (by omega), upd_ne (by omega), upd_ne (by omega), upd_ne (by omega), e0]) (by rw [upd_ne (by omega), upd_ne (by omega), upd_ne (by omega), upd_ne (by omega), e1]) (by rw [upd_ne (by omega), upd_ne (by omega), upd_ne (by omega), upd_ne (by omega), e4, h4])]
    unfold scE
    simp (disch := omega) only [if_pos h0, upd_ne]
  · rw [if_neg h0, t2 _ (by rw [upd_ne (by omega), upd_ne (by omega), e0]) (by rw [upd_ne (by omega), upd_ne (by omega), e1]) (by rw [upd_ne (by omega), upd_ne (by omega), e4, h4])]
    unfold scE
    simp (disch := omega) only [if_neg h0, upd_ne]
theorem says_l {s0 : Nat} (h : D4 e f c p) (hv : v < 3) (hL : LV v w E F C P) (hB : WBs w) (hR : RB r) (hF : ∀ i, i < 4 → F (9 + i) = r i) (hx : B2 x) (h38 : w 38 = nI s0) (hs : s0 ≤ 3) : ∃ E' C' P', f_L_says e f c p (nI v) x (T4 e f c p M E F C P) = some (zSayC cSTEPS r w x, T4 e f c p M E' (upd F 13 (F 13 + 1)) C' P') ∧ LV v (zCl r (zSayW cSTEPS r w x)) E' (upd F 13 (F 13 + 1)) C' P' ∧ FE v E E' ∧ FC v C C' := by
  obtain ⟨⟨b0, n, hn, hi⟩, ⟨g, hg, h2, h3a, h3b⟩, ⟨q, hq, h4⟩, -⟩ := hB
  obtain ⟨⟨d0, d01, d02, d03⟩, ⟨d1, d11, d12⟩, -⟩ := hR
  have e2 : E (20 * v + 2) = w 2 := hL.1.1 2 (by decide)
  have e3 : E (20 * v + 3) = w 3 := hL.1.1 3 (by decide)
  have e4 : E (20 * v + 4) = w 4 := hL.1.1 4 (by decide)
  have f9 : F 9 = r 0 := hF 0 (by decide)
  have f10 : F 10 = r 1 := hF 1 (by decide)
  have f11 : F 11 = r 2 := hF 2 (by decide)
  have f12 : F 12 = r 3 := hF 3 (by decide)
  have hg1 := (hL.ga (x := x) (y := F 13 + 1)).resolve_right (fun z => z hv)
  have fe1 : FE v E (upd (upd E (20 * v + 2) (w 2 + 1)) (20 * v + 3) (w 3 + x)) := (FE.rf.up (by decide)).up (by decide)
  have g38 : zGa w x 38 = nI s0 := h38
  have g4 : zGa w x 4 = nI q := h4
  have g1 : zGa w x 1 = nI n := hi
  have g0 : B2 (zGa w x 0) := b0
  have ne0 : ¬ w 2 + 1 = 0 := by rw [h2, ← nI_succ]; exact nI_ne0 (by omega) (by omega)
  unfold f_L_says f_L_says_b113
  simp (disch := omega) only [nb_s, gdi, nI_clamp, iA_1, iA_2, iA_3, iA_4, iA_5, iA_6, iA_7, iA_8, iA_9, iA_10, iA_11, iA_12, iA_13, iA_14, iA_15, iA_16, iA_17, iA_18, iA_19, iA_20, Ai_1, Ai_2, Ai_3, Ai_5, Ai_6, Ai_9, Ai_16, Mi_8, Mi_16, Mi_20, gl_0, gl_1, gl_2, gl_3, gl_4, gl_5, gl_6, gl_7, gl_8, gl_9, gl_10, gl_11, gl_12, gl_13, cl_0, cl_1, cl_2, cl_3, cl_4, cl_5, cl_6, cl_7, cl_8, cl_9, cl_10, cl_11, cl_12, cl_13, T_e h, T_f h, T_c h, T_p, S_e h, S_f h, S_c h, S_p, upd_ne, upd_eq, e2, e3, e4, f9, f10, f11]
  generalize hEa : upd (upd E (20 * v + 2) (w 2 + 1)) (20 * v + 3) (w 3 + x) = Ea at *
  generalize hFa : upd F 13 (F 13 + 1) = Fa at *
  have fa11 : Fa 11 = r 2 := by rw [← hFa, upd_ne (by decide)]; exact f11
  have fa12 : Fa 12 = r 3 := by rw [← hFa, upd_ne (by decide)]; exact f12
  unfold zSayC zSayW zMk
  by_cases hmk : w 2 + 1 < r 0
  · rw [if_neg (Int32.not_le.mpr hmk)]
    simp only [if_pos hmk, if_true, ↓reduceIte]
    unfold zCl
    show ∃ E' C' P', (if w 4 < r 2 then _ else _) = _ ∧ _
    by_cases hsz : w 4 < r 2
    · refine ⟨Ea, C, P, if_pos hsz, ?_, fe1, fun _ _ => rfl⟩
      rw [if_pos (show zGa w x 4 < r 2 from hsz)]
      exact hg1
    · refine ⟨pkE v s0 Ea (hdL v Ea Fa), C, pkC v s0 8 C (pkH v s0 Ea P (hdL v Ea Fa)), ?_, ?_, fe1.trans pkE_FE, fun _ _ => rfl⟩
      · rw [if_neg hsz, packs_l h hv (hg1.1.1 19 (by decide) |>.trans g38) hs, vb_s]
      · rw [if_neg (show ¬ zGa w x 4 < r 2 from hsz)]
        exact hg1.packs g38 hs fa12
  · have hmk2 : r 0 ≤ w 2 + 1 := Int32.not_lt.mp hmk
    rw [if_pos hmk2]
    simp only [if_neg hmk, show ¬ (1 : Int32) = 0 by decide, if_false, ↓reduceIte]
    have hsum := sum_B h3a h3b hg hx
    have hmean : B2 ((w 3 + x) / (w 2 + 1)) := by
      rw [h2, ← nI_succ]
      have hg1' : g + 1 ≤ 4 := by omega
      exact B2_div hsum.1 hsum.2 (by omega) hg1'
    have hmean2 : B2 (zMean r (zGa w x)) := by
      unfold zMean
      split
      · exact hmean
      · exact B2_0
    rw [gd_s ne0, gate (A := fun z => f_L_says_b115 e f c p (nI v) x (nI (20 * v)) z (T4 e f c p M Ea Fa C P)) d12 d11 hmean]
    show ∃ E' C' P', f_L_says_b115 e f c p (nI v) x (nI (20 * v)) (zMean r (zGa w x)) (T4 e f c p M Ea Fa C P) = _ ∧ _
    generalize zMean r (zGa w x) = mm at hmean2 ⊢
    rw [mc_l h hv hg1.1.1 g4 (by omega) g1 hn g0 hmean2 ⟨_, rfl⟩]
    have hg2 := hg1.mc (m := mm) g4 (by omega) g1 hn
    have z38 : zMC cSTEPS (zGa w x) mm 38 = nI s0 := (zMC_at g4 (by omega) (by decide)).trans g38
    have z4 := (zMC_23 (T := cSTEPS) (m := mm) g4 (by omega)).2.2
    have fc : FC v C (upd C (8 * v + q) (cm (zMC1 cSTEPS (zGa w x) mm) mm)) := fun i hi => upd_ne (by omega)
    unfold zCl
    rw [z4, fa11]
    by_cases hsz : nI (q + 1) < r 2
    · refine ⟨_, _, _, if_pos hsz, ?_, fe1.trans scE_FE, fc⟩
      rw [if_pos hsz]
      exact hg2
    · generalize hE2 : scE v q Ea (zMC1 cSTEPS (zGa w x) mm) = E2 at *
      have fe2 : FE v Ea E2 := by rw [← hE2]; exact scE_FE
      generalize hC2 : upd C (8 * v + q) (cm (zMC1 cSTEPS (zGa w x) mm) mm) = C2 at *
      refine ⟨pkE v s0 E2 (hdL v E2 Fa), C2, pkC v s0 8 C2 (pkH v s0 E2 P (hdL v E2 Fa)), ?_, ?_, (fe1.trans fe2).trans pkE_FE, fc⟩
      · rw [if_neg hsz, packs_l h hv (hg2.1.1 19 (by decide) |>.trans z38) hs, vb_s]
      · rw [if_neg hsz]
        exact hg2.packs z38 hs fa12
end LSAY
