/-! THE LAW. What would be said of a sample -/
theorem B2_k {k c : Nat} {z : Int32} (hz : z.toInt = c) (hc : c ≤ 2000) (hk : k ≤ c + 2000) (hk2 : k < 100000) : B2 (nI k - z) := by
  unfold B2
  rw [Int32.toInt_sub, nI_toInt (by omega), hz, Int.bmod_eq_of_le_mul_two (by omega) (by omega)]
  omega
/-- the nearest code from above: of the codes below d, the best so far t -/
def lNr (f : Nat → Int32) : Nat → Nat → Nat
  | 0, t => t
  | d + 1, t => lNr f d (if f d ≤ f t then d else t)
theorem lNr_s {f : Nat → Int32} : ∀ d t, d ≤ t → t < 16 → (∀ i, d ≤ i → i < 16 → f t ≤ f i) → (∀ i, d ≤ i → i < t → f t < f i) → lNr f d t < 16 ∧ (∀ i, i < 16 → f (lNr f d t) ≤ f i) ∧ ∀ i, i < lNr f d t → f (lNr f d t) < f i := by
  intro d
  induction d with
  | zero => exact fun t _ h2 h3 h4 => ⟨h2, fun i hi => h3 i (Nat.zero_le _) hi, fun i hi => h4 i (Nat.zero_le _) hi⟩
  | succ d ih =>
    intro t h1 h2 h3 h4
    show lNr f d (if f d ≤ f t then d else t) < 16 ∧ (∀ i, i < 16 → f (lNr f d (if f d ≤ f t then d else t)) ≤ f i) ∧ ∀ i, i < lNr f d (if f d ≤ f t then d else t) → f (lNr f d (if f d ≤ f t then d else t)) < f i
    by_cases h : f d ≤ f t
    · rw [if_pos h]
      refine ih d (Nat.le_refl _) (by omega) (fun i hi hi2 => ?_) (fun i hi hi2 => by omega)
      by_cases hid : i = d
      · rw [hid]; exact Int32.le_refl _
      · exact Int32.le_trans h (h3 i (by omega) hi2)
    · rw [if_neg h]
      have hlt := Int32.not_le.mp h
      refine ih t (by omega) h2 (fun i hi hi2 => ?_) (fun i hi hi2 => ?_)
      · by_cases hid : i = d
        · rw [hid]; exact Int32.le_of_lt hlt
        · exact h3 i (by omega) hi2
      · by_cases hid : i = d
        · rw [hid]; exact hlt
        · exact h4 i (by omega) hi2
theorem zNr_s {f : Nat → Int32} : ∀ d j t, j + d = 16 → t < j → (∀ i, i < j → f t ≤ f i) → (∀ i, i < t → f t < f i) → zNr f d j t < 16 ∧ (∀ i, i < 16 → f (zNr f d j t) ≤ f i) ∧ ∀ i, i < zNr f d j t → f (zNr f d j t) < f i := by
  intro d
  induction d with
  | zero => exact fun j t h1 h2 h3 h4 => ⟨by show t < 16; omega, fun i hi => h3 i (by omega), h4⟩
  | succ d ih =>
    intro j t h1 h2 h3 h4
    show zNr f d (j + 1) (if f t ≤ f j then t else j) < 16 ∧ (∀ i, i < 16 → f (zNr f d (j + 1) (if f t ≤ f j then t else j)) ≤ f i) ∧ ∀ i, i < zNr f d (j + 1) (if f t ≤ f j then t else j) → f (zNr f d (j + 1) (if f t ≤ f j then t else j)) < f i
    by_cases h : f t ≤ f j
    · rw [if_pos h]
      refine ih (j + 1) t (by omega) (by omega) (fun i hi => ?_) h4
      by_cases hij : i = j
      · rw [hij]; exact h
      · exact h3 i (by omega)
    · rw [if_neg h]
      have hlt := Int32.not_le.mp h
      refine ih (j + 1) j (by omega) (by omega) (fun i hi => ?_) (fun i hi => Int32.lt_of_lt_of_le hlt (h3 i hi))
      by_cases hij : i = j
      · rw [hij]; exact Int32.le_refl _
      · exact Int32.le_of_lt (Int32.lt_of_lt_of_le hlt (h3 i (by omega)))
theorem near_eq {f : Nat → Int32} : lNr f 15 15 = zNr f 15 1 0 := by
  obtain ⟨a1, a2, a3⟩ := lNr_s (f := f) 15 15 (Nat.le_refl _) (by decide) (fun i h1 h2 => by rw [show i = 15 by omega]; exact Int32.le_refl _) (fun i h1 h2 => by omega)
  obtain ⟨b1, b2, b3⟩ := zNr_s (f := f) 15 1 0 rfl (by decide) (fun i hi => by rw [show i = 0 by omega]; exact Int32.le_refl _) (fun i hi => by omega)
  generalize lNr f 15 15 = s at *
  generalize zNr f 15 1 0 = t at *
  by_cases h1 : s < t
  · exact absurd (a2 t b1) (Int32.not_le.mpr (b3 s h1))
  · by_cases h2 : t < s
    · exact absurd (b2 s a1) (Int32.not_le.mpr (a3 t h2))
    · omega
section LWOULD
variable {M M1 M' N : Mem} {x a s d n m c l v j k i u X : Nat} {r q w w' t f : Nat → Int32} {g : Nat → Nat → Int32} {b : Bool} {y p p1 p2 p3 z : Int32} {E F C P : Nat → Int32}
theorem best_go {a1 ii : Nat} {x5 x7 : Int32} (hv : v < 3) (hE : mI M a1 = E) (h0 : E (20 * v) = w 0) (h1 : E (20 * v + 1) = w 1) (hi : w 1 = nI ii) (hi2 : ii < 25) : ∀ d fu t, d ≤ 15 → d < fu → t < 16 → f_swould0_b56 a a1 p2 p3 fu p x5 (nI (20 * v)) x7 (nI t) (nI d + (-1)) M = f_swould0_b56 a a1 p2 p3 1 p x5 (nI (20 * v)) x7 (nI (lNr (zFar (w 0) (cSTEPS ii) p) d t)) (-1) M := by
  intro d
  induction d with
  | zero =>
    intro fu t _ hfu ht
    obtain ⟨fu, rfl⟩ : ∃ k, fu = k + 1 := ⟨fu - 1, by omega⟩
    rw [f_swould0_b56, f_swould0_b56, if_pos (by decide), if_pos (by decide)]
    rfl
  | succ d ih =>
    intro fu t hd hfu ht
    obtain ⟨fu, rfl⟩ : ∃ k, fu = k + 1 := ⟨fu - 1, by omega⟩
    have e1 : nI (d + 1) + (-1) = nI d := by
      rw [nI_succ, Int32.add_assoc]
      exact Int32.add_zero _
    rw [e1, f_swould0_b56, if_neg (nI_pos (by omega))]
    simp (disch := omega) only [nb_s, gdi, nI_clamp, iA_1, iA_2, iA_3, iA_4, iA_5, iA_6, iA_7, iA_8, iA_9, iA_10, iA_11, iA_12, iA_13, iA_14, iA_15, iA_16, iA_17, iA_18, iA_19, iA_20, Ai_1, Ai_2, Ai_3, Ai_5, Ai_6, Ai_9, Ai_16, Mi_8, Mi_16, Mi_20, gl_0, gl_1, gl_2, gl_3, gl_4, gl_5, gl_6, gl_7, gl_8, gl_9, gl_10, gl_11, gl_12, gl_13, cl_0, cl_1, cl_2, cl_3, cl_4, cl_5, cl_6, cl_7, cl_8, cl_9, cl_10, cl_11, cl_12, cl_13, hE, h0, h1]
    rw [guess_v hi hi2 ⟨d, by omega, rfl⟩, vb_s, size_v, vb_s, guess_v hi hi2 ⟨t, ht, rfl⟩, vb_s, size_v, vb_s]
    unfold f_swould0_b113
    simp only [nb_s]
    show (if zFar (w 0) (cSTEPS ii) p t < zFar (w 0) (cSTEPS ii) p d then _ else _) = f_swould0_b56 a a1 p2 p3 1 p x5 (nI (20 * v)) x7 (nI (lNr (zFar (w 0) (cSTEPS ii) p) d (if zFar (w 0) (cSTEPS ii) p d ≤ zFar (w 0) (cSTEPS ii) p t then d else t))) (-1) M
    by_cases hlt : zFar (w 0) (cSTEPS ii) p t < zFar (w 0) (cSTEPS ii) p d
    · rw [if_pos hlt, if_neg (Int32.not_le.mpr hlt)]
      exact ih fu t (by omega) (by omega) ht
    · rw [if_neg hlt, if_pos (Int32.not_lt.mp hlt)]
      exact ih fu d (by omega) (by omega) (by omega)
theorem setl_go {a1 : Nat} {x6 x9 : Int32} (hp : B2 p) : ∀ (d j fu : Nat) (st : Int32 × Int32) (N : Mem), j + d = 61 → d < fu → mI N X 0 = st.1 → mI N X 1 = st.2 → B2 st.1 → (∃ i, i < 25 ∧ st.2 = nI i) → ∃ N' j', f_swould1_b254 a a1 p2 p z x6 x9 X fu (nI j) N = f_swould1_b301 a a1 p2 p z x6 x9 X (nI j') N' ∧ zSet p z d st j = (if nI j' ≤ 60 then nI j' else -10000) ∧ (∀ b, b ≠ X → mI N' b = mI N b) ∧ N'.2 = N.2 := by
  intro d
  induction d with
  | zero =>
    intro j fu st N hj hfu h0 h1 hB hi
    obtain ⟨fu, rfl⟩ : ∃ k, fu = k + 1 := ⟨fu - 1, by omega⟩
    have hj : j = 61 := by omega
    subst hj
    refine ⟨N, 61, ?_, ?_, fun _ _ => rfl, rfl⟩
    · rw [f_swould1_b254, if_pos (by decide)]
    · rw [if_neg (by decide)]
      rfl
  | succ d ih =>
    intro j fu st N hj hfu h0 h1 hB hi
    obtain ⟨fu, rfl⟩ : ∃ k, fu = k + 1 := ⟨fu - 1, by omega⟩
    obtain ⟨ii, hi1, hi2⟩ := hi
    by_cases hn : zS (st.1 - p) < z
    · refine ⟨N, j, ?_, ?_, fun _ _ => rfl, rfl⟩
      · rw [f_swould1_b254, if_neg (show ¬ (61 : Int32) ≤ nI j from nI_ge (b := 61) (by omega) (by decide))]
        simp (disch := omega) only [nb_s, gdi, nI_clamp, iA_1, iA_2, iA_3, iA_4, iA_5, iA_6, iA_7, iA_8, iA_9, iA_10, iA_11, iA_12, iA_13, iA_14, iA_15, iA_16, iA_17, iA_18, iA_19, iA_20, Ai_1, Ai_2, Ai_3, Ai_5, Ai_6, Ai_9, Ai_16, Mi_8, Mi_16, Mi_20, gl_0, gl_1, gl_2, gl_3, gl_4, gl_5, gl_6, gl_7, gl_8, gl_9, gl_10, gl_11, gl_12, gl_13, cl_0, cl_1, cl_2, cl_3, cl_4, cl_5, cl_6, cl_7, cl_8, cl_9, cl_10, cl_11, cl_12, cl_13, h0]
        rw [size_v, vb_s, if_pos hn]
      · rw [if_pos (show nI j ≤ 60 from nI_le (b := 60) (by omega) (by decide))]
        show (if zS (st.1 - p) < z then nI j else _) = nI j
        rw [if_pos hn]
    · have e16 : c16 (zK p st.1 (cSTEPS ii)) := zK_16
      have fo := follows_l (N := 2) (k := 0) (a := X) (M := N) (n := ii) (cc := zK p st.1 (cSTEPS ii)) (by decide) (by decide) (h1.trans hi2) hi1 e16
      have fo : f_L_follows 2 X 0 (zK p st.1 (cSTEPS ii)) N = some (sA N X (zF cSTEPS (mI N X) 0 (zK p st.1 (cSTEPS ii)))) := fo
      have hst : zSt st (zK p st.1 (cSTEPS st.2.toNatClampNeg)) = (zG st.1 (cSTEPS ii) (zK p st.1 (cSTEPS ii)), zI st.2 (zK p st.1 (cSTEPS ii))) := by
        unfold zSt
        rw [hi2, nI_clamp (by omega)]
      obtain ⟨N', j', g1, g2, g3, g4⟩ := ih (j + 1) fu (zSt st (zK p st.1 (cSTEPS st.2.toNatClampNeg))) (sA N X (zF cSTEPS (mI N X) 0 (zK p st.1 (cSTEPS ii)))) (by omega) (by omega) (by
        rw [mI_sA, hst]
        unfold zF
        rw [upd_ne (by decide), upd_eq, h0, h1, hi2, nI_clamp (by omega)]) (by
        rw [mI_sA, hst]
        unfold zF
        rw [upd_eq, h1]) zSt_B zSt_i
      refine ⟨N', j', ?_, ?_, fun b hb => (g3 b hb).trans (mI_sAn hb), g4⟩
      · rw [f_swould1_b254, if_neg (show ¬ (61 : Int32) ≤ nI j from nI_ge (b := 61) (by omega) (by decide))]
        simp (disch := omega) only [nb_s, gdi, nI_clamp, iA_1, iA_2, iA_3, iA_4, iA_5, iA_6, iA_7, iA_8, iA_9, iA_10, iA_11, iA_12, iA_13, iA_14, iA_15, iA_16, iA_17, iA_18, iA_19, iA_20, Ai_1, Ai_2, Ai_3, Ai_5, Ai_6, Ai_9, Ai_16, Mi_8, Mi_16, Mi_20, gl_0, gl_1, gl_2, gl_3, gl_4, gl_5, gl_6, gl_7, gl_8, gl_9, gl_10, gl_11, gl_12, gl_13, cl_0, cl_1, cl_2, cl_3, cl_4, cl_5, cl_6, cl_7, cl_8, cl_9, cl_10, cl_11, cl_12, cl_13, h0, h1]
        rw [size_v, vb_s, if_neg hn, code_v hi2 hi1 hp hB, vb_s, fo, vb_s]
        exact g1
      · rw [← g2]
        show (if zS (st.1 - p) < z then nI j else zSet p z d (zSt st (zK p st.1 (cSTEPS st.2.toNatClampNeg))) (j + 1)) = _
        rw [if_neg hn]
theorem would_l (h : CI x M n r q b g c t l) (hI : LI x M r) (hv : v < 3) : ∃ (o4 o5 o6 o9 : Int32) (M1 : Mem), f_swould0 x (x + 1095) (nI v) z M = some (o4, o5, o6, o9, M1) ∧ ∀ X, x + 1101 ≤ X → ∃ M', f_swould1 x (x + 1095) (nI v) o4 o5 o6 o9 X (sA M1 X fun _ => 0) = some (1, M') ∧ CI x M' n r q b g c t l ∧ LI x M' r := by
  obtain ⟨⟨hE, hW⟩, hC, hQ⟩ := hI.1 v hv
  obtain ⟨hV, hWR, hB, hS, hR⟩ := h.rv hv
  obtain ⟨b0, ii, hi, ei⟩ := hB.1.1.1
  have e0 : mI M (x + 1095) (20 * v) = vo r v 0 := hE 0 (by decide)
  have e1 : mI M (x + 1095) (20 * v + 1) = vo r v 1 := hE 1 (by decide)
  obtain ⟨k, hk, lk⟩ := low_v (p := z) (n := 4001) (M := M) (by decide) (by decide)
  obtain ⟨k2, hk2, lk2⟩ := low_v (p := z >>> ((5 : Int32) &&& 31)) (n := 60) (M := M) (by decide) (by decide)
  have lk : f_L_low z 4001 M = some (nI k) := lk
  have lk2 : f_L_low (z >>> ((5 : Int32) &&& 31)) 60 M = some (nI k2) := lk2
  have hp : B2 (nI k - 2000) := B2_k (c := 2000) (by decide) (by decide) (by omega) (by omega)
  generalize hP : nI k - (2000 : Int32) = p at hp
  have cc : codeR (vo r v) p 0 = zK p (vo r v 0) (cSTEPS ii) := by
    show zK p (vo r v 0) (cSTEPS (vo r v 1).toNatClampNeg) = _
    rw [ei, nI_clamp (by omega)]
  have ej : (vo r v 1).toNatClampNeg = ii := by rw [ei, nI_clamp (by omega)]
  obtain ⟨N0, s0, k0⟩ := code_T h hv hp (j := 0) (by decide)
  obtain ⟨N1, s1, k1⟩ := code_T (h.lk k0) hv hp (j := 1) (by decide)
  obtain ⟨N2, s2, k2'⟩ := code_T ((h.lk k0).lk k1) hv hp (j := 2) (by decide)
  obtain ⟨N3, s3, k3⟩ := code_T (((h.lk k0).lk k1).lk k2') hv hp (j := 3) (by decide)
  obtain ⟨N4, s4, k4⟩ := code_T ((((h.lk k0).lk k1).lk k2').lk k3) hv hp (j := 4) (by decide)
  have l1 := k0.trans k1
  have l2 := l1.trans k2'
  have l3 := l2.trans k3
  have l4 := l3.trans k4
  have s0 : f_X8_code x (nI v) p 0 M = some (0, zK p (vo r v 0) (cSTEPS ii), N0) := by rw [← cc]; exact s0
  have s1 : f_X8_code x (nI v) p 1 N0 = some (0, zG (vo r v 0) (cSTEPS ii) (zK p (vo r v 0) (cSTEPS ii)), N1) := by
    have t1 : f_X8_code x (nI v) p 1 N0 = some (0, zG (vo r v 0) (cSTEPS (vo r v 1).toNatClampNeg) (zK p (vo r v 0) (cSTEPS (vo r v 1).toNatClampNeg)), N1) := s1
    rw [ej] at t1; exact t1
  have s2 : f_X8_code x (nI v) p 2 N1 = some (0, zI (vo r v 1) (zK p (vo r v 0) (cSTEPS ii)), N2) := by
    have t1 : f_X8_code x (nI v) p 2 N1 = some (0, zI (vo r v 1) (zK p (vo r v 0) (cSTEPS (vo r v 1).toNatClampNeg)), N2) := s2
    rw [ej] at t1; exact t1
  have s3 : f_X8_code x (nI v) p 3 N2 = some (0, nI (zNr (zFar (vo r v 0) (cSTEPS ii) p) 15 1 0), N3) := by
    have t1 : f_X8_code x (nI v) p 3 N2 = some (0, nI (zNr (zFar (vo r v 0) (cSTEPS (vo r v 1).toNatClampNeg) p) 15 1 0), N3) := s3
    rw [ej] at t1; exact t1
  have s4 : f_X8_code x (nI v) p 4 N3 = some (0, zG (vo r v 0) (cSTEPS ii) (nI (zNr (zFar (vo r v 0) (cSTEPS ii) p) 15 1 0)), N4) := by
    have t1 : f_X8_code x (nI v) p 4 N3 = some (0, zG (vo r v 0) (cSTEPS (vo r v 1).toNatClampNeg) (nI (zNr (zFar (vo r v 0) (cSTEPS (vo r v 1).toNatClampNeg) p) 15 1 0)), N4) := s4
    rw [ej] at t1; exact t1
  have v1 : mI N1 (x + 1095) = mI M (x + 1095) := l1.1 _ (by omega) (by omega) (by omega)
  have v2 : mI N2 (x + 1095) = mI M (x + 1095) := l2.1 _ (by omega) (by omega) (by omega)
  have v4 : mI N4 (x + 1095) = mI M (x + 1095) := l4.1 _ (by omega) (by omega) (by omega)
  have h4 := h.lk l4
  have hI4 := hI.lk l4
  have hb16 : zNr (zFar (vo r v 0) (cSTEPS ii) p) 15 1 0 < 16 := (zNr_s (f := zFar (vo r v 0) (cSTEPS ii) p) 15 1 0 rfl (by decide) (fun i hi => by rw [show i = 0 by omega]; exact Int32.le_refl _) (fun i hi => by omega)).1
  refine ⟨p, nI (1 + k2), nI (20 * v), 1, N4, ?_, fun X hX => ?_⟩
  · unfold f_swould0
    rw [lk, vb_s, nb_s, hP, lk2, vb_s, nb_s, Ai_1, nb_s, Mi_20]
    simp (disch := omega) only [nb_s, gdi, nI_clamp, iA_1, iA_2, iA_3, iA_4, iA_5, iA_6, iA_7, iA_8, iA_9, iA_10, iA_11, iA_12, iA_13, iA_14, iA_15, iA_16, iA_17, iA_18, iA_19, iA_20, Ai_1, Ai_2, Ai_3, Ai_5, Ai_6, Ai_9, Ai_16, Mi_8, Mi_16, Mi_20, gl_0, gl_1, gl_2, gl_3, gl_4, gl_5, gl_6, gl_7, gl_8, gl_9, gl_10, gl_11, gl_12, gl_13, cl_0, cl_1, cl_2, cl_3, cl_4, cl_5, cl_6, cl_7, cl_8, cl_9, cl_10, cl_11, cl_12, cl_13, e0, e1]
    rw [code_v ei hi hp b0, vb_s]
    have bg := best_go (a := x) (p2 := nI v) (p3 := z) (p := p) (w := vo r v) (x5 := nI (1 + k2)) (x7 := zK p (vo r v 0) (cSTEPS ii)) (M := M) hv rfl e0 e1 ei hi 15 lfuel 15 (by decide) (by decide) (by decide)
    rw [near_eq] at bg
    refine Eq.trans bg ?_
    rw [f_swould0_b56, if_pos (by decide), s0, zb_s, gd_s rfl, s1, zb_s]
    simp (disch := omega) only [nb_s, gdi, nI_clamp, iA_1, iA_2, iA_3, iA_4, iA_5, iA_6, iA_7, iA_8, iA_9, iA_10, iA_11, iA_12, iA_13, iA_14, iA_15, iA_16, iA_17, iA_18, iA_19, iA_20, Ai_1, Ai_2, Ai_3, Ai_5, Ai_6, Ai_9, Ai_16, Mi_8, Mi_16, Mi_20, gl_0, gl_1, gl_2, gl_3, gl_4, gl_5, gl_6, gl_7, gl_8, gl_9, gl_10, gl_11, gl_12, gl_13, cl_0, cl_1, cl_2, cl_3, cl_4, cl_5, cl_6, cl_7, cl_8, cl_9, cl_10, cl_11, cl_12, cl_13, v1, v2, v4, e0, e1]
    rw [guess_v ei hi zK_16, vb_s, gd_s rfl, s2, zb_s]
    simp (disch := omega) only [nb_s, gdi, nI_clamp, iA_1, iA_2, iA_3, iA_4, iA_5, iA_6, iA_7, iA_8, iA_9, iA_10, iA_11, iA_12, iA_13, iA_14, iA_15, iA_16, iA_17, iA_18, iA_19, iA_20, Ai_1, Ai_2, Ai_3, Ai_5, Ai_6, Ai_9, Ai_16, Mi_8, Mi_16, Mi_20, gl_0, gl_1, gl_2, gl_3, gl_4, gl_5, gl_6, gl_7, gl_8, gl_9, gl_10, gl_11, gl_12, gl_13, cl_0, cl_1, cl_2, cl_3, cl_4, cl_5, cl_6, cl_7, cl_8, cl_9, cl_10, cl_11, cl_12, cl_13, v1, v2, v4, e0, e1]
    rw [index_v zK_16, vb_s, gd_s rfl, s3, zb_s, gd_s rfl, s4, zb_s]
    simp (disch := omega) only [nb_s, gdi, nI_clamp, iA_1, iA_2, iA_3, iA_4, iA_5, iA_6, iA_7, iA_8, iA_9, iA_10, iA_11, iA_12, iA_13, iA_14, iA_15, iA_16, iA_17, iA_18, iA_19, iA_20, Ai_1, Ai_2, Ai_3, Ai_5, Ai_6, Ai_9, Ai_16, Mi_8, Mi_16, Mi_20, gl_0, gl_1, gl_2, gl_3, gl_4, gl_5, gl_6, gl_7, gl_8, gl_9, gl_10, gl_11, gl_12, gl_13, cl_0, cl_1, cl_2, cl_3, cl_4, cl_5, cl_6, cl_7, cl_8, cl_9, cl_10, cl_11, cl_12, cl_13, v1, v2, v4, e0, e1]
    rw [guess_v ei hi ⟨_, hb16, rfl⟩, vb_s, gd_s rfl]
  · have vX : mI (sA N4 X fun _ => 0) (x + 1095) = mI M (x + 1095) := by rw [mI_sAn (by omega), v4]
    obtain ⟨N', j', g1, g2, g3, g4⟩ := setl_go (a := x) (a1 := x + 1095) (p2 := nI v) (z := nI (1 + k2)) (x6 := nI (20 * v)) (x9 := 1) (X := X) hp 61 0 lfuel (vo r v 0, vo r v 1) (sI (sI (sA N4 X fun _ => 0) X 0 (vo r v 0)) X 1 (vo r v 1)) rfl (by decide) (by rw [mI_up, upd_ne (by decide), mI_up, upd_eq]) (by rw [mI_up, upd_eq]) b0 ⟨ii, hi, ei⟩
    have lo : ∀ b, b ≠ X → mI N' b = mI N4 b := fun b hb => by rw [g3 b hb, mI_sn hb, mI_sn hb, mI_sAn hb]
    have hc : CI x N' n r q b g c t l := h4.law (fun b hb => lo b (by omega)) (by rw [g4]; rfl)
    have hl : LI x N' r := by
      refine ⟨fun u hu => ?_, fun i hi => ?_, ?_⟩
      · rw [lo _ (by omega), lo _ (by omega), lo _ (by omega), lo _ (by omega)]
        exact hI4.1 u hu
      · rw [lo _ (by omega)]; exact hI4.2.1 i hi
      · rw [lo _ (by omega)]; exact hI4.2.2
    obtain ⟨N5, s5, k5⟩ := settle_T (z := nI (1 + k2)) hc hv hp (show ¬ nI (1 + k2) < (1 : Int32) from nI_nlt (b := 1) (by omega) (by omega)) (show nI (1 + k2) ≤ (2000 : Int32) from nI_le (b := 2000) (by omega) (by decide))
    refine ⟨N5, ?_, hc.lk k5, hl.lk k5⟩
    unfold f_swould1
    have vX2 : mI (sI (sA N4 X fun _ => 0) X 0 (vo r v 0)) (x + 1095) = mI M (x + 1095) := by rw [mI_sn (by omega), vX]
    simp (disch := omega) only [nb_s, gdi, nI_clamp, iA_1, iA_2, iA_3, iA_4, iA_5, iA_6, iA_7, iA_8, iA_9, iA_10, iA_11, iA_12, iA_13, iA_14, iA_15, iA_16, iA_17, iA_18, iA_19, iA_20, Ai_1, Ai_2, Ai_3, Ai_5, Ai_6, Ai_9, Ai_16, Mi_8, Mi_16, Mi_20, gl_0, gl_1, gl_2, gl_3, gl_4, gl_5, gl_6, gl_7, gl_8, gl_9, gl_10, gl_11, gl_12, gl_13, cl_0, cl_1, cl_2, cl_3, cl_4, cl_5, cl_6, cl_7, cl_8, cl_9, cl_10, cl_11, cl_12, cl_13, vX, vX2, e0, e1]
    refine Eq.trans g1 ?_
    unfold f_swould1_b301
    rw [gd_s (by decide), s5, zb_s, g2]
    by_cases h60 : nI j' ≤ 60
    · rw [if_pos h60, if_pos h60, gd_s rfl]
    · rw [if_neg h60, if_neg h60, gd_s rfl]
end LWOULD
