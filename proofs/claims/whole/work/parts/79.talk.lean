/-! TEXTS. A talk is done by both -/
section TALKL
variable {M M1 M' N N0 N1 N' : Mem} {x mo l i d d' e e' n k a c m v st nu p L kk : Nat} {ch P P' : Nat → Nat} {D D' : Nat → Nat × Nat × Int32} {q q' : Nat × Nat × Int32} {y y' z : Int32} {r r' s t w : Nat → Int32} {g : Nat → Nat → Int32} {b : Bool} {xs : Nat → Int32}
theorem SM.uq (h : SM ch p e y) (h' : SM ch p e' y') (hs : e < l → ¬ (48 ≤ ch e ∧ ch e ≤ 57)) (hs' : e' < l → ¬ (48 ≤ ch e' ∧ ch e' ≤ 57)) (hl : e ≤ l) (hl' : e' ≤ l) : e = e' ∧ y = y' := by
  obtain ⟨g, v, hg, h1, h2, h3, h4, h5⟩ := h
  obtain ⟨g', v', hg', h1', h2', h3', h4', h5'⟩ := h'
  have eg : g = g' := by rcases hg with ⟨z1, z2⟩ | ⟨z1, z2⟩ <;> rcases hg' with ⟨z3, z4⟩ | ⟨z3, z4⟩ <;> first | omega | exact absurd z2 z4 | exact absurd z4 z2
  subst eg
  have ee : e = e' := by
    by_cases hlt : e < e'
    · exact absurd (h2' e (by omega) hlt) (hs (by omega))
    · by_cases hgt : e' < e
      · exact absurd (h2 e' (by omega) hgt) (hs' (by omega))
      · omega
  subst ee
  refine ⟨rfl, ?_⟩
  rw [h5, h5', h3, h3']
theorem ND.uq (hk : ∀ j, j < k → D j = D' j) (h : ND ch D k p e q) (h' : ND ch D' k p e' q') (hs : e < l → ch e = 44 ∨ ch e = 59) (hs' : e' < l → ch e' = 44 ∨ ch e' = 59) (hl : e ≤ l) (hl' : e' ≤ l) : e = e' ∧ q = q' := by
  have ns : e < l → ¬ (48 ≤ ch e ∧ ch e ≤ 57) := fun z => by have := hs z; omega
  have ns' : e' < l → ¬ (48 ≤ ch e' ∧ ch e' ≤ 57) := fun z => by have := hs' z; omega
  have lt : ∀ {p e : Nat} {y : Int32}, SM ch p e y → p < e := fun h => by
    obtain ⟨g, v, hg, h1, -⟩ := h
    omega
  have qe : ∀ {q q' : Nat × Nat × Int32}, q.1 = q'.1 → q.2.1 = q'.2.1 → q.2.2 = q'.2.2 → q = q' := fun h1 h2 h3 => Prod.ext h1 (Prod.ext h2 h3)
  have fn : ∀ {e e' : Nat} {y y' : Int32}, ch (p + 1) = 58 → SM ch (p + 2) e y → SM ch p e' y' → e ≤ l → e' ≤ l → (e' < l → ch e' = 44 ∨ ch e' = 59) → False := fun {e e' y y'} h1 h2 h3 h4 h5 h6 => by
    have z1 := lt h2
    have z2 := lt h3
    obtain ⟨-, hne⟩ := sm_ne h3 (show p < l by omega)
    by_cases h7 : p + 1 < e'
    · exact hne h7 h1
    · have h8 : e' = p + 1 := by omega
      have h9 := h6 (by omega)
      rw [h8] at h9
      omega
  rcases h with ⟨n1, n2, n3, n4, n5, n6, n7⟩ | ⟨n1, n2, n3, n4, n5, n6⟩ | ⟨j, n0, n1, n2, n3, n4⟩
  · rcases h' with ⟨m1, m2, m3, m4, m5, m6, m7⟩ | ⟨m1, m2, m3, m4, m5, m6⟩ | ⟨j', m0, m1, m2, m3, m4⟩
    · exact ⟨by omega, qe (by rw [n2, m2]) (by rw [n5, m5]) (by rw [n7, m7])⟩
    · omega
    · exact absurd n1 (sm_ne m4 (by have := lt m4; omega : p < l)).1
  · rcases h' with ⟨m1, m2, m3, m4, m5, m6, m7⟩ | ⟨m1, m2, m3, m4, m5, m6⟩ | ⟨j', m0, m1, m2, m3, m4⟩
    · omega
    · obtain ⟨z1, z2⟩ := n6.uq m6 ns ns' hl hl'
      exact ⟨z1, qe (by rw [n1, m1]) (by rw [n5, m5]) z2⟩
    · exact (fn n4 n6 m4 hl hl' hs').elim
  · rcases h' with ⟨m1, m2, m3, m4, m5, m6, m7⟩ | ⟨m1, m2, m3, m4, m5, m6⟩ | ⟨j', m0, m1, m2, m3, m4⟩
    · exact absurd m1 (sm_ne n4 (by have := lt n4; omega : p < l)).1
    · exact (fn m4 m6 n4 hl' hl hs).elim
    · obtain ⟨z1, z2⟩ := n4.uq m4 ns ns' hl hl'
      have ej : j = j' := by omega
      subst ej
      exact ⟨z1, qe (by rw [n2, m2]) (by rw [n3, m3, hk j (by omega)]) z2⟩
theorem CH.end_ (h : CH l ch D P d) (hP : P d = l + 1) (hk : k < d) : P (k + 1) - 1 < l → ch (P (k + 1) - 1) = 44 ∨ ch (P (k + 1) - 1) = 59 := by
  intro hlt
  by_cases hkd : k + 1 < d
  · exact (h.2.2 (k + 1) (by omega) hkd).2
  · have : k + 1 = d := by omega
    rw [this, hP] at hlt
    omega
theorem CH.uq (h : CH l ch D P d) (hP : P d = l + 1) (h' : CH l ch D' P' d') (hP' : P' d' = l + 1) : ∀ k, k ≤ d → k ≤ d' → P k = P' k ∧ ∀ j, j < k → D j = D' j := by
  intro k
  induction k with
  | zero => exact fun _ _ => ⟨h.1.trans h'.1.symm, fun j hj => by omega⟩
  | succ k ih =>
    intro hk hk'
    obtain ⟨e1, e2⟩ := ih (by omega) (by omega)
    obtain ⟨g1, g2, g3, g4⟩ := h.2.1 k (by omega)
    obtain ⟨f1, f2, f3, f4⟩ := h'.2.1 k (by omega)
    rw [← e1] at f3
    obtain ⟨u1, u2⟩ := ND.uq e2 g3 f3 (h.end_ hP (by omega)) (h'.end_ hP' (by omega)) (by omega) (by omega)
    refine ⟨by omega, fun j hj => ?_⟩
    by_cases hjk : j = k
    · subst hjk; exact u2
    · exact e2 j (by omega)
theorem CH.uqd (h : CH l ch D P d) (hP : P d = l + 1) (h' : CH l ch D' P' d') (hP' : P' d' = l + 1) : d = d' := by
  by_cases hlt : d < d'
  · have h1 := (h.uq hP h' hP' d (Nat.le_refl _) (by omega)).1
    have h2 := h'.2.1 d hlt
    have h3 := dl_n d' h' (Nat.le_refl _)
    have hd0 : 0 < d ∨ d = 0 := by omega
    rcases hd0 with hd0 | hd0
    · have h4 := (h'.2.2 d hd0 hlt).1
      omega
    · rw [hd0] at hP
      have := h.1
      omega
  · by_cases hgt : d' < d
    · have h1 := (h.uq hP h' hP' d' (by omega) (Nat.le_refl _)).1
      have hd0 : 0 < d' ∨ d' = 0 := by omega
      rcases hd0 with hd0 | hd0
      · have h4 := (h.2.2 d' hd0 hgt).1
        omega
      · rw [hd0] at hP'
        have := h'.1
        omega
    · omega
/-! whether a deed can be done; doing it -/
def cnD (kk : Nat) (r w : Nat → Int32) : Int32 := if kk = 115 then zCS r w else if kk = 120 then (if w 38 < 2 then 0 else 1) else if w 38 < 1 then 0 else 1
def knd (kk : Nat) : Prop := kk = 115 ∨ kk = 100 ∨ kk = 108 ∨ kk = 120
theorem ND.kn (h : ND ch D k p e q) : knd q.1 := by
  unfold knd
  rcases h with ⟨n1, n2, -⟩ | ⟨n1, -⟩ | ⟨j, n0, n1, n2, -⟩
  · omega
  · exact Or.inl n1
  · exact Or.inl n2
theorem canD_c (h : CI x M n r s b g c t l) (hv : v < 3) (hk : knd kk) : f_X8_canDo x (nI (kd kk)) (x + 5 + 44 * v) M = some (cnD kk r (vo r v)) := by
  obtain ⟨hV, hW, hB, hS, hR⟩ := h.rv hv
  unfold f_X8_canDo f_X8_canDo_b12 cnD
  rw [hV.2.1.1]
  rcases hk with rfl | rfl | rfl | rfl
  · rw [if_neg (show ¬ nI (kd 115) = 100 by decide), if_neg (show ¬ nI (kd 115) = 108 by decide), if_neg (show ¬ nI (kd 115) = 120 by decide), can_c hV hS, vb_s, gd_s zCS_01, if_pos rfl]
  · rw [if_pos (show nI (kd 100) = 100 by decide), if_neg (show ¬ (100 : Nat) = 115 by decide), if_neg (show ¬ (100 : Nat) = 120 by decide)]
    split <;> rfl
  · rw [if_neg (show ¬ nI (kd 108) = 100 by decide), if_pos (show nI (kd 108) = 108 by decide), if_neg (show ¬ (108 : Nat) = 115 by decide), if_neg (show ¬ (108 : Nat) = 120 by decide)]
    split <;> rfl
  · rw [if_neg (show ¬ nI (kd 120) = 100 by decide), if_neg (show ¬ nI (kd 120) = 108 by decide), if_pos (show nI (kd 120) = 120 by decide), if_neg (show ¬ (120 : Nat) = 115 by decide), if_pos rfl]
    split <;> rfl
theorem canD_m (h : MI mo N r s b g c t l) (hv : v < 3) (hB : WB n (vo r v)) (hk : knd kk) (hk32 : k < 32) (h7 : mI N (mo + 7) k = nI kk) (h8 : mI N (mo + 8) k = nI v) : f_X9_canDo mo (nI k) N = some (cnD kk r (vo r v)) := by
  obtain ⟨W, w1, w2, -⟩ := hB.2.2
  have l1 : (nI W < 1) ↔ nI W ≤ 0 := by
    rw [show (1 : Int32) = nI 1 from rfl, show (0 : Int32) = nI 0 from rfl, nI_ltI (by omega) (by decide), nI_leI (by omega) (by decide)]
    omega
  have l2 : (nI W < 2) ↔ nI W ≤ 1 := by
    rw [show (2 : Int32) = nI 2 from rfl, show (1 : Int32) = nI 1 from rfl, nI_ltI (by omega) (by decide), nI_leI (by omega) (by decide)]
    omega
  have hix : ix (nI k) 32 := nI_ix hk32 (by decide)
  unfold f_X9_canDo f_X9_canDo_b54 cnD
  simp only [gd_s hix]
  rw [nI_clamp (by omega), h7, h8, of_m 38 h hv (by decide), vb_s, can_m h hv, vb_s, gd_s zCS_01, w2]
  rcases hk with rfl | rfl | rfl | rfl
  · rw [if_pos (show nI 115 = 115 from rfl), if_pos rfl]
  · rw [if_neg (show ¬ nI 100 = 115 by decide), if_neg (show ¬ nI 100 = 120 by decide), if_neg (show ¬ (100 : Nat) = 115 by decide), if_neg (show ¬ (100 : Nat) = 120 by decide)]
    simp only [l1]
    split <;> rfl
  · rw [if_neg (show ¬ nI 108 = 115 by decide), if_neg (show ¬ nI 108 = 120 by decide), if_neg (show ¬ (108 : Nat) = 115 by decide), if_neg (show ¬ (108 : Nat) = 120 by decide)]
    simp only [l1]
    split <;> rfl
  · rw [if_neg (show ¬ nI 120 = 115 by decide), if_pos (show nI 120 = 120 from rfl), if_neg (show ¬ (120 : Nat) = 115 by decide), if_pos rfl]
    simp only [l2]
    split <;> rfl
theorem doD (h : CI x M n r s b g c t l) (hv : v < 3) (hn : n < 9998) (hk : knd kk) (hy : kk = 115 → B2 y) (hcan : cnD kk r (vo r v) ≠ 0) : ∃ r' M', f_X8_doDeed x (nI (kd kk)) (x + 5 + 44 * v) y M = some M' ∧ CI x M' (n + 1) r' s b g c t l ∧ Out x M M' ∧ mI M' (x + 274) = mI M (x + 274) ∧ ∀ N k, MI (x + 1095) N r s b g c t l → k < 32 → mI N (x + 1095 + 7) k = nI kk → mI N (x + 1095 + 8) k = nI v → (kk = 115 → mI N (x + 1095 + 9) k = y) → ∃ z, f_X9_doDeed (x + 1095) (nI k) N = some (z, sA N (x + 1095 + 1) r') := by
  obtain ⟨hV, hW, hB, hS, hR⟩ := h.rv hv
  obtain ⟨W, w1, w2, -⟩ := hB.2.2
  unfold cnD at hcan
  rcases hk with rfl | rfl | rfl | rfl
  · rw [if_pos rfl] at hcan
    have hc1 : zCS r (vo r v) = 1 := zCS_01.resolve_left hcan
    obtain ⟨M2, e2, k1, k2, k3, k4⟩ := take_c (x := y) hV hW hS (by omega) hB hR (hy rfl) hc1
    obtain ⟨h2, o2⟩ := h.live (y := 1) (r' := zSaid r) hv k3 k1 k2 (WB.say hB hR (hy rfl) hc1 (by omega)) (by omega) k4 (fun i hi => upd_ne hi) upd_eq
    refine ⟨_, M2, ?_, h2, o2, k3.1 _ (by omega), fun N k hN hk32 h7 h8 h9 => ⟨zSayC cSTEPS r (vo r v) y, ?_⟩⟩
    · unfold f_X8_doDeed
      rw [if_neg (show ¬ nI (kd 115) = 100 by decide), if_neg (show ¬ nI (kd 115) = 108 by decide), if_neg (show ¬ nI (kd 115) = 120 by decide), e2, cb_s]
    · have hix : ix (nI k) 32 := nI_ix hk32 (by decide)
      unfold f_X9_doDeed
      simp only [gd_s hix, nb_s]
      rw [nI_clamp (by omega), h7, h8, h9 rfl, if_neg (show ¬ nI 115 = 100 by decide), if_neg (show ¬ nI 115 = 108 by decide), if_pos (show nI 115 = 115 from rfl), sayN_m hN hv hB hR (hy rfl) hc1, cb_s]
  · rw [if_neg (by decide), if_neg (by decide), w2] at hcan
    obtain ⟨W', rfl⟩ : ∃ u, W = u + 1 := by
      cases W with
      | zero => exact absurd rfl hcan
      | succ u => exact ⟨u, rfl⟩
    obtain ⟨M2, e2, k1, k2, k3, k5⟩ := bring_c hV hW hB (by omega) w2 (by omega)
    obtain ⟨h2, o2⟩ := h.live (y := 0) (r' := r) hv k3 k1 k2 (WB.dv (T := cSTEPS) hB w2 (by omega) (by omega)).1 (by omega) (by rw [k5, Int32.add_zero]) (fun _ _ => rfl) (Int32.add_zero _).symm
    refine ⟨_, M2, ?_, h2, o2, k3.1 _ (by omega), fun N k hN hk32 h7 h8 h9 => ⟨zDa (vo r v), ?_⟩⟩
    · unfold f_X8_doDeed
      rw [if_pos (show nI (kd 100) = 100 by decide), e2, cb_s]
    · have hix : ix (nI k) 32 := nI_ix hk32 (by decide)
      unfold f_X9_doDeed
      simp only [gd_s hix, nb_s]
      rw [nI_clamp (by omega), h7, h8, if_pos (show nI 100 = 100 from rfl), dlvN_m hN hv hB (by omega) w2 (by omega), cb_s]
  · rw [if_neg (by decide), if_neg (by decide), w2] at hcan
    obtain ⟨W', rfl⟩ : ∃ u, W = u + 1 := by
      cases W with
      | zero => exact absurd rfl hcan
      | succ u => exact ⟨u, rfl⟩
    obtain ⟨M2, e2, k1, k2, k3, k5⟩ := drop_c hV hW w2 (by omega)
    obtain ⟨h2, o2⟩ := h.live (y := 0) (r' := r) hv k3 k1 k2 (WB.lo hB w2 (by omega)) (by omega) (by rw [k5, Int32.add_zero]) (fun _ _ => rfl) (Int32.add_zero _).symm
    refine ⟨_, M2, ?_, h2, o2, k3.1 _ (by omega), fun N k hN hk32 h7 h8 h9 => ⟨vo r v 39, ?_⟩⟩
    · unfold f_X8_doDeed
      rw [if_neg (show ¬ nI (kd 108) = 100 by decide), if_pos (show nI (kd 108) = 108 by decide), e2, cb_s]
    · have hix : ix (nI k) 32 := nI_ix hk32 (by decide)
      unfold f_X9_doDeed
      simp only [gd_s hix, nb_s]
      rw [nI_clamp (by omega), h7, h8, if_neg (show ¬ nI 108 = 100 by decide), if_pos (show nI 108 = 108 from rfl), loseN_m hN hv w2 (by omega), cb_s]
  · rw [if_neg (by decide), if_pos rfl, w2] at hcan
    obtain ⟨W', rfl⟩ : ∃ u, W = u + 2 := by
      cases W with
      | zero => exact absurd rfl hcan
      | succ u =>
        cases u with
        | zero => exact absurd rfl hcan
        | succ u => exact ⟨u, rfl⟩
    obtain ⟨M2, e2, k1, k2, k3, k5⟩ := exch_c hV hW w2 w1
    obtain ⟨h2, o2⟩ := h.live (y := 0) (r' := r) hv k3 k1 k2 (WB.sw hB w2 w1 |>.mono (by omega : n ≤ n + 1)) (by omega) (by rw [k5, Int32.add_zero]) (fun _ _ => rfl) (Int32.add_zero _).symm
    refine ⟨_, M2, ?_, h2, o2, k3.1 _ (by omega), fun N k hN hk32 h7 h8 h9 => ⟨zSw (vo r v) 39 39, ?_⟩⟩
    · unfold f_X8_doDeed
      rw [if_neg (show ¬ nI (kd 120) = 100 by decide), if_neg (show ¬ nI (kd 120) = 108 by decide), if_pos (show nI (kd 120) = 120 by decide), e2, cb_s]
    · have hix : ix (nI k) 32 := nI_ix hk32 (by decide)
      unfold f_X9_doDeed
      simp only [gd_s hix, nb_s]
      rw [nI_clamp (by omega), h7, h8, if_neg (show ¬ nI 120 = 100 by decide), if_neg (show ¬ nI 120 = 108 by decide), if_neg (show ¬ nI 120 = 115 by decide), swapN_m hN hv, cb_s]
end TALKL
