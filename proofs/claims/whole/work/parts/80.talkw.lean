/-! THE LAW. Turn 9: a talk -/
section TALKW
variable {M M1 M' N N0 N1 N' : Mem} {x mo l i d d' e e' n k a c m v st nu p L kk : Nat} {ch P P' : Nat → Nat} {D D' : Nat → Nat × Nat × Int32} {q q' : Nat × Nat × Int32} {y y' z : Int32} {r r' s t w : Nat → Int32} {g : Nat → Nat → Int32} {b : Bool} {xs : Nat → Int32}
theorem save_f (h : MI mo M r s b g c t l) (hc : c ≤ 6) (e : f_X9_save mo M = some M') : ∀ b, b ≠ mo → b ≠ mo + 2 → mI M' b = mI M b := by
  have h5 := h.2.2.1.1
  unfold f_X9_save at e
  rw [h5] at e
  by_cases hc6 : c = 6
  · subst hc6
    have e0 : sA M (mo + 2) (mI M (mo + 2)) = M := sA_eq M _
    have sh := shift_go (M := M) (mo := mo) h5 3130 0 lfuel (mI M (mo + 2)) rfl (by decide)
    rw [e0] at sh
    rw [if_pos (show nI 6 = 6 from rfl), show (0 : Int32) = nI 0 from rfl, sh] at e
    unfold f_X9_save_b50 at e
    rw [show (0 : Int32) = nI 0 from rfl, save_go (c := 5) (by decide) 626 0 lfuel _ rfl (by decide) mI_ss] at e
    have e2 := Option.some.inj e
    intro b hb hb2
    rw [← e2, mI_sn hb, mI_sAn hb2, mI_sn hb, mI_sAn hb2]
  · rw [if_neg (show ¬ nI c = (6 : Int32) from fun z => hc6 ((nI_eq (b := 6) (by omega) (by decide)).mp z))] at e
    unfold f_X9_save_b50 at e
    rw [show (0 : Int32) = nI 0 from rfl, save_go (c := c) (by omega) 626 0 lfuel M rfl (by decide) h5] at e
    have e2 := Option.some.inj e
    intro b hb hb2
    rw [← e2, mI_sn hb, mI_sAn hb2]
theorem SM.B (h : SM ch p e y) : B2 y := by
  obtain ⟨gg, v, hg, h1, h2, h4, h5, h6⟩ := h
  rw [h6]
  unfold B2
  split
  · rw [Int32.toInt_neg, nI_toInt (by omega), Int.bmod_eq_of_le_mul_two (by omega) (by omega)]
    omega
  · rw [nI_toInt (by omega)]
    omega
theorem MI.clr (h : MI mo N r s b g c t l) : MI mo (sI N mo 9 0) r s b g c t 0 := by
  obtain ⟨⟨h3, h4⟩, ⟨h5, h6⟩, ⟨h7, h8⟩, h9, h10⟩ := h
  refine ⟨⟨?_, ?_⟩, ⟨?_, ?_⟩, ⟨?_, ?_⟩, mI_ss, fun i hi => by omega⟩
  · rw [mI_sn (by omega)]; exact h3
  · rw [mI_sn (by omega)]; exact h4
  · rw [mI_sk (by decide)]; exact h5
  · rw [mI_sn (by omega)]; exact h6
  · rw [mI_sk (by decide)]; exact h7
  · rw [mI_sn (by omega)]; exact h8
/-- the deeds laid out in the reference -/
def DL (mo d : Nat) (D : Nat → Nat × Nat × Int32) (N : Mem) : Prop := mI N mo 11 = nI d ∧ ∀ j, j < d → mI N (mo + 7) j = nI (D j).1 ∧ mI N (mo + 8) j = nI (D j).2.1 ∧ mI N (mo + 9) j = (D j).2.2
theorem tk_go (hC : CH l (chT t) D P d) (hP : P d = l + 1) (hd30 : d ≤ 30) : ∀ (f k n m : Nat) (M : Mem) (r : Nat → Int32), k + f = d → f < m → n + f < 9998 → CI x M n r s b g c t l → mI M (x + 274) 3 = nI (P k) → (∀ j, k = j + 1 → mI M (x + 274) 5 = nI (D j).2.1) → ∃ y r' M', f_X8_talk_b35 x m (nI k) (nI k) M = some (0, y, M') ∧ CI x M' (n + f) r' s b g c t 0 ∧ Out x M M' ∧ ∀ (N : Mem) (m' : Nat), f < m' → MI (x + 1095) N r s b g c t l → DL (x + 1095) d D N → ∃ N', f_X9_talk_b24 (x + 1095) m' (nI k) N = some (y, N') ∧ MI (x + 1095) N' r' s b g c t 0 ∧ OutM (x + 1095) N N' ∧ mI N' (x + 1095) 7 = mI N (x + 1095) 7 := by
  intro f
  induction f with
  | zero =>
    intro k n m M r hk hm hn h h3 h5
    obtain ⟨m, rfl⟩ : ∃ u, m = u + 1 := ⟨m - 1, by omega⟩
    have hk : k = d := by omega
    subst hk
    have h60 := h.tx.2.1
    obtain ⟨c1, c2⟩ := h.clr
    have b114 : f_X8_talk_b114 x (nI k) M = some (0, nI k, sI M (x + 274) 1 0) := rfl
    refine ⟨nI k, r, sI M (x + 274) 1 0, ?_, c1, c2, fun N m' hm' hN hD => ⟨sI N (x + 1095) 9 0, ?_, hN.clr, OutM.sI (by omega) (by omega), mI_sk (by decide)⟩⟩
    · rw [f_X8_talk_b35, h.tx.1]
      by_cases hlk : l ≤ k
      · rw [if_pos (nI_le hlk (by omega)), b114]
      · have rd : f_X6_readDeed (x + 274) M = some (0, M) := by
          unfold f_X6_readDeed
          rw [h3, h.tx.1, hP, if_neg (nI_nlt (by omega) (by omega))]
        rw [if_neg (nI_ge (by omega) (by omega)), rd, cb_s, if_pos rfl, b114]
    · obtain ⟨m', rfl⟩ : ∃ u, m' = u + 1 := ⟨m' - 1, by omega⟩
      rw [f_X9_talk_b24, hD.1, if_pos (nI_le (Nat.le_refl _) (by omega))]
      rfl
  | succ f ih =>
    intro k n m M r hk hm hn h h3 h5
    obtain ⟨m, rfl⟩ : ∃ u, m = u + 1 := ⟨m - 1, by omega⟩
    have hkd : k < d := by omega
    have h60 := h.tx.2.1
    obtain ⟨g1, g2, g3, g4⟩ := hC.2.1 k hkd
    obtain ⟨M1, e1, p3, p4, p5, p6, pf, pj, p2, ple⟩ := deed_c h.tx h3 (show P (k + 1) - 1 ≤ l by omega) (hC.end_ hP hkd) g3 g4 h5
    have hkl : k < l := by have := dl_n k hC (by omega); omega
    obtain ⟨hC1, o1⟩ := h.sc (M' := M1) pf (pj 1 (by decide)) p2
    have kn := g3.kn
    have cl := canD_c hC1 (v := (D k).2.1) g4 kn
    obtain ⟨hV, hW, hB, hS, hR⟩ := hC1.rv (v := (D k).2.1) g4
    have st : f_X8_talk_b35 x (m + 1) (nI k) (nI k) M = if cnD (D k).1 r (vo r (D k).2.1) = 0 then f_X8_talk_b114 x (nI k) M1 else vb (f_X8_doDeed x (nI (kd (D k).1)) (x + 5 + 44 * (D k).2.1) (mI M1 (x + 274) 6) M1) fun M15 => f_X8_talk_b35 x m (nI (k + 1)) (nI (k + 1)) M15 := by
      rw [f_X8_talk_b35, h.tx.1, if_neg (nI_ge hkl (by omega)), e1, cb_s, if_neg (by decide), p5, voice_ok g4, xb_s, p4, cl, vb_s]
      simp only [nb_s, ← nI_succ]
    have sm : ∀ N : Mem, MI (x + 1095) N r s b g c t l → DL (x + 1095) d D N → f_X9_canDo (x + 1095) (nI k) N = some (cnD (D k).1 r (vo r (D k).2.1)) := fun N hN hD => canD_m hN g4 hB kn (by omega) (hD.2 k hkd).1 (hD.2 k hkd).2.1
    by_cases hcan : cnD (D k).1 r (vo r (D k).2.1) = 0
    · obtain ⟨c1, c2⟩ := hC1.clr
      refine ⟨nI k, r, sI M1 (x + 274) 1 0, ?_, c1.mono (by omega), o1.trans c2, fun N m' hm' hN hD => ⟨sI N (x + 1095) 9 0, ?_, hN.clr, OutM.sI (by omega) (by omega), mI_sk (by decide)⟩⟩
      · rw [st, if_pos hcan]; rfl
      · obtain ⟨m', rfl⟩ : ∃ u, m' = u + 1 := ⟨m' - 1, by omega⟩
        rw [f_X9_talk_b24, hD.1, if_neg (nI_ge hkd (by omega)), sm N hN hD, vb_s, if_pos hcan]
        rfl
    · have hy : (D k).1 = 115 → B2 (mI M1 (x + 274) 6) := fun h115 => by
        rw [p6 h115]
        rcases g3 with ⟨n1, n2, -⟩ | ⟨-, -, -, -, -, n6⟩ | ⟨j, -, -, -, -, n6⟩
        · omega
        · exact n6.B
        · exact n6.B
      obtain ⟨r1, M2, d1, d2, d3, d4, d5⟩ := doD hC1 (v := (D k).2.1) g4 (by omega) kn hy hcan
      obtain ⟨y, r', M', i1, i2, i3, i4⟩ := ih (k + 1) (n + 1) m M2 r1 (by omega) (by omega) (by omega) d2 (by rw [d4, p3]; congr 1; omega) (fun j hj => by
        have : j = k := by omega
        subst this
        rw [d4]; exact p5)
      refine ⟨y, r', M', ?_, by rw [show n + (f + 1) = n + 1 + f by omega]; exact i2, (o1.trans d3).trans i3, fun N m' hm' hN hD => ?_⟩
      · rw [st, if_neg hcan, d1, vb_s]
        exact i1
      · obtain ⟨m', rfl⟩ : ∃ u, m' = u + 1 := ⟨m' - 1, by omega⟩
        obtain ⟨a7, a8, a9⟩ := hD.2 k hkd
        obtain ⟨zz, dz⟩ := d5 N k hN (by omega) a7 a8 (fun h115 => by rw [a9, p6 h115])
        have hN2 : MI (x + 1095) (sA N (x + 1095 + 1) r1) r1 s b g c t l := hN.row
        have hD2 : DL (x + 1095) d D (sA N (x + 1095 + 1) r1) := ⟨by rw [mI_sAn (by omega)]; exact hD.1, fun j hj => by rw [mI_sAn (by omega), mI_sAn (by omega), mI_sAn (by omega)]; exact hD.2 j hj⟩
        obtain ⟨N', j1, j2, j3, j4⟩ := i4 (sA N (x + 1095 + 1) r1) m' (by omega) hN2 hD2
        refine ⟨N', ?_, j2, (OutM.sA (by omega) (by omega)).trans j3, by rw [j4, mI_sAn (by omega)]⟩
        rw [f_X9_talk_b24, hD.1, if_neg (nI_ge hkd (by omega)), sm N hN hD, vb_s, if_neg hcan, dz, cb_s, nb_s, ← nI_succ]
        exact j1
theorem dfa_le : ∀ (f i st nu : Nat), st < 9 → i ≤ (dfa ch f i st nu).1 ∧ (dfa ch f i st nu).1 ≤ i + f ∧ (dfa ch f i st nu).2 < 9 := by
  intro f
  induction f with
  | zero => intro i st nu h; exact ⟨Nat.le_refl _, Nat.le_refl _, h⟩
  | succ f ih =>
    intro i st nu h
    unfold dfa
    split
    · exact ⟨Nat.le_refl _, by omega, (show (8:Nat) < 9 by decide)⟩
    · obtain ⟨h1, h2, h3⟩ := ih (i + 1) (dl st (ch i) (nuN (ch i) nu)) (nuN (ch i) nu) dl_lt
      exact ⟨by omega, by omega, h3⟩
theorem comp_T (h : CI x M n r s b g c t l) : ∃ M' z, f_X6_isComplete (x + 274) M = some (z, M') ∧ CI x M' n r s b g c t l ∧ Out x M M' ∧ (z = 1 ∧ (dfa (chT t) l 0 0 0).1 = l ∧ acc (dfa (chT t) l 0 0 0).2 ∨ z = 0 ∧ ¬ ((dfa (chT t) l 0 0 0).1 = l ∧ acc (dfa (chT t) l 0 0 0).2)) := by
  obtain ⟨M1, e1, e2, h1, o1, hj⟩ := look_T h
  obtain ⟨b1, b2, b3⟩ := dfa_le (ch := chT t) l 0 0 0 (by decide)
  have h60 := h.tx.2.1
  have e3 : mI M1 (x + 274) 1 = nI l := (hj 1 (by decide)).trans h.tx.1
  generalize dfa (chT t) l 0 0 0 = X at *
  unfold f_X6_isComplete
  rw [e1, cb_s, e3, e2]
  by_cases h1l : X.1 = l
  · rw [h1l, if_pos rfl]
    have ds : ∀ u, u < 9 → u ≠ 8 → (dI X.2 = nI u ↔ X.2 = u) := fun u hu hu8 => by
      unfold dI
      by_cases h8 : X.2 = 8
      · rw [if_pos h8, h8]
        refine ⟨fun z => ?_, fun z => absurd z.symm hu8⟩
        have := congrArg Int32.toInt z
        rw [nI_toInt (by omega), show (-1 : Int32).toInt = -1 by decide] at this
        omega
      · rw [if_neg h8]
        exact nI_eq (by omega) (by omega)
    have d4 : dI X.2 = 4 ↔ X.2 = 4 := ds 4 (by decide) (by decide)
    have d5 : dI X.2 = 5 ↔ X.2 = 5 := ds 5 (by decide) (by decide)
    have d7 : dI X.2 = 7 ↔ X.2 = 7 := ds 7 (by decide) (by decide)
    simp only [d4, d5, d7]
    by_cases a4 : X.2 = 4
    · exact ⟨M1, 1, by rw [if_pos a4], h1, o1, Or.inl ⟨rfl, trivial, Or.inl a4⟩⟩
    · by_cases a5 : X.2 = 5
      · exact ⟨M1, 1, by rw [if_neg a4, if_pos a5], h1, o1, Or.inl ⟨rfl, trivial, Or.inr (Or.inl a5)⟩⟩
      · by_cases a7 : X.2 = 7
        · exact ⟨M1, 1, by rw [if_neg a4, if_neg a5, if_pos a7], h1, o1, Or.inl ⟨rfl, trivial, Or.inr (Or.inr a7)⟩⟩
        · exact ⟨M1, 0, by rw [if_neg a4, if_neg a5, if_neg a7], h1, o1, Or.inr ⟨rfl, fun z => by rcases z.2 with z | z | z; exact a4 z; exact a5 z; exact a7 z⟩⟩
  · exact ⟨M1, 0, by rw [if_neg (fun z => h1l ((nI_eq (by omega) (by omega)).mp z))], h1, o1, Or.inr ⟨rfl, fun z => h1l z.1⟩⟩
theorem w_9 (hL : 4 * k + 4 ≤ L) (hL2 : L ≤ 2048) (h : Inv x k M) : ∃ M', f_law_9 x (x + 1095) (x + 1105) (x + 1106) xs L (Int32.ofNat (4 * k)) M = some M' ∧ Inv x (k + 1) M' := by
  obtain ⟨r, s, b, g, c, t, l, hl, hC, hI⟩ := h
  have hc6 := hC.2.2.1.2.1
  have hT := hC.tx
  have tkM : ∀ N, MI (x + 1095) N r s b g c t l → TALK (x + 1095) l (chT t) (sI N (x + 1095) 7 0) (f_X9_isTalk (x + 1095) (sI N (x + 1095) 7 0)) (dfa (chT t) l 0 0 0) := fun N hN => by
    have hN0 := hN7 hN
    exact talk_m hT.2.1 (fun j hj => (hT.2.2 j hj).2) hN0.2.2.2.1 (fun j hj => by
      rw [hN0.2.2.2.2 j hj]
      obtain ⟨h1, a, h2, h3, h4⟩ := hC.2.2.2.2.2.2.2 j hj
      unfold chT
      rw [h4, nI_clamp (by omega)])
  obtain ⟨M1, z, e1, h1, o1, hz⟩ := comp_T hC
  have hI1 : MI (x + 1095) M1 r s b g c t l := hI.out fun b hb => o1.1 b (by omega)
  unfold f_law_9 f_L_talk
  rcases hz with ⟨rfl, hz1, hz2⟩ | ⟨rfl, hz1⟩
  · -- a talk
    rcases tkM M hI with ⟨N0, d, D, P, -, -, -, kC, kP, kd0, kd2, -, -⟩ | ⟨N0, -, -, -, k4⟩
    · obtain ⟨M2, e2, h2, o2⟩ := save_c h1
      obtain ⟨h3, o3⟩ := h2.sc (M' := sI M2 (x + 274) 3 0) (fun b hb => mI_sn hb) (mI_sk (by decide)) rfl
      have h60 := hT.2.1
      obtain ⟨y, r', M3, i1, i2, i3, i4⟩ := tk_go kC kP (by omega) d 0 (k - l) lfuel (sI M2 (x + 274) 3 0) r (by omega) (by unfold lfuel; omega) (by omega) h3 (by rw [mI_ss, kC.1]; rfl) (fun j hj => by omega)
      refine law_ret (fm := fun N => f_X9_talk (x + 1095) N) hI (y := y) (n' := k - l + d) (r' := r') (l' := 0) (c' := svC c) (g' := svG g c r) (q' := s) (b' := b) (t' := t) ⟨M3, ?_, i2, ((o1.trans o2).trans o3).trans i3⟩ (fun N hN => ?_) (by omega) (by omega)
      · unfold f_X8_talk f_X6_startReading
        rw [e1, cb_s, if_neg (by decide), e2, vb_s, nb_s, vb_s]
        exact i1
      · rcases tkM N hN with ⟨N1, d', D', P', a1, a2, a3, aC, aP, ad0, ad2, -, -⟩ | ⟨N1, -, -, -, a4⟩
        · have ed := kC.uqd kP aC aP
          subst ed
          have uq := (kC.uq kP aC aP d (Nat.le_refl _) (Nat.le_refl _)).2
          have hN1 := a2.mi (hN7 hN)
          obtain ⟨N2, b1, b2, b3, b4⟩ := save_m hN1 hc6
          have sf := save_f hN1 hc6 b1
          have hD : DL (x + 1095) d D N2 := ⟨by rw [b4 11 (by decide)]; exact a3.2.2.1, fun j hj => by
            rw [sf _ (by omega) (by omega), sf _ (by omega) (by omega), sf _ (by omega) (by omega), uq j hj]
            exact a3.2.2.2.2 j hj⟩
          obtain ⟨N3, j1, j2, j3, j4⟩ := i4 N2 lfuel (by unfold lfuel; omega) b2 hD
          refine ⟨r', s, ⟨N3, ?_, j2, (((OutM.sI (by omega) (by omega)).trans a2.out).trans b3).trans j3, ?_⟩, fun _ _ => rfl, fun _ _ _ => rfl⟩
          · unfold f_X9_talk
            rw [nb_s, a1, cb_s, if_neg (by decide), b1, vb_s]
            exact j1
          · rw [j4, b4 7 (by decide), a2.1 _ _ (by omega) (by omega) (by omega) (by omega), mI_ss]
        · exact absurd ⟨hz1, hz2⟩ a4
    · exact absurd ⟨hz1, hz2⟩ k4
  · -- none
    refine law_exc (M := M1) (fm := fun N => f_X9_talk (x + 1095) N) (u := 1) (j := 2) (y := 0) hI1 h1 hl ?_ (by decide) rfl (by decide) (by decide) (z := 0) ?_
    · unfold f_X8_talk
      rw [e1, cb_s, if_pos rfl]
    · rcases tkM M1 hI1 with ⟨N0, d, D, P, -, -, -, -, -, -, -, a1, a2⟩ | ⟨N1, a1, a2, a3, a4⟩
      · exact absurd ⟨a1, a2⟩ hz1
      · have hN1 := a2.mi (hN7 hI1)
        obtain ⟨N2, b1, b2, b3, b4⟩ := fail_m (z := 1) hN1
        unfold f_X9_talk
        rw [nb_s, a1, cb_s, if_pos rfl, b1, cb_s]
        exact ⟨N2, rfl, b2, ((OutM.sI (by omega) (by omega)).trans a2.out).trans b3, b4⟩
end TALKW
