/-! THE LAW. Both digests to their end -/
section DIH
variable {M M1 M' N : Mem} {x n c l v k L : Nat} {r q t : Nat → Int32} {g : Nat → Nat → Int32} {b : Bool} {y z p : Int32} {h0 : Int64} {xs : Nat → Int32}
theorem d_68 (hn : n ≤ 512) (hv : v < 3) : SM2 x n r q b g c t l (fun _ N => N) (fun h M => f_X8_withVoice_b68 x h0 (x + 5 + 44 * v) lfuel h 0 M) (fun N => f_X9_mixVoice_b52 (x + 1095) (nI v) lfuel 0 N) := by
  intro M h hC
  obtain ⟨W, w1, w2, -⟩ := (hC.rv hv).2.2.1.2.2
  have hW : ∀ M, CI x M n r q b g c t l → mI M (x + 5 + 44 * v) 3 = nI W := fun M hC => (hC.rv hv).1.2.1.1.trans w2
  have mW : ∀ N h, MH x N r q b g c t l h → f_X9_of (x + 1095) (nI v) 38 N = some (nI W) := fun N h hN => by rw [of_m 38 hN.1 hv (by decide), w2]
  refine loop_T (wr := fun _ N => N) (fc := f_X8_withVoice_b68 x h0 (x + 5 + 44 * v)) (fm := f_X9_mixVoice_b52 (x + 1095) (nI v)) (ec := fun h M => f_X8_withVoice_b107 x h0 (x + 5 + 44 * v) h M) (em := fun N => cb (f_X9_reason (x + 1095) (nI v) N) fun r35 M36 => vb (f_X9_mix (x + 1095) r35.toInt64 M36) fun M38 => f_X9_mixVoice_b107 (x + 1095) (nI v) lfuel 0 M38) W ?_ ?_ ?_ ?_ (by omega) M h hC
  · intro k h M hC
    rw [f_X8_withVoice_b68, hW M hC, if_pos (nI_le (Nat.le_refl _) (by omega))]
  · intro k N h hN
    rw [f_X9_mixVoice_b52, mW N h hN, vb_s, if_pos (nI_le (Nat.le_refl _) (by omega))]
  · intro j hj M h hC
    obtain ⟨h', e, hm⟩ := pk_T hC hv w2 w1 hj h
    refine ⟨h', M, fun k => ?_, Lk.rf, fun N hN => ?_⟩
    · rw [f_X8_withVoice_b68, hW M hC, if_neg (nI_ge hj (by omega)), if_neg (show ¬ (8 : Int32) ≤ nI j from nI_ge (b := 8) (by omega) (by decide)), gd_s (nI_ix (by omega) (by decide)), nb_s, nI_clamp (by omega), e, vb_s, nb_s, ← nI_succ]
    · obtain ⟨N', e1, h1, o1⟩ := hm N hN
      refine ⟨N', fun k => ?_, h1, o1⟩
      rw [f_X9_mixVoice_b52, mW N h hN, vb_s, if_neg (nI_ge hj (by omega)), e1]
  · intro M h hC
    obtain ⟨y, M1, e, lk, hm⟩ := why_T hC hv (by omega)
    obtain ⟨h', M', e1, l1, m1⟩ := d_123 hn hv (h0 := h0) M1 (31 * h + y.toInt64) (hC.lk lk)
    refine ⟨h', M', ?_, lk.trans l1, fun N hN => ?_⟩
    · show f_X8_withVoice_b107 x h0 (x + 5 + 44 * v) h M = _
      rw [f_X8_withVoice_b107, e, cb_s, f_X8_mixed, vb_s]
      exact e1
    · obtain ⟨N0, e0, k0⟩ := hm N hN.1
      obtain ⟨N1, e2, h2, o2⟩ := mix_T y.toInt64 (hN.lk k0)
      obtain ⟨N', e3, h3, o3⟩ := m1 N1 h2
      refine ⟨N', ?_, h3, (k0.out.trans o2).trans o3⟩
      show cb (f_X9_reason (x + 1095) (nI v) N) _ = _
      rw [e0, cb_s, e2, vb_s]
      exact e3
theorem d_37 (hn : n ≤ 512) (hv : v < 3) : SM2 x n r q b g c t l (fun _ N => N) (fun h M => f_X8_withVoice_b37 x h0 (x + 5 + 44 * v) lfuel h 0 M) (fun N => f_X9_mixVoice_b27 (x + 1095) (nI v) lfuel 0 N) := by
  refine loop_T (fc := f_X8_withVoice_b37 x h0 (x + 5 + 44 * v)) (fm := f_X9_mixVoice_b27 (x + 1095) (nI v)) 12 ?_ ?_ ?_ (d_68 (h0 := h0) hn hv) (by omega)
  · intro k h M hC
    rw [f_X8_withVoice_b37, if_pos (by decide)]
  · intro k N h hN
    rw [f_X9_mixVoice_b27, if_pos (by decide)]
  · intro j hj M h hC
    obtain ⟨y, e, hm⟩ := hearing_T hC hv (j := j) (by omega)
    refine ⟨31 * h + y.toInt64, M, fun k => ?_, Lk.rf, fun N hN => ?_⟩
    · rw [f_X8_withVoice_b37, if_neg (show ¬ (11 : Int32) < nI j from nI_nlt (a := 11) (by omega) (by decide)), e, vb_s, f_X8_mixed, vb_s, nb_s, ← nI_succ]
    · obtain ⟨N', e2, h2, o2⟩ := mix_T y.toInt64 hN
      refine ⟨N', fun k => ?_, h2, o2⟩
      rw [f_X9_mixVoice_b27, if_neg (show ¬ (12 : Int32) ≤ nI j from nI_ge (b := 12) (by omega) (by decide)), hm N hN.1, vb_s, e2, vb_s, nb_s, ← nI_succ]
theorem d_6 (hn : n ≤ 512) (hv : v < 3) : SM2 x n r q b g c t l (fun _ N => N) (fun h M => f_X8_withVoice_b6 x h0 (x + 5 + 44 * v) lfuel h 0 M) (fun N => f_X9_mixVoice_b2 (x + 1095) (nI v) lfuel 0 N) := by
  refine loop_T (fc := f_X8_withVoice_b6 x h0 (x + 5 + 44 * v)) (fm := f_X9_mixVoice_b2 (x + 1095) (nI v)) 10 ?_ ?_ ?_ (d_37 (h0 := h0) hn hv) (by omega)
  · intro k h M hC
    rw [f_X8_withVoice_b6, if_pos (by decide)]
  · intro k N h hN
    rw [f_X9_mixVoice_b2, if_pos (by decide)]
  · intro j hj M h hC
    obtain ⟨y, M', e, lk, hm⟩ := saying_T hC hv (j := j) (by omega)
    refine ⟨31 * h + y.toInt64, M', fun k => ?_, lk, fun N hN => ?_⟩
    · rw [f_X8_withVoice_b6, if_neg (show ¬ (9 : Int32) < nI j from nI_nlt (a := 9) (by omega) (by decide)), e, cb_s, f_X8_mixed, vb_s, nb_s, ← nI_succ]
    · obtain ⟨N', e2, h2, o2⟩ := mix_T y.toInt64 hN
      refine ⟨N', fun k => ?_, h2, o2⟩
      rw [f_X9_mixVoice_b2, if_neg (show ¬ (10 : Int32) ≤ nI j from nI_ge (b := 10) (by omega) (by decide)), hm N hN.1, vb_s, e2, vb_s, nb_s, ← nI_succ]
theorem g_138 : SM2 x n r q b g c t l (fun h N => (h, N)) (fun h M => f_X8_digest_b138 x lfuel h 0 M) (fun N => f_X9_digest_b117 (x + 1095) lfuel 0 N) := by
  intro M h hC
  have hl : l ≤ 60 := hC.2.2.2.2.2.2.1
  have ht : ∀ M, CI x M n r q b g c t l → mI M (x + 274) 1 = nI l ∧ ∀ i, i < l → mI M (x + 275) i = t i ∧ ∃ a, 33 ≤ a ∧ a ≤ 126 ∧ t i = nI a := fun M hC => ⟨hC.2.2.2.2.2.1, hC.2.2.2.2.2.2.2⟩
  refine loop_T (wr := fun h N => (h, N)) (fc := f_X8_digest_b138 x) (fm := f_X9_digest_b117 (x + 1095)) (ec := fun h M => some (h, M)) (em := fun N => some (mJ N (x + 1095), N)) l ?_ ?_ ?_ ?_ (by omega) M h hC
  · intro k h M hC
    rw [f_X8_digest_b138, (ht M hC).1, if_pos (nI_le (Nat.le_refl _) (by omega))]
  · intro k N h hN
    rw [f_X9_digest_b117, hN.1.2.2.2.1, if_pos (nI_le (Nat.le_refl _) (by omega))]
  · intro j hj M h hC
    obtain ⟨e1, a, a1, a2, a3⟩ := (ht M hC).2 j hj
    have es : f_X6_signAt (x + 274) (nI j) M = some (t j) := by
      unfold f_X6_signAt
      rw [(ht M hC).1, if_neg (nI_pos (by omega)), if_neg (nI_ge hj (by omega)), if_neg (show ¬ (60 : Int32) ≤ nI j from nI_ge (b := 60) (by omega) (by decide)), gd_s (nI_ix (by omega) (by decide)), nI_clamp (by omega), e1, a3, gd_s ⟨nI_le (a := 0) (by omega) (by omega), nI_le (b := 65535) (by omega) (by decide)⟩]
    refine ⟨31 * h + (t j).toInt64, M, fun k => ?_, Lk.rf, fun N hN => ?_⟩
    · rw [f_X8_digest_b138, (ht M hC).1, if_neg (nI_ge hj (by omega)), es, vb_s, f_X8_mixed, vb_s, nb_s, ← nI_succ]
    · obtain ⟨N', e2, h2, o2⟩ := mix_T (t j).toInt64 hN
      refine ⟨N', fun k => ?_, h2, o2⟩
      rw [f_X9_digest_b117, hN.1.2.2.2.1, if_neg (nI_ge hj (by omega)), gd_s (nI_ix (by omega) (by decide)), nI_clamp (by omega), hN.1.2.2.2.2 j hj, e2, vb_s, nb_s, ← nI_succ]
  · intro M h hC
    refine ⟨h, M, rfl, Lk.rf, fun N hN => ⟨N, ?_, hN, OutM.rf⟩⟩
    show some (mJ N (x + 1095), N) = some (h, N)
    rw [hN.2]
theorem g_119 (z : Int64) : SM2 x n r q b g c t l (fun h N => (h, N)) (fun h M => f_X8_digest_b119 x z h M) (fun N => f_X9_digest_b103 (x + 1095) z (x + 1095) N) := by
  intro M h hC
  obtain ⟨h', M', e1, l1, m1⟩ := g_138 M (31 * (31 * h + z) + (nI l).toInt64) hC
  refine ⟨h', M', ?_, l1, fun N hN => ?_⟩
  · show f_X8_digest_b119 x z h M = _
    rw [f_X8_digest_b119, f_X8_mixed, vb_s, f_X8_mixed, vb_s, hC.2.2.2.2.2.1]
    exact e1
  · obtain ⟨N1, e2, h2, o2⟩ := mix_T z hN
    obtain ⟨N2, e3, h3, o3⟩ := mix_T (nI l).toInt64 h2
    obtain ⟨N', e4, h4, o4⟩ := m1 N2 h3
    refine ⟨N', ?_, h4, (o2.trans o3).trans o4⟩
    show f_X9_digest_b103 (x + 1095) z (x + 1095) N = _
    rw [f_X9_digest_b103, e2, vb_s, h2.1.2.2.2.1, e3, vb_s]
    exact e4
theorem g_61 (hn : n ≤ 512) : SM2 x n r q b g c t l (fun h N => (h, N)) (fun h M => f_X8_digest_b61 x lfuel h 0 M) (fun N => f_X9_digest_b62 (x + 1095) lfuel 0 N) := by
  refine loop_T (fc := f_X8_digest_b61 x) (fm := f_X9_digest_b62 (x + 1095)) (ec := fun h M => f_X8_digest_b61 x 1 h 3 M) (em := fun N => f_X9_digest_b62 (x + 1095) 1 3 N) 3 ?_ ?_ ?_ ?_ (by omega)
  · intro k h M hC
    rw [f_X8_digest_b61, f_X8_digest_b61, if_pos (by decide), if_pos (by decide)]
  · intro k N h hN
    rw [f_X9_digest_b62, f_X9_digest_b62, if_pos (by decide), if_pos (by decide)]
  · intro j hj M h hC
    obtain ⟨h', M', e1, l1, m1⟩ := d_6 hn hj (h0 := h) M h hC
    refine ⟨h', M', fun k => ?_, l1, fun N hN => ?_⟩
    · have ez : x + 1 + 1 + 3 + 44 * j = x + 5 + 44 * j := by omega
      have e1 : f_X8_withVoice_b6 x h (x + 5 + 44 * j) lfuel h 0 M = some (h', M') := e1
      rw [f_X8_digest_b61, if_neg (show ¬ (3 : Int32) ≤ nI j from nI_ge (b := 3) (by omega) (by decide)), gd_s (nI_ix (by omega) (by decide)), nb_s, nI_clamp (by omega), ez, f_X8_withVoice, e1, cb_s, nb_s, ← nI_succ]
    · obtain ⟨N', e2, h2, o2⟩ := m1 N hN
      have e2 : f_X9_mixVoice_b2 (x + 1095) (nI j) lfuel 0 N = some N' := e2
      refine ⟨N', fun k => ?_, h2, o2⟩
      rw [f_X9_digest_b62, if_neg (show ¬ (3 : Int32) ≤ nI j from nI_ge (b := 3) (by omega) (by decide)), f_X9_mixVoice, e2, vb_s, nb_s, ← nI_succ]
  · intro M h hC
    obtain ⟨d, e, hd, hm⟩ := share_T hC hn
    have hb : mI M x 2 = bI b := hC.2.1.1
    obtain ⟨h', M', e1, l1, m1⟩ := g_119 (if bI b = 0 then 0 else 1) M (31 * h + d.toInt32.toInt64) hC
    refine ⟨h', M', ?_, l1, fun N hN => ?_⟩
    · show f_X8_digest_b61 x 1 h 3 M = _
      rw [f_X8_digest_b61, if_pos (by decide), e, vb_s, bF hd, vb_s, f_X8_mixed, vb_s, hb, ← e1]
      by_cases z : bI b = 0
      · rw [if_pos z, if_pos z]
      · rw [if_neg z, if_neg z]
    · obtain ⟨N1, e2, h2, o2⟩ := mix_T d.toInt32.toInt64 hN
      obtain ⟨N', e3, h3, o3⟩ := m1 N1 h2
      refine ⟨N', ?_, h3, o2.trans o3⟩
      show f_X9_digest_b62 (x + 1095) 1 3 N = _
      rw [f_X9_digest_b62, if_pos (by decide), hm N hN.1, vb_s, toI_m hd, vb_s, e2, vb_s, h2.1.2.1.1, ← e3]
      by_cases z : bI b = 0
      · rw [if_pos z, if_pos z]
      · rw [if_neg z, if_neg z]
theorem g_31 (hn : n ≤ 512) : SM2 x n r q b g c t l (fun h N => (h, N)) (fun h M => f_X8_digest_b31 x lfuel h 0 M) (fun N => f_X9_digest_b38 (x + 1095) lfuel 0 N) := by
  refine loop_T (fc := f_X8_digest_b31 x) (fm := f_X9_digest_b38 (x + 1095)) 4 ?_ ?_ ?_ (g_61 hn) (by omega)
  · intro k h M hC
    rw [f_X8_digest_b31, if_pos (by decide)]
  · intro k N h hN
    rw [f_X9_digest_b38, if_pos (by decide)]
  · intro j hj M h hC
    have e : f_X4_valueOf (x + 1 + 2) (nI j) M = some (r j) := val_c (hC.rv (v := 0) (by decide)).2.2.2.1 hj
    refine ⟨31 * h + (r j).toInt64, M, fun k => ?_, Lk.rf, fun N hN => ?_⟩
    · rw [f_X8_digest_b31, if_neg (show ¬ (3 : Int32) < nI j from nI_nlt (a := 3) (by omega) (by decide)), e, vb_s, f_X8_mixed, vb_s, nb_s, ← nI_succ]
    · obtain ⟨N', e2, h2, o2⟩ := mix_T (r j).toInt64 hN
      refine ⟨N', fun k => ?_, h2, o2⟩
      rw [f_X9_digest_b38, if_neg (show ¬ (4 : Int32) ≤ nI j from nI_ge (b := 4) (by omega) (by decide)), gd_s (nI_ix (by omega) (by decide)), nI_clamp (by omega), hN.1.1.1, e2, vb_s, nb_s, ← nI_succ]
theorem g_6 (hn : n ≤ 512) : SM2 x n r q b g c t l (fun h N => (h, N)) (fun h M => f_X8_digest_b6 x lfuel h 0 M) (fun N => f_X9_digest_b14 (x + 1095) lfuel 0 N) := by
  refine loop_T (fc := f_X8_digest_b6 x) (fm := f_X9_digest_b14 (x + 1095)) 8 ?_ ?_ ?_ (g_31 hn) (by omega)
  · intro k h M hC
    rw [f_X8_digest_b6, if_pos (by decide)]
  · intro k N h hN
    rw [f_X9_digest_b14, if_pos (by decide)]
  · intro j hj M h hC
    obtain ⟨y, M', e, lk, hm⟩ := count_T hC (j := j) (by omega) (by omega)
    refine ⟨31 * h + y.toInt64, M', fun k => ?_, lk, fun N hN => ?_⟩
    · rw [f_X8_digest_b6, if_neg (show ¬ (7 : Int32) < nI j from nI_nlt (a := 7) (by omega) (by decide)), e, cb_s, f_X8_mixed, vb_s, nb_s, ← nI_succ]
    · obtain ⟨N1, e1, k1⟩ := hm N hN.1
      obtain ⟨N', e2, h2, o2⟩ := mix_T y.toInt64 (hN.lk k1)
      refine ⟨N', fun k => ?_, h2, k1.out.trans o2⟩
      rw [f_X9_digest_b14, if_neg (show ¬ (8 : Int32) ≤ nI j from nI_ge (b := 8) (by omega) (by decide)), e1, cb_s, e2, vb_s, nb_s, ← nI_succ]
theorem w_24 (hL : 4 * k + 4 ≤ L) (hL2 : L ≤ 2048) (h : Inv x k M) : ∃ M', f_law_24 x (x + 1095) (x + 1105) (x + 1106) xs L (Int32.ofNat (4 * k)) M = some M' ∧ Inv x (k + 1) M' := by
  obtain ⟨r, q, b, g, c, t, l, hl, hC, hI⟩ := h
  obtain ⟨h', M', e1, l1, m1⟩ := g_6 (by omega) M 3637 hC
  have hI1 : MI (x + 1095) M' r q b g c t l := hI.out fun b hb => l1.out.1 b (by omega)
  have hN : MH x (sJ (sI M' (x + 1095) 7 0) (x + 1095) 3637) r q b g c t l 3637 := ⟨(hN7 hI1).out fun b hb => rfl, by rw [mJ_sJ, if_pos rfl]⟩
  obtain ⟨N', e2, h2, o2⟩ := m1 _ hN
  refine ⟨N', ?_, r, q, b, g, c, t, l, by omega, ?_, h2.1⟩
  · have e1 : f_X8_digest_b6 x lfuel 3637 0 M = some (h', M') := e1
    have e2 : f_X9_digest_b14 (x + 1095) lfuel 0 (sJ (sI M' (x + 1095) 7 0) (x + 1095) 3637) = some (h', N') := e2
    unfold f_law_24 f_X8_digest f_X9_digest
    rw [nb_s, e1, cb_s, nb_s, nb_s, e2]
    show (if lg_cmp h' h' = 0 then some N' else none) = some N'
    rw [cmp_0, if_pos rfl]
  · have o1 : OutM (x + 1095) M' (sI M' (x + 1095) 7 0) := OutM.sI (by omega) (by omega)
    have o3 : OutM (x + 1095) (sI M' (x + 1095) 7 0) (sJ (sI M' (x + 1095) 7 0) (x + 1095) 3637) := ⟨fun _ _ => rfl, rfl, fun b hb => by rw [mJ_sJ, if_neg hb], rfl⟩
    exact ((hC.lk l1).after ((o1.trans o3).trans o2)).mono (by omega)
end DIH
