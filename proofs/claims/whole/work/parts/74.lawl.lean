/-! THE LAW. The turns of the looks -/
section LAWL
variable {M M1 M' : Mem} {x a s d n m c l v e k L : Nat} {r q w t f : Nat → Int32} {g : Nat → Nat → Int32} {b : Bool} {y p p1 p2 p3 z : Int32} {xs : Nat → Int32} {oC : Option (Nat × Int32 × Mem)} {hs : Nat → Nat} {fm : Mem → Option (Int32 × Mem)}
/-- an answer told by both -/
theorem law_lk (hI : MI (x + 1095) M r q b g c t l) (hC : CI x M (k - l) r q b g c t l) (hl : l ≤ k) (e : oC = some (0, y, M')) (lk : Lk x M M') (hM : ∀ N, MI (x + 1095) N r q b g c t l → ∃ N', fm N = some (y, N') ∧ LkM (x + 1095) (sI N (x + 1095) 7 0) N') : ∃ M', cb (wb oC hs (fun r N => sJ N (x + 1105) r.toInt64)) (lawF (x + 1095) (x + 1105) fm) = some M' ∧ Inv x (k + 1) M' := by
  refine law_ret hI ⟨M', e, hC.lk lk, lk.out⟩ (fun N hN => ?_) (by omega) (show k - l ≤ k + 1 - l by omega)
  obtain ⟨N', e2, l2⟩ := hM N hN
  exact ⟨r, q, ⟨N', e2, (hN.sl (k := 7) (x := 0) (by decide) (by decide) (by decide)).lk l2, (OutM.sI (by omega) (by omega)).trans l2.out, by rw [l2.1 _ (by omega), mI_ss]⟩, fun _ _ => rfl, fun _ _ _ => rfl⟩
theorem n9 : (9 : Int32) = nI 9 := rfl
theorem n11 : (11 : Int32) = nI 11 := rfl
theorem n5 : (5 : Int32) = nI 5 := rfl
theorem n7 : (7 : Int32) = nI 7 := rfl
theorem n4 : (4 : Int32) = nI 4 := rfl
theorem n3 : (3 : Int32) = nI 3 := rfl
theorem hN7 {N : Mem} (h : MI (x + 1095) N r q b g c t l) : MI (x + 1095) (sI N (x + 1095) 7 0) r q b g c t l := h.sl (by decide) (by decide) (by decide)
theorem w_13 (hL : 4 * k + 4 ≤ L) (hL2 : L ≤ 2048) (h : Inv x k M) : ∃ M', f_law_13 x (x + 1095) (x + 1105) (x + 1106) xs L (Int32.ofNat (4 * k)) M = some M' ∧ Inv x (k + 1) M' := by
  obtain ⟨r, q, b, g, c, t, l, hl, hC, hI⟩ := h
  have a1 : ix (Int32.ofNat (4 * k) + 1) L := at_ix (j := 1) hL hL2 (by decide)
  have a2 : ix (Int32.ofNat (4 * k) + 2) L := at_ix (j := 2) hL hL2 (by decide)
  unfold f_law_13 f_L_saying
  simp only [gd_s a1, gd_s a2]
  generalize xs (Int32.ofNat (4 * k) + 1).toNatClampNeg = p1
  generalize xs (Int32.ofNat (4 * k) + 2).toNatClampNeg = p2
  rcases arg_cs p1 2 (by decide) with ⟨v, hv, rfl⟩ | hv
  · have hv : v < 3 := by omega
    rcases arg_cs p2 9 (by decide) with ⟨j, hj, rfl⟩ | hj
    · obtain ⟨y, M', e, lk, hm⟩ := saying_T hC hv hj
      refine law_lk (fm := fun N => f_X9_saying (x + 1095) (nI v) (nI j) N) hI hC hl (y := y) (M' := M') ?_ lk (fun N hN => ⟨_, ?_, LkM.rf⟩)
      · unfold f_X8_saying
        rw [voice_ok hv, xb_s, n9, reqW_ok hj (by decide), xb_s, e, cb_s]
      · unfold f_X9_saying
        rw [nb_s, isV_ok hv, vb_s, if_neg (by decide), n9, in_ok hj (by decide), vb_s, if_neg (by decide), hm _ (hN7 hN), vb_s]
    · refine law_exc (fm := fun N => f_X9_saying (x + 1095) (nI v) p2 N) (u := 2) (j := 2) (y := 0) hI hC hl ?_ (by decide) rfl (by decide) (by decide) (z := 0) ?_
      · unfold f_X8_saying
        rw [voice_ok hv, xb_s, n9, reqW_no hj, xb_n (by decide)]
      · unfold f_X9_saying
        rw [nb_s, isV_ok hv, vb_s, if_neg (by decide), n9, in_no hj, vb_s, if_pos rfl]
        exact fail_x hI
  · refine law_exc (fm := fun N => f_X9_saying (x + 1095) p1 p2 N) (u := 1) (j := 1) (y := 0) hI hC hl ?_ (by decide) rfl (by decide) (by decide) (z := 0) ?_
    · unfold f_X8_saying
      rw [voice_no hv, xb_n (by decide)]
    · unfold f_X9_saying
      rw [nb_s, isV_no hv, vb_s, if_pos rfl]
      exact fail_x hI
theorem w_14 (hL : 4 * k + 4 ≤ L) (hL2 : L ≤ 2048) (h : Inv x k M) : ∃ M', f_law_14 x (x + 1095) (x + 1105) (x + 1106) xs L (Int32.ofNat (4 * k)) M = some M' ∧ Inv x (k + 1) M' := by
  obtain ⟨r, q, b, g, c, t, l, hl, hC, hI⟩ := h
  have a1 : ix (Int32.ofNat (4 * k) + 1) L := at_ix (j := 1) hL hL2 (by decide)
  have a2 : ix (Int32.ofNat (4 * k) + 2) L := at_ix (j := 2) hL hL2 (by decide)
  unfold f_law_14 f_L_hearing
  simp only [gd_s a1, gd_s a2]
  generalize xs (Int32.ofNat (4 * k) + 1).toNatClampNeg = p1
  generalize xs (Int32.ofNat (4 * k) + 2).toNatClampNeg = p2
  rcases arg_cs p1 2 (by decide) with ⟨v, hv, rfl⟩ | hv
  · have hv : v < 3 := by omega
    rcases arg_cs p2 11 (by decide) with ⟨j, hj, rfl⟩ | hj
    · obtain ⟨y, e, hm⟩ := hearing_T hC hv hj
      refine law_lk (fm := fun N => f_X9_hearing (x + 1095) (nI v) (nI j) N) hI hC hl (y := y) (M' := M) ?_ Lk.rf (fun N hN => ⟨_, ?_, LkM.rf⟩)
      · unfold f_X8_hearing
        rw [voice_ok hv, xb_s, n11, reqW_ok hj (by decide), xb_s, e, vb_s]
      · unfold f_X9_hearing
        rw [nb_s, isV_ok hv, vb_s, if_neg (by decide), n11, in_ok hj (by decide), vb_s, if_neg (by decide), hm _ (hN7 hN), vb_s]
    · refine law_exc (fm := fun N => f_X9_hearing (x + 1095) (nI v) p2 N) (u := 2) (j := 2) (y := 0) hI hC hl ?_ (by decide) rfl (by decide) (by decide) (z := 0) ?_
      · unfold f_X8_hearing
        rw [voice_ok hv, xb_s, n11, reqW_no hj, xb_n (by decide)]
      · unfold f_X9_hearing
        rw [nb_s, isV_ok hv, vb_s, if_neg (by decide), n11, in_no hj, vb_s, if_pos rfl]
        exact fail_x hI
  · refine law_exc (fm := fun N => f_X9_hearing (x + 1095) p1 p2 N) (u := 1) (j := 1) (y := 0) hI hC hl ?_ (by decide) rfl (by decide) (by decide) (z := 0) ?_
    · unfold f_X8_hearing
      rw [voice_no hv, xb_n (by decide)]
    · unfold f_X9_hearing
      rw [nb_s, isV_no hv, vb_s, if_pos rfl]
      exact fail_x hI
theorem w_15 (hL : 4 * k + 4 ≤ L) (hL2 : L ≤ 2048) (h : Inv x k M) : ∃ M', f_law_15 x (x + 1095) (x + 1105) (x + 1106) xs L (Int32.ofNat (4 * k)) M = some M' ∧ Inv x (k + 1) M' := by
  obtain ⟨r, q, b, g, c, t, l, hl, hC, hI⟩ := h
  have a1 : ix (Int32.ofNat (4 * k) + 1) L := at_ix (j := 1) hL hL2 (by decide)
  have a2 : ix (Int32.ofNat (4 * k) + 2) L := at_ix (j := 2) hL hL2 (by decide)
  have a3 : ix (Int32.ofNat (4 * k) + 3) L := at_ix (j := 3) hL hL2 (by decide)
  unfold f_law_15 f_L_packet
  simp only [gd_s a1, gd_s a2, gd_s a3]
  generalize xs (Int32.ofNat (4 * k) + 1).toNatClampNeg = p1
  generalize xs (Int32.ofNat (4 * k) + 2).toNatClampNeg = p2
  generalize xs (Int32.ofNat (4 * k) + 3).toNatClampNeg = p3
  rcases arg_cs p1 2 (by decide) with ⟨v, hv, rfl⟩ | hv
  · have hv : v < 3 := by omega
    obtain ⟨hV, hW, hB, hS, hR⟩ := hC.rv hv
    obtain ⟨W, w1, w2, -⟩ := hB.2.2
    have h3 : mI M (x + 5 + 44 * v) 3 = nI W := hV.2.1.1.trans w2
    have w2m : ∀ N, MI (x + 1095) N r q b g c t l → f_X9_of (x + 1095) (nI v) 38 (sI N (x + 1095) 7 0) = some (nI W) := fun N hN => by rw [of_m 38 (hN7 hN) hv (by decide), w2]
    have rank : (∃ i, i < W ∧ p2 = nI i) ∨ p2 < 0 ∨ nI W ≤ p2 := by
      by_cases h0 : p2 < 0
      · exact Or.inr (Or.inl h0)
      · obtain ⟨i, hi, rfl⟩ := nI_of h0
        by_cases hiW : i < W
        · exact Or.inl ⟨i, hiW, rfl⟩
        · exact Or.inr (Or.inr (nI_le (by omega) hi))
    rcases rank with ⟨i, hi, rfl⟩ | hr
    · have ep : f_X7_packetAt (x + 5 + 44 * v) (nI i) M = some (some (mR M (x + 5 + 44 * v + 11) i)) := by
        unfold f_X7_packetAt
        rw [if_neg (nI_pos (by omega)), h3, if_neg (nI_ge hi (by omega)), if_neg (show ¬ (8 : Int32) ≤ nI i from nI_ge (b := 8) (by omega) (by decide)), gd_s (nI_ix (by omega) (by decide)), nb_s, nI_clamp (by omega)]
      have ei : ∀ N : Mem, f_X9_in (nI i) 0 (nI W - 1) N = some 1 := fun N => by
        obtain ⟨W', rfl⟩ : ∃ u, W = u + 1 := ⟨W - 1, by omega⟩
        rw [nI_pred]
        exact in_ok (by omega) (by omega)
      rcases arg_cs p3 5 (by decide) with ⟨j, hj, rfl⟩ | hj
      · obtain ⟨y, e, hm⟩ := packet_T hC hv w2 w1 hi hj
        refine law_lk (fm := fun N => f_X9_packet (x + 1095) (nI v) (nI i) (nI j) N) hI hC hl (y := y) (M' := M) ?_ Lk.rf (fun N hN => ⟨_, ?_, LkM.rf⟩)
        · unfold f_X8_packet
          rw [voice_ok hv, xb_s, ep, vb_s, ob_s, n5, reqW_ok hj (by decide), xb_s, e, vb_s]
        · unfold f_X9_packet
          rw [nb_s, isV_ok hv, vb_s, if_neg (by decide), w2m N hN, vb_s, ei, vb_s, if_neg (by decide), n5, in_ok hj (by decide), vb_s, if_neg (by decide), hm _ (hN7 hN), vb_s]
      · refine law_exc (fm := fun N => f_X9_packet (x + 1095) (nI v) (nI i) p3 N) (u := 2) (j := 2) (y := 0) hI hC hl ?_ (by decide) rfl (by decide) (by decide) (z := 0) ?_
        · unfold f_X8_packet
          rw [voice_ok hv, xb_s, ep, vb_s, ob_s, n5, reqW_no hj, xb_n (by decide)]
        · unfold f_X9_packet
          rw [nb_s, isV_ok hv, vb_s, if_neg (by decide), w2m M hI, vb_s, ei, vb_s, if_neg (by decide), n5, in_no hj, vb_s, if_pos rfl]
          exact fail_x hI
    · have ep : f_X7_packetAt (x + 5 + 44 * v) p2 M = some none := by
        unfold f_X7_packetAt
        by_cases h0 : p2 < 0
        · rw [if_pos h0]
        · rw [if_neg h0, h3, if_pos (hr.resolve_left h0)]
      have ei : ∀ N : Mem, f_X9_in p2 0 (nI W - 1) N = some 0 := fun N => by
        rw [in_m]
        by_cases h0 : p2 < 0
        · rw [if_pos h0]
        · rw [if_neg h0]
          have h1 := hr.resolve_left h0
          rw [if_pos]
          rw [Int32.lt_iff_toInt_lt]
          rw [Int32.le_iff_toInt_le, nI_toInt (by omega)] at h1
          have e1 : (nI W - 1).toInt = (W : Int) - 1 := by
            rw [Int32.toInt_sub, nI_toInt (by omega), show (1 : Int32).toInt = 1 from by decide, Int.bmod_eq_of_le_mul_two (by omega) (by omega)]
          omega
      refine law_exc (fm := fun N => f_X9_packet (x + 1095) (nI v) p2 p3 N) (u := 1) (j := 1) (y := 0) hI hC hl ?_ (by decide) rfl (by decide) (by decide) (z := 0) ?_
      · unfold f_X8_packet
        rw [voice_ok hv, xb_s, ep, vb_s, ob_n]
      · unfold f_X9_packet f_X9_packet_b29
        rw [nb_s, isV_ok hv, vb_s, if_neg (by decide), w2m M hI, vb_s, ei, vb_s, if_pos rfl]
        exact fail_x hI
  · refine law_exc (fm := fun N => f_X9_packet (x + 1095) p1 p2 p3 N) (u := 1) (j := 1) (y := 0) hI hC hl ?_ (by decide) rfl (by decide) (by decide) (z := 0) ?_
    · unfold f_X8_packet
      rw [voice_no hv, xb_n (by decide)]
    · unfold f_X9_packet f_X9_packet_b29
      rw [nb_s, isV_no hv, vb_s, if_pos rfl]
      exact fail_x hI
theorem w_16 (hL : 4 * k + 4 ≤ L) (hL2 : L ≤ 2048) (h : Inv x k M) : ∃ M', f_law_16 x (x + 1095) (x + 1105) (x + 1106) xs L (Int32.ofNat (4 * k)) M = some M' ∧ Inv x (k + 1) M' := by
  obtain ⟨r, q, b, g, c, t, l, hl, hC, hI⟩ := h
  have a1 : ix (Int32.ofNat (4 * k) + 1) L := at_ix (j := 1) hL hL2 (by decide)
  unfold f_law_16 f_L_why
  simp only [gd_s a1]
  generalize xs (Int32.ofNat (4 * k) + 1).toNatClampNeg = p1
  rcases arg_cs p1 2 (by decide) with ⟨v, hv, rfl⟩ | hv
  · have hv : v < 3 := by omega
    obtain ⟨y, M', e, lk, hm⟩ := why_T hC hv (by omega)
    refine law_lk (fm := fun N => f_X9_why (x + 1095) (nI v) N) hI hC hl (y := y) (M' := M') ?_ lk (fun N hN => ?_)
    · unfold f_X8_why
      rw [voice_ok hv, xb_s, e, cb_s]
    · obtain ⟨N', e2, l2⟩ := hm _ (hN7 hN)
      refine ⟨N', ?_, l2⟩
      unfold f_X9_why
      rw [nb_s, isV_ok hv, vb_s, if_neg (by decide), e2, cb_s]
  · refine law_exc (fm := fun N => f_X9_why (x + 1095) p1 N) (u := 1) (j := 1) (y := 0) hI hC hl ?_ (by decide) rfl (by decide) (by decide) (z := 0) ?_
    · unfold f_X8_why
      rw [voice_no hv, xb_n (by decide)]
    · unfold f_X9_why
      rw [nb_s, isV_no hv, vb_s, if_pos rfl]
      exact fail_x hI
/-! counts -/
theorem agree_T (h : CI x M n r q b g c t l) (hn : n < 9990) : ∃ y M', f_X8_tellCount_b27 x p lfuel 0 0 M = some (y, M') ∧ Lk x M M' ∧ ∀ N, MI (x + 1095) N r q b g c t l → ∃ N', f_X9_agreeing (x + 1095) N = some (y, N') ∧ LkM (x + 1095) N N' := by
  obtain ⟨y0, M0, e0, lk0, h0⟩ := why_T h (v := 0) (by decide) hn
  obtain ⟨y1, M1, e1, lk1, h1⟩ := why_T (h.lk lk0) (v := 1) (by decide) hn
  obtain ⟨y2, M2, e2, lk2, h2⟩ := why_T ((h.lk lk0).lk lk1) (v := 2) (by decide) hn
  refine ⟨(if y2 = 0 then 1 else 0) + ((if y1 = 0 then 1 else 0) + ((if y0 = 0 then 1 else 0) + 0)), M2, ?_, (lk0.trans lk1).trans lk2, fun N hN => ?_⟩
  · have z0 : (x + 1) + 1 + 3 + 44 * (0 : Int32).toNatClampNeg = x + 5 + 44 * 0 := rfl
    have z1 : (x + 1) + 1 + 3 + 44 * (0 + 1 : Int32).toNatClampNeg = x + 5 + 44 * 1 := rfl
    have z2 : (x + 1) + 1 + 3 + 44 * (0 + 1 + 1 : Int32).toNatClampNeg = x + 5 + 44 * 2 := rfl
    unfold lfuel
    rw [f_X8_tellCount_b27, if_neg (by decide), gd_s (by decide), nb_s, z0, e0, cb_s]
    unfold f_X8_tellCount_b58
    simp only [nb_s]
    have st0 : (if y0 = 0 then f_X8_tellCount_b27 x p 9999 (0 + 1) (0 + 1) M0 else f_X8_tellCount_b27 x p 9999 0 (0 + 1) M0) = f_X8_tellCount_b27 x p 9999 ((if y0 = 0 then 1 else 0) + 0) (0 + 1) M0 := by split <;> rfl
    rw [st0]
    generalize ((if y0 = 0 then 1 else 0) + 0 : Int32) = s0
    rw [f_X8_tellCount_b27, if_neg (by decide), gd_s (by decide), nb_s, z1, e1, cb_s]
    unfold f_X8_tellCount_b58
    simp only [nb_s]
    have st1 : (if y1 = 0 then f_X8_tellCount_b27 x p 9998 (s0 + 1) (0 + 1 + 1) M1 else f_X8_tellCount_b27 x p 9998 s0 (0 + 1 + 1) M1) = f_X8_tellCount_b27 x p 9998 ((if y1 = 0 then 1 else 0) + s0) (0 + 1 + 1) M1 := by
      split
      · rw [Int32.add_comm]
      · rw [Int32.zero_add s0]
    rw [st1]
    generalize ((if y1 = 0 then 1 else 0) + s0 : Int32) = s1
    rw [f_X8_tellCount_b27, if_neg (by decide), gd_s (by decide), nb_s, z2, e2, cb_s]
    unfold f_X8_tellCount_b58
    simp only [nb_s]
    have st2 : (if y2 = 0 then f_X8_tellCount_b27 x p 9997 (s1 + 1) (0 + 1 + 1 + 1) M2 else f_X8_tellCount_b27 x p 9997 s1 (0 + 1 + 1 + 1) M2) = f_X8_tellCount_b27 x p 9997 ((if y2 = 0 then 1 else 0) + s1) (0 + 1 + 1 + 1) M2 := by
      split
      · rw [Int32.add_comm]
      · rw [Int32.zero_add s1]
    rw [st2, f_X8_tellCount_b27, if_pos (by decide)]
  · obtain ⟨N0, n0, k0⟩ := h0 N hN
    obtain ⟨N1, n1, k1⟩ := h1 N0 (hN.lk k0)
    obtain ⟨N2, n2, k2⟩ := h2 N1 ((hN.lk k0).lk k1)
    have n0 : f_X9_reason (x + 1095) 0 N = some (y0, N0) := n0
    have n1 : f_X9_reason (x + 1095) (0 + 1) N0 = some (y1, N1) := n1
    have n2 : f_X9_reason (x + 1095) (0 + 1 + 1) N1 = some (y2, N2) := n2
    refine ⟨N2, ?_, ⟨fun b hb => (k2.1 b hb).trans ((k1.1 b hb).trans (k0.1 b hb)), k2.2.trans (k1.2.trans k0.2)⟩⟩
    unfold f_X9_agreeing lfuel
    rw [f_X9_agreeing_b4, if_neg (by decide), n0, cb_s]
    unfold f_X9_agreeing_b23
    simp only [nb_s]
    have st0 : (if y0 = 0 then f_X9_agreeing_b4 (x + 1095) 9999 (0 + 1) (0 + 1) N0 else f_X9_agreeing_b4 (x + 1095) 9999 (0 + 0) (0 + 1) N0) = f_X9_agreeing_b4 (x + 1095) 9999 ((if y0 = 0 then 1 else 0) + 0) (0 + 1) N0 := by split <;> rfl
    rw [st0]
    generalize ((if y0 = 0 then 1 else 0) + 0 : Int32) = s0
    rw [f_X9_agreeing_b4, if_neg (by decide), n1, cb_s]
    unfold f_X9_agreeing_b23
    simp only [nb_s]
    have st1 : (if y1 = 0 then f_X9_agreeing_b4 (x + 1095) 9998 (s0 + 1) (0 + 1 + 1) N1 else f_X9_agreeing_b4 (x + 1095) 9998 (s0 + 0) (0 + 1 + 1) N1) = f_X9_agreeing_b4 (x + 1095) 9998 ((if y1 = 0 then 1 else 0) + s0) (0 + 1 + 1) N1 := by
      split
      · rw [Int32.add_comm]
      · rw [Int32.add_comm]
    rw [st1]
    generalize ((if y1 = 0 then 1 else 0) + s0 : Int32) = s1
    rw [f_X9_agreeing_b4, if_neg (by decide), n2, cb_s]
    unfold f_X9_agreeing_b23
    simp only [nb_s]
    have st2 : (if y2 = 0 then f_X9_agreeing_b4 (x + 1095) 9997 (s1 + 1) (0 + 1 + 1 + 1) N2 else f_X9_agreeing_b4 (x + 1095) 9997 (s1 + 0) (0 + 1 + 1 + 1) N2) = f_X9_agreeing_b4 (x + 1095) 9997 ((if y2 = 0 then 1 else 0) + s1) (0 + 1 + 1 + 1) N2 := by
      split
      · rw [Int32.add_comm]
      · rw [Int32.add_comm]
    rw [st2, f_X9_agreeing_b4, if_pos (by decide)]
theorem sum_m {kk : Nat} {N : Mem} (h : MI (x + 1095) N r q b g c t l) (hk : kk < 207) (hp : p = nI kk) : f_X9_sum (x + 1095) p N = some (suV r kk) := by
  have o : ∀ v, v < 3 → f_X9_of (x + 1095) (nI v) p N = some (vo r v kk) := fun v hv => by
    have o := of_v (M := N) (mo := x + 1095) (v := v) (r := r) (w := vo r v) hp hv hk
    rw [h.eq v] at o
    exact o
  have o0 : f_X9_of (x + 1095) 0 p N = some (vo r 0 kk) := o 0 (by decide)
  have o1 : f_X9_of (x + 1095) 1 p N = some (vo r 1 kk) := o 1 (by decide)
  have o2 : f_X9_of (x + 1095) 2 p N = some (vo r 2 kk) := o 2 (by decide)
  unfold f_X9_sum
  rw [o0, vb_s, o1, vb_s, o2, vb_s]
  rfl
theorem count_T {j : Nat} (h : CI x M n r q b g c t l) (hj : j ≤ 7) (hn : n < 9990) : ∃ y M', f_X8_tellCount x (nI j) M = some (y, M') ∧ Lk x M M' ∧ ∀ N, MI (x + 1095) N r q b g c t l → ∃ N', f_X9_number (x + 1095) (nI j) N = some (y, N') ∧ LkM (x + 1095) N N' := by
  unfold f_X8_tellCount f_X9_number
  match j, hj with
  | 0, _ =>
    refine ⟨_, _, by rw [if_neg (by decide), if_neg (by decide), show nI 0 = 0 from rfl, said_c h, vb_s], Lk.rf, fun N hN => ⟨N, ?_, LkM.rf⟩⟩
    rw [if_pos (by decide), gd_s (by decide), hN.1.1]
    rfl
  | 1, _ =>
    refine ⟨_, _, by rw [if_neg (by decide), if_neg (by decide), sums_c h (by decide), vb_s], Lk.rf, fun N hN => ⟨N, ?_, LkM.rf⟩⟩
    rw [if_neg (by decide), if_pos (by decide), sum_m (p := 22) hN (kk := 22) (by decide) rfl, vb_s]
    rfl
  | 2, _ =>
    refine ⟨_, _, by rw [if_neg (by decide), if_neg (by decide), sums_c h (by decide), vb_s], Lk.rf, fun N hN => ⟨N, ?_, LkM.rf⟩⟩
    rw [if_neg (by decide), if_neg (by decide), if_pos (by decide), sum_m (p := 21) hN (kk := 21) (by decide) rfl, vb_s]
    rfl
  | 3, _ =>
    refine ⟨_, _, by rw [if_neg (by decide), if_neg (by decide), sums_c h (by decide), vb_s], Lk.rf, fun N hN => ⟨N, ?_, LkM.rf⟩⟩
    rw [if_neg (by decide), if_neg (by decide), if_neg (by decide), if_pos (by decide), sum_m (p := 38) hN (kk := 38) (by decide) rfl, vb_s]
    rfl
  | 4, _ =>
    refine ⟨_, _, by rw [if_neg (by decide), if_neg (by decide), sums_c h (by decide), vb_s], Lk.rf, fun N hN => ⟨N, ?_, LkM.rf⟩⟩
    rw [if_neg (by decide), if_neg (by decide), if_neg (by decide), if_neg (by decide), if_pos (by decide), sum_m (p := 36) hN (kk := 36) (by decide) rfl, vb_s]
    rfl
  | 5, _ =>
    refine ⟨_, _, by rw [if_neg (by decide), if_neg (by decide), sums_c h (by decide), vb_s], Lk.rf, fun N hN => ⟨N, ?_, LkM.rf⟩⟩
    rw [if_neg (by decide), if_neg (by decide), if_neg (by decide), if_neg (by decide), if_neg (by decide), if_pos (by decide), sum_m (p := 37) hN (kk := 37) (by decide) rfl, vb_s]
    rfl
  | 6, _ =>
    obtain ⟨y, M', e, lk, hm⟩ := agree_T (p := nI 6) h hn
    refine ⟨y, M', by rw [if_neg (by decide), if_pos (by decide), e], lk, fun N hN => ?_⟩
    obtain ⟨N', e2, l2⟩ := hm N hN
    refine ⟨N', ?_, l2⟩
    rw [if_neg (by decide), if_neg (by decide), if_neg (by decide), if_neg (by decide), if_neg (by decide), if_neg (by decide), if_pos (by decide), e2, cb_s]
  | 7, _ =>
    refine ⟨_, _, by rw [if_pos (by decide), h.2.2.1.1], Lk.rf, fun N hN => ⟨N, ?_, LkM.rf⟩⟩
    rw [if_neg (by decide), if_neg (by decide), if_neg (by decide), if_neg (by decide), if_neg (by decide), if_neg (by decide), if_neg (by decide), hN.2.2.1.1]
theorem w_17 (hL : 4 * k + 4 ≤ L) (hL2 : L ≤ 2048) (h : Inv x k M) : ∃ M', f_law_17 x (x + 1095) (x + 1105) (x + 1106) xs L (Int32.ofNat (4 * k)) M = some M' ∧ Inv x (k + 1) M' := by
  obtain ⟨r, q, b, g, c, t, l, hl, hC, hI⟩ := h
  have a1 : ix (Int32.ofNat (4 * k) + 1) L := at_ix (j := 1) hL hL2 (by decide)
  unfold f_law_17 f_L_count
  simp only [gd_s a1]
  generalize xs (Int32.ofNat (4 * k) + 1).toNatClampNeg = p1
  rcases arg_cs p1 7 (by decide) with ⟨j, hj, rfl⟩ | hj
  · obtain ⟨y, M', e, lk, hm⟩ := count_T hC hj (by omega)
    refine law_lk (fm := fun N => f_X9_count (x + 1095) (nI j) N) hI hC hl (y := y) (M' := M') ?_ lk (fun N hN => ?_)
    · unfold f_X8_count
      rw [n7, reqW_ok hj (by decide), xb_s, e, cb_s]
    · obtain ⟨N', e2, l2⟩ := hm _ (hN7 hN)
      refine ⟨N', ?_, l2⟩
      unfold f_X9_count
      rw [nb_s, n7, in_ok hj (by decide), vb_s, if_neg (by decide), e2, cb_s]
  · refine law_exc (fm := fun N => f_X9_count (x + 1095) p1 N) (u := 1) (j := 2) (y := 0) hI hC hl ?_ (by decide) rfl (by decide) (by decide) (z := 0) ?_
    · unfold f_X8_count
      rw [n7, reqW_no hj, xb_n (by decide)]
    · unfold f_X9_count
      rw [nb_s, n7, in_no hj, vb_s, if_pos rfl]
      exact fail_x hI
theorem w_18 (hL : 4 * k + 4 ≤ L) (hL2 : L ≤ 2048) (h : Inv x k M) : ∃ M', f_law_18 x (x + 1095) (x + 1105) (x + 1106) xs L (Int32.ofNat (4 * k)) M = some M' ∧ Inv x (k + 1) M' := by
  obtain ⟨r, q, b, g, c, t, l, hl, hC, hI⟩ := h
  have a1 : ix (Int32.ofNat (4 * k) + 1) L := at_ix (j := 1) hL hL2 (by decide)
  unfold f_law_18 f_L_setting
  simp only [gd_s a1]
  generalize xs (Int32.ofNat (4 * k) + 1).toNatClampNeg = p1
  rcases arg_cs p1 3 (by decide) with ⟨j, hj, rfl⟩ | hj
  · refine law_lk (fm := fun N => f_X9_setting (x + 1095) (nI j) N) hI hC hl (y := r j) (M' := M) ?_ Lk.rf (fun N hN => ⟨_, ?_, LkM.rf⟩)
    · unfold f_X8_setting
      rw [reqT_ok hj, xb_s, val_c hC.1.2.1.1 (by omega), vb_s]
    · unfold f_X9_setting
      rw [nb_s, n3, in_ok hj (by decide), vb_s, if_neg (by decide), gd_s (nI_ix (by omega) (by decide)), nI_clamp (by omega), (hN7 hN).1.1]
  · refine law_exc (fm := fun N => f_X9_setting (x + 1095) p1 N) (u := 1) (j := 1) (y := 0) hI hC hl ?_ (by decide) rfl (by decide) (by decide) (z := 0) ?_
    · unfold f_X8_setting
      rw [reqT_no hj, xb_n (by decide)]
    · unfold f_X9_setting
      rw [nb_s, n3, in_no hj, vb_s, if_pos rfl]
      exact fail_x hI
theorem w_19 (hL : 4 * k + 4 ≤ L) (hL2 : L ≤ 2048) (h : Inv x k M) : ∃ M', f_law_19 x (x + 1095) (x + 1105) (x + 1106) xs L (Int32.ofNat (4 * k)) M = some M' ∧ Inv x (k + 1) M' := by
  obtain ⟨r, q, b, g, c, t, l, hl, hC, hI⟩ := h
  have a1 : ix (Int32.ofNat (4 * k) + 1) L := at_ix (j := 1) hL hL2 (by decide)
  have a2 : ix (Int32.ofNat (4 * k) + 2) L := at_ix (j := 2) hL hL2 (by decide)
  have a3 : ix (Int32.ofNat (4 * k) + 3) L := at_ix (j := 3) hL hL2 (by decide)
  unfold f_law_19 f_L_code
  simp only [gd_s a1, gd_s a2, gd_s a3]
  generalize xs (Int32.ofNat (4 * k) + 1).toNatClampNeg = p1
  generalize xs (Int32.ofNat (4 * k) + 2).toNatClampNeg = p2
  generalize xs (Int32.ofNat (4 * k) + 3).toNatClampNeg = p3
  rcases arg_cs p1 2 (by decide) with ⟨v, hv, rfl⟩ | hv
  · have hv : v < 3 := by omega
    rcases sam_cs p2 with hx | hx
    · rcases arg_cs p3 4 (by decide) with ⟨j, hj, rfl⟩ | hj
      · obtain ⟨y, M', e, lk, hm⟩ := code_T hC hv hx hj
        refine law_lk (fm := fun N => f_X9_code (x + 1095) (nI v) p2 (nI j) N) hI hC hl (y := y) (M' := M') ?_ lk (fun N hN => ⟨_, ?_, LkM.rf⟩)
        · unfold f_X8_code
          rw [voice_ok hv, xb_s, reqS_ok hx, xb_s, n4, reqW_ok hj (by decide), xb_s, e, cb_s]
        · unfold f_X9_code
          rw [nb_s, isV_ok hv, vb_s, if_neg (by decide), isS_ok hx, vb_s, if_neg (by decide), n4, in_ok hj (by decide), vb_s, if_neg (by decide), hm _ (hN7 hN), vb_s]
      · refine law_exc (fm := fun N => f_X9_code (x + 1095) (nI v) p2 p3 N) (u := 2) (j := 2) (y := 0) hI hC hl ?_ (by decide) rfl (by decide) (by decide) (z := 0) ?_
        · unfold f_X8_code
          rw [voice_ok hv, xb_s, reqS_ok hx, xb_s, n4, reqW_no hj, xb_n (by decide)]
        · unfold f_X9_code f_X9_code_b44
          rw [nb_s, isV_ok hv, vb_s, if_neg (by decide), isS_ok hx, vb_s, if_neg (by decide), n4, in_no hj, vb_s, if_pos rfl]
          exact fail_x hI
    · refine law_exc (fm := fun N => f_X9_code (x + 1095) (nI v) p2 p3 N) (u := 2) (j := 2) (y := 0) hI hC hl ?_ (by decide) rfl (by decide) (by decide) (z := 0) ?_
      · unfold f_X8_code
        rw [voice_ok hv, xb_s, reqS_no hx, xb_n (by decide)]
      · unfold f_X9_code f_X9_code_b44
        rw [nb_s, isV_ok hv, vb_s, if_neg (by decide), isS_no hx, vb_s, if_pos rfl]
        exact fail_x hI
  · refine law_exc (fm := fun N => f_X9_code (x + 1095) p1 p2 p3 N) (u := 1) (j := 1) (y := 0) hI hC hl ?_ (by decide) rfl (by decide) (by decide) (z := 0) ?_
    · unfold f_X8_code
      rw [voice_no hv, xb_n (by decide)]
    · unfold f_X9_code
      rw [nb_s, isV_no hv, vb_s, if_pos rfl]
      exact fail_x hI
theorem w_20 (hL : 4 * k + 4 ≤ L) (hL2 : L ≤ 2048) (h : Inv x k M) : ∃ M', f_law_20 x (x + 1095) (x + 1105) (x + 1106) xs L (Int32.ofNat (4 * k)) M = some M' ∧ Inv x (k + 1) M' := by
  obtain ⟨r, q, b, g, c, t, l, hl, hC, hI⟩ := h
  have a1 : ix (Int32.ofNat (4 * k) + 1) L := at_ix (j := 1) hL hL2 (by decide)
  have a2 : ix (Int32.ofNat (4 * k) + 2) L := at_ix (j := 2) hL hL2 (by decide)
  have a3 : ix (Int32.ofNat (4 * k) + 3) L := at_ix (j := 3) hL hL2 (by decide)
  unfold f_law_20 f_L_settles
  simp only [gd_s a1, gd_s a2, gd_s a3]
  generalize xs (Int32.ofNat (4 * k) + 1).toNatClampNeg = p1
  generalize xs (Int32.ofNat (4 * k) + 2).toNatClampNeg = p2
  generalize xs (Int32.ofNat (4 * k) + 3).toNatClampNeg = p3
  rcases arg_cs p1 2 (by decide) with ⟨v, hv, rfl⟩ | hv
  · have hv : v < 3 := by omega
    rcases sam_cs p2 with hx | hx
    · by_cases hp : p3 < 1 ∨ 2000 < p3
      · refine law_exc (fm := fun N => f_X9_settles (x + 1095) (nI v) p2 p3 N) (u := 2) (j := 2) (y := 0) hI hC hl ?_ (by decide) rfl (by decide) (by decide) (z := 0) ?_
        · unfold f_X8_settles f_X8_settles_b23
          rw [voice_ok hv, xb_s, reqS_ok hx, xb_s]
          by_cases h1 : p3 < 1
          · rw [if_pos h1]
          · rw [if_neg h1, if_neg (Int32.not_le.mpr (hp.resolve_left h1))]
        · unfold f_X9_settles f_X9_settles_b46
          rw [nb_s, isV_ok hv, vb_s, if_neg (by decide), isS_ok hx, vb_s, if_neg (by decide), in_m, vb_s]
          by_cases h1 : p3 < 1
          · rw [if_pos h1, if_pos rfl]
            exact fail_x hI
          · rw [if_neg h1, if_pos (hp.resolve_left h1), if_pos rfl]
            exact fail_x hI
      · have h1 : ¬ p3 < 1 := fun z => hp (Or.inl z)
        have h2 : ¬ 2000 < p3 := fun z => hp (Or.inr z)
        obtain ⟨y, M', e, lk, hm⟩ := settle_T (z := p3) hC hv hx
        refine law_lk (fm := fun N => f_X9_settles (x + 1095) (nI v) p2 p3 N) hI hC hl (y := y) (M' := M') ?_ lk (fun N hN => ⟨_, ?_, LkM.rf⟩)
        · unfold f_X8_settles
          rw [voice_ok hv, xb_s, reqS_ok hx, xb_s, if_neg h1, if_pos (Int32.not_lt.mp h2), e, cb_s]
        · unfold f_X9_settles
          rw [nb_s, isV_ok hv, vb_s, if_neg (by decide), isS_ok hx, vb_s, if_neg (by decide), in_m, vb_s, if_neg h1, if_neg h2, if_neg (by decide), hm _ (hN7 hN), vb_s]
    · refine law_exc (fm := fun N => f_X9_settles (x + 1095) (nI v) p2 p3 N) (u := 2) (j := 2) (y := 0) hI hC hl ?_ (by decide) rfl (by decide) (by decide) (z := 0) ?_
      · unfold f_X8_settles
        rw [voice_ok hv, xb_s, reqS_no hx, xb_n (by decide)]
      · unfold f_X9_settles f_X9_settles_b46
        rw [nb_s, isV_ok hv, vb_s, if_neg (by decide), isS_no hx, vb_s, if_pos rfl]
        exact fail_x hI
  · refine law_exc (fm := fun N => f_X9_settles (x + 1095) p1 p2 p3 N) (u := 1) (j := 1) (y := 0) hI hC hl ?_ (by decide) rfl (by decide) (by decide) (z := 0) ?_
    · unfold f_X8_settles
      rw [voice_no hv, xb_n (by decide)]
    · unfold f_X9_settles
      rw [nb_s, isV_no hv, vb_s, if_pos rfl]
      exact fail_x hI
theorem w_21 (hL : 4 * k + 4 ≤ L) (hL2 : L ≤ 2048) (h : Inv x k M) : ∃ M', f_law_21 x (x + 1095) (x + 1105) (x + 1106) xs L (Int32.ofNat (4 * k)) M = some M' ∧ Inv x (k + 1) M' := by
  obtain ⟨r, q, b, g, c, t, l, hl, hC, hI⟩ := h
  have a1 : ix (Int32.ofNat (4 * k) + 1) L := at_ix (j := 1) hL hL2 (by decide)
  have a2 : ix (Int32.ofNat (4 * k) + 2) L := at_ix (j := 2) hL hL2 (by decide)
  unfold f_law_21 f_L_ifDelivered
  simp only [gd_s a1, gd_s a2]
  generalize xs (Int32.ofNat (4 * k) + 1).toNatClampNeg = p1
  generalize xs (Int32.ofNat (4 * k) + 2).toNatClampNeg = p2
  rcases arg_cs p1 2 (by decide) with ⟨v, hv, rfl⟩ | hv
  · have hv : v < 3 := by omega
    rcases arg_cs p2 3 (by decide) with ⟨j, hj, rfl⟩ | hj
    · obtain ⟨y, M', e, lk, hm⟩ := would_T hC hv hj (by omega)
      refine law_lk (fm := fun N => f_X9_ifDelivered (x + 1095) (nI v) (nI j) N) hI hC hl (y := y) (M' := M') ?_ lk (fun N hN => ?_)
      · unfold f_X8_ifDelivered
        rw [voice_ok hv, xb_s, n3, reqW_ok hj (by decide), xb_s, e, cb_s]
      · obtain ⟨N', e2, l2⟩ := hm _ (hN7 hN)
        refine ⟨N', ?_, l2⟩
        unfold f_X9_ifDelivered
        rw [nb_s, isV_ok hv, vb_s, if_neg (by decide), n3, in_ok hj (by decide), vb_s, if_neg (by decide), e2, cb_s]
    · refine law_exc (fm := fun N => f_X9_ifDelivered (x + 1095) (nI v) p2 N) (u := 2) (j := 2) (y := 0) hI hC hl ?_ (by decide) rfl (by decide) (by decide) (z := 0) ?_
      · unfold f_X8_ifDelivered
        rw [voice_ok hv, xb_s, n3, reqW_no hj, xb_n (by decide)]
      · unfold f_X9_ifDelivered
        rw [nb_s, isV_ok hv, vb_s, if_neg (by decide), n3, in_no hj, vb_s, if_pos rfl]
        exact fail_x hI
  · refine law_exc (fm := fun N => f_X9_ifDelivered (x + 1095) p1 p2 N) (u := 1) (j := 1) (y := 0) hI hC hl ?_ (by decide) rfl (by decide) (by decide) (z := 0) ?_
    · unfold f_X8_ifDelivered
      rw [voice_no hv, xb_n (by decide)]
    · unfold f_X9_ifDelivered
      rw [nb_s, isV_no hv, vb_s, if_pos rfl]
      exact fail_x hI
end LAWL
