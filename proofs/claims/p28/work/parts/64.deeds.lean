/-! THE CLASS. A sample is said; packets come, get lost, change places -/
section CDEEDS
variable {M M1 N M' : Mem} {a b e i o p k n q m s st : Nat} {w f z r T y : Nat → Int32} {x c g : Int32}
theorem zMC_m {m : Int32} (hc : w 4 = nI q) (hq : q < 8) {j : Nat} (hj : j < 8) : zMC T w m (13 + j) = if j = q then m else w (13 + j) := by
  rw [zMC_v hc hq, upd_ne (by omega), upd_ne (by omega), upd_ne (by omega), upd_ne (by omega)]
  by_cases hjq : j = q
  · rw [if_pos hjq, hjq, upd_eq]
  · rw [if_neg hjq, upd_ne (by omega), upd_ne (by omega)]
    unfold zMCb
    split
    · rw [upd_ne (by omega), upd_ne (by omega), upd_ne (by omega), upd_ne (by omega)]
    · rw [upd_ne (by omega), upd_ne (by omega)]
theorem zMC_h {m : Int32} (hc : w 4 = nI q) (hq : q < 8) (hi : 26 ≤ i ∨ i = 21 ∨ i = 23) : zMC T w m i = w i := by
  rw [zMC_v hc hq, upd_ne (by omega), upd_ne (by omega), upd_ne (by omega), upd_ne (by omega), upd_ne (by omega), upd_ne (by omega)]
  unfold zMCb
  split
  · rw [upd_ne (by omega), upd_ne (by omega), upd_ne (by omega), upd_ne (by omega)]
  · rw [upd_ne (by omega), upd_ne (by omega)]
theorem zMC_23 {m : Int32} (hc : w 4 = nI q) (hq : q < 8) : zMC T w m 2 = 0 ∧ zMC T w m 3 = 0 ∧ zMC T w m 4 = nI (q + 1) := by
  refine ⟨?_, ?_, ?_⟩
  · rw [zMC_v hc hq, upd_ne (by decide), upd_ne (by decide), upd_ne (by decide), upd_ne (by decide), upd_ne (by omega), upd_ne (by omega)]; unfold zMCb; split <;> rfl
  · rw [zMC_v hc hq, upd_ne (by decide), upd_ne (by decide), upd_ne (by decide), upd_ne (by decide), upd_ne (by omega), upd_ne (by omega)]; unfold zMCb; split <;> rfl
  · rw [zMC_v hc hq]; rfl
theorem zMC_24 {m : Int32} (hc : w 4 = nI q) (hq : q < 8) : zMC T w m 24 = (if q = 0 then w 0 else w 24) ∧ zMC T w m 25 = if q = 0 then w 1 else w 25 := by
  refine ⟨?_, ?_⟩
  · rw [zMC_v hc hq, upd_ne (by omega), upd_ne (by omega), upd_ne (by omega), upd_ne (by omega), upd_ne (by omega), upd_ne (by omega)]
    unfold zMCb
    split <;> rfl
  · rw [zMC_v hc hq, upd_ne (by omega), upd_ne (by omega), upd_ne (by omega), upd_ne (by omega), upd_ne (by omega), upd_ne (by omega)]
    unfold zMCb
    split <;> rfl
/-- bounds but for the number of codes -/
def WBp (w : Nat → Int32) : Prop := (B2 (w 0) ∧ ∃ i, i < 25 ∧ w 1 = nI i) ∧ (∃ g, g ≤ 3 ∧ w 2 = nI g ∧ -2000 * (g : Int) ≤ (w 3).toInt ∧ (w 3).toInt ≤ 2000 * (g : Int)) ∧ (∀ j, j < 8 → B2 (w (13 + j))) ∧ (B2 (w 24) ∧ ∃ i, i < 25 ∧ w 25 = nI i) ∧ ∃ s, s ≤ 8 ∧ w 23 = nI s
theorem sum_B {g : Nat} (h1 : -2000 * (g : Int) ≤ c.toInt) (h2 : c.toInt ≤ 2000 * (g : Int)) (hg : g ≤ 3) (hx : B2 x) : -2000 * ((g + 1 : Nat) : Int) ≤ (c + x).toInt ∧ (c + x).toInt ≤ 2000 * ((g + 1 : Nat) : Int) := by
  obtain ⟨h3, h4⟩ := hx
  rw [Int32.toInt_add, Int.bmod_eq_of_le_mul_two (by omega) (by omega)]
  omega
/-- the row behind a sample, ahead of the closing -/
theorem say_B (hb : WB n w) (hR : RB r) (hx : B2 x) : WBp (zSayW T r w x) ∧ (∃ k, k ≤ 8 ∧ zSayW T r w x 4 = nI k) ∧ zSayW T r w x 4 = w 4 + zMk r w ∧ (∀ i, 26 ≤ i ∨ i = 21 → zSayW T r w x i = w i) ∧ B2 (zMean r (zGa w x)) ∧ (zMk r w ≠ 0 → ∃ g, g ≤ 4 ∧ 0 < g ∧ w 2 + 1 = nI g ∧ B2 ((w 3 + x) / nI g)) := by
  obtain ⟨⟨⟨⟨s0, s1⟩, ⟨g, g1, g2, g3, g4⟩, ⟨q, q1, q2⟩, s3, ⟨s4, s5⟩, s6⟩, hh⟩, hc, hw⟩ := hb
  obtain ⟨k0, k1, k2, k3⟩ := hR.1
  have hs := sum_B g3 g4 g1 hx
  have hdv : B2 ((w 3 + x) / nI (g + 1)) := B2_div hs.1 hs.2 (by omega) (by omega)
  have e2 : w 2 + 1 = nI (g + 1) := by rw [g2, nI_succ]
  have hm : B2 (zMean r (zGa w x)) := by
    unfold zMean
    show B2 (if r 1 ≤ zS ((w 3 + x) / (w 2 + 1)) then (w 3 + x) / (w 2 + 1) else 0)
    rw [e2]
    split
    · exact hdv
    · exact B2_0
  have hz4 : zGa w x 4 = nI q := q2
  unfold zSayW
  by_cases hz : zMk r w = 0
  · rw [if_pos hz]
    have hlt : w 2 + 1 < r 0 := by
      unfold zMk at hz
      by_cases h : w 2 + 1 < r 0
      · exact h
      · rw [if_neg h] at hz; exact absurd hz (by decide)
    rw [e2, k3] at hlt
    have hg := (nI_ltI (by omega) (by omega)).mp hlt
    refine ⟨⟨⟨s0, s1⟩, ⟨g + 1, by omega, e2, hs.1, hs.2⟩, ?_, ⟨s4, s5⟩, s6⟩, ⟨q, by omega, hz4⟩, by rw [hz, Int32.add_zero]; rfl, fun i hi => ?_, hm, fun h => (h hz).elim⟩
    · intro j hj
      show B2 (upd (upd w 3 (w 3 + x)) 2 (w 2 + 1) (13 + j))
      rw [upd_ne (by omega), upd_ne (by omega)]
      exact s3 j hj
    · show upd (upd w 3 (w 3 + x)) 2 (w 2 + 1) i = w i
      rw [upd_ne (by omega), upd_ne (by omega)]
  · rw [if_neg hz]
    have hz1 : zMk r w = 1 := by
      unfold zMk at hz ⊢
      split
      · rename_i h; rw [if_pos h] at hz; exact (hz rfl).elim
      · rfl
    obtain ⟨m2, m3, m4⟩ := zMC_23 (T := T) (m := zMean r (zGa w x)) hz4 (by omega)
    obtain ⟨m24, m25⟩ := zMC_24 (T := T) (m := zMean r (zGa w x)) hz4 (by omega)
    refine ⟨⟨⟨?_, ?_⟩, ⟨0, by decide, m2, by rw [m3, i0]; decide, by rw [m3, i0]; decide⟩, ?_, ⟨?_, ?_⟩, ?_⟩, ⟨q + 1, by omega, m4⟩, by rw [m4, hz1, q2, nI_succ], fun i hi => ?_, hm, fun _ => ⟨g + 1, by omega, by omega, e2, hdv⟩⟩
    · rw [zMC_v hz4 (by omega)]
      exact zG_B2
    · rw [zMC_v hz4 (by omega)]
      exact zC_at
    · intro j hj
      rw [zMC_m hz4 (by omega) hj]
      split
      · exact hm
      · show B2 (upd (upd w 3 (w 3 + x)) 2 (w 2 + 1) (13 + j))
        rw [upd_ne (by omega), upd_ne (by omega)]
        exact s3 j hj
    · rw [m24]
      split
      · exact s0
      · exact s4
    · rw [m25]
      split
      · exact s1
      · exact s5
    · rw [zMC_h hz4 (by omega) (by omega)]
      exact s6
    · rw [zMC_h hz4 (by omega) (by omega)]
      show upd (upd w 3 (w 3 + x)) 2 (w 2 + 1) i = w i
      rw [upd_ne (by omega), upd_ne (by omega)]
theorem can_q (hb : WB n w) (hR : RB r) (hx : B2 x) (hcan : zCS r w = 1) (h : ¬ zSayW T r w x 4 < r 2) : ∃ q, q < 8 ∧ w 38 = nI q := by
  obtain ⟨W, w1, w2, w3⟩ := hb.2.2
  have h4 := (say_B (T := T) hb hR hx).2.2.1
  by_cases h8 : w 38 < 8
  · refine ⟨W, ?_, w2⟩
    rw [w2] at h8
    exact (nI_ltI (b := 8) (by omega) (by decide)).mp h8
  · unfold zCS at hcan
    rw [if_neg h8] at hcan
    rw [h4] at h
    rw [if_pos (Int32.not_lt.mp h)] at hcan
    exact absurd hcan (by decide)
theorem WB.say (hb : WB n w) (hR : RB r) (hx : B2 x) (hcan : zCS r w = 1) (hn : n < 9999) : WB (n + 1) (zCl r (zSayW T r w x)) := by
  obtain ⟨hp, ⟨k, k8, k4⟩, h4, hi, -⟩ := say_B (T := T) hb hR hx
  have hc : WBc n (zSayW T r w x) := hb.2.1.congr fun i h1 _ => (hi i h1).symm
  have hw : WBw (zSayW T r w x) := hb.2.2.congr (hi 21 (by decide)).symm fun i h1 _ => (hi i (by omega)).symm
  have hh : WBh (zSayW T r w x) := hb.1.2.congr (hi 26 (by decide)).symm (hi 27 (by decide)).symm
  unfold zCl
  by_cases hlt : zSayW T r w x 4 < r 2
  · rw [if_pos hlt]
    obtain ⟨d, d1, d2, d3⟩ := hR.2.2.1
    have hk : k ≤ 7 := by
      rw [k4, d3] at hlt
      have := (nI_ltI (by omega) (by omega)).mp hlt
      omega
    exact ⟨⟨⟨hp.1, hp.2.1, ⟨k, hk, k4⟩, hp.2.2⟩, hh⟩, hc.mono (by omega), hw⟩
  · rw [if_neg hlt]
    obtain ⟨q, hq, h38⟩ := can_q hb hR hx hcan hlt
    exact WB.mp ⟨⟨hh, hc⟩, hw⟩ hp ((hi 38 (by decide)).trans h38) hq ⟨k, k8, k4⟩ hR hn
end CDEEDS
