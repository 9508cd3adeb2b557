/-! THE LAW. Every turn; the claim's start -/
section TURN
variable {x k L : Nat} {xs : Nat → Int32} {M : Mem}
theorem law_all (hL : 4 * k + 4 ≤ L) (hL2 : L ≤ 2048) (h : Inv x k M) : ∃ M', f_law x (x + 1095) (x + 1105) (x + 1106) xs L (Int32.ofNat (4 * k)) M = some M' ∧ Inv x (k + 1) M' := by
  unfold f_law
  generalize hz : xs (Int32.ofNat (4 * k)).toNatClampNeg &&& 31 = z
  by_cases g0 : z = 0
  · rw [if_pos g0]
    exact w_0 hL hL2 h
  rw [if_neg g0]
  by_cases g1 : z = 1
  · rw [if_pos g1]
    exact w_1 hL hL2 h
  rw [if_neg g1]
  by_cases g2 : z = 2
  · rw [if_pos g2]
    exact w_2 hL hL2 h
  rw [if_neg g2]
  by_cases g3 : z = 3
  · rw [if_pos g3]
    exact w_3 hL hL2 h
  rw [if_neg g3]
  by_cases g4 : z = 4
  · rw [if_pos g4]
    exact w_4 hL hL2 h
  rw [if_neg g4]
  by_cases g5 : z = 5
  · rw [if_pos g5]
    exact w_5 hL hL2 h
  rw [if_neg g5]
  by_cases g6 : z = 6
  · rw [if_pos g6]
    exact w_6 hL hL2 h
  rw [if_neg g6]
  by_cases g7 : z = 7
  · rw [if_pos g7]
    exact w_7 h
  rw [if_neg g7]
  by_cases g8 : z = 8
  · rw [if_pos g8]
    exact w_8 h
  rw [if_neg g8]
  by_cases g9 : z = 9
  · rw [if_pos g9]
    exact w_9 hL hL2 h
  rw [if_neg g9]
  by_cases g10 : z = 10
  · rw [if_pos g10]
    exact w_10 h
  rw [if_neg g10]
  by_cases g11 : z = 11
  · rw [if_pos g11]
    exact w_11 h
  rw [if_neg g11]
  by_cases g12 : z = 12
  · rw [if_pos g12]
    exact w_12 h
  rw [if_neg g12]
  by_cases g13 : z = 13
  · rw [if_pos g13]
    exact w_13 hL hL2 h
  rw [if_neg g13]
  by_cases g14 : z = 14
  · rw [if_pos g14]
    exact w_14 hL hL2 h
  rw [if_neg g14]
  by_cases g15 : z = 15
  · rw [if_pos g15]
    exact w_15 hL hL2 h
  rw [if_neg g15]
  by_cases g16 : z = 16
  · rw [if_pos g16]
    exact w_16 hL hL2 h
  rw [if_neg g16]
  by_cases g17 : z = 17
  · rw [if_pos g17]
    exact w_17 hL hL2 h
  rw [if_neg g17]
  by_cases g18 : z = 18
  · rw [if_pos g18]
    exact w_18 hL hL2 h
  rw [if_neg g18]
  by_cases g19 : z = 19
  · rw [if_pos g19]
    exact w_19 hL hL2 h
  rw [if_neg g19]
  by_cases g20 : z = 20
  · rw [if_pos g20]
    exact w_20 hL hL2 h
  rw [if_neg g20]
  by_cases g21 : z = 21
  · rw [if_pos g21]
    exact w_21 hL hL2 h
  rw [if_neg g21]
  by_cases g22 : z = 22
  · rw [if_pos g22]
    exact w_22 hL hL2 h
  rw [if_neg g22]
  by_cases g23 : z = 23
  · rw [if_pos g23]
    exact w_23 hL hL2 h
  rw [if_neg g23]
  by_cases g24 : z = 24
  · rw [if_pos g24]
    exact w_24 hL hL2 h
  rw [if_neg g24]
  obtain ⟨r, q, b, g, c, t, l, hl, hC, hI⟩ := h
  exact ⟨M, rfl, r, q, b, g, c, t, l, by omega, hC.mono (by omega), hI⟩
end TURN
