/-! A NUMBER'S BITS, found by halving and doubling -/
theorem l_sh {E T : Nat} (h2 : E ≤ 2046) (hT : T < 4503599627370496) : (Int64.ofNat E <<< ((52 : Int32).toInt64 &&& 63)) + Int64.ofNat T = (DF E T).toInt64 := by
  rw [show ((52 : Int32).toInt64 &&& 63) = 52 by decide]
  refine Int64.toBitVec_inj.mp (BitVec.eq_of_toNat_eq ?_)
  rw [Int64.toBitVec_add, Int64.toBitVec_shiftLeft, UInt64.toBitVec_toInt64, show (DF E T).toBitVec.toNat = (DF E T).toNat from rfl, DF_n h2 hT, show (52 : Int64).toBitVec.smod 64 = 52#64 by decide, BitVec.shiftLeft_eq', BitVec.toNat_add, BitVec.toNat_shiftLeft, Nat.shiftLeft_eq, show (52#64).toNat = 52 by decide, show (2 : Nat) ^ 52 = 4503599627370496 by decide, show (2 : Nat) ^ 64 = 18446744073709551616 by decide]
  have a : (Int64.ofNat E).toBitVec.toNat = E := by
    show (BitVec.ofNat 64 E).toNat = E
    rw [BitVec.toNat_ofNat]
    exact Nat.mod_eq_of_lt (by omega)
  have b : (Int64.ofNat T).toBitVec.toNat = T := by
    show (BitVec.ofNat 64 T).toNat = T
    rw [BitVec.toNat_ofNat]
    exact Nat.mod_eq_of_lt (by omega)
  rw [a, b]
  omega
section BITS
variable {T : Nat} {p : UInt64} {M : Mem}
theorem tr_T {T : Nat} {c : Nat} {a : Nat} (ha : a ≤ 52) (hT : T < 4503599627370496) (hc : c = T * 2 ^ (52 - a)) : FP.Core.toL (.fin false c ((a : Int) - 52)) = Int64.ofNat T := by
  have h : FP.Core.truncate false c ((a : Int) - 52) = (T : Int) := by
    unfold FP.Core.truncate FP.Core.signed
    rw [show ((a : Int) - 52).toNat = 0 by omega, show (-((a : Int) - 52)).toNat = 52 - a by omega, hc, show (2 : Nat) ^ 0 = 1 from rfl, Nat.mul_one, Nat.mul_div_cancel _ (Nat.two_pow_pos _)]
    rfl
  unfold FP.Core.toL FP.Core.toInt
  simp only []
  rw [h, show min (2 ^ 63 - 1 : Int) (T : Int) = T by omega, show max (-2 ^ 63 : Int) (T : Int) = T by omega]
  exact Int64.ofInt_eq_ofNat
theorem d_sub (hT : T < 4503599627370496) : ∃ v, FP.dsub (DF 1023 T) FP.dconst1 = v ∧ v &&& 0x7fffffffffffffff ≤ 0x7ff0000000000000 ∧ FP.dmul v (4841369599423283200 : UInt64) &&& 0x7fffffffffffffff ≤ 0x7ff0000000000000 ∧ FP.d2l (FP.dmul v (4841369599423283200 : UInt64)) = Int64.ofNat T := by
  by_cases h0 : T = 0
  · subst h0
    exact ⟨_, rfl, by decide +kernel, by decide +kernel, by decide +kernel⟩
  · have h1 := Nat.log2_self_le h0
    have h2 := @Nat.lt_log2_self T
    have h3 : T.log2 < 52 := (Nat.log2_lt h0).mpr hT
    generalize T.log2 = a at *
    have c1 : 2 ^ a * 2 ^ (52 - a) = 4503599627370496 := by
      rw [← Nat.pow_add, show a + (52 - a) = 52 by omega]
    have c2 : 4503599627370496 ≤ T * 2 ^ (52 - a) := by
      rw [← c1]
      exact Nat.mul_le_mul_right _ h1
    have c3 : T * 2 ^ (52 - a) < 9007199254740992 := by
      have := Nat.mul_lt_mul_of_pos_right h2 (Nat.two_pow_pos (52 - a))
      rw [Nat.pow_succ, Nat.mul_right_comm, c1] at this
      exact this
    have key : FP.dsub (DF 1023 T) FP.dconst1 = DF (971 + a) (T * 2 ^ (52 - a) - 4503599627370496) := by
      show UInt64.ofNat (FP.Core.encode FP.Core.b64 (FP.Core.round FP.Core.b64 (FP.Core.exactSum _ (FP.Core.negate _)))) = _
      rw [d_1, DF_d (by omega) (by omega) hT, DF_d (by omega) (by omega) (by omega)]
      unfold FP.Core.negate FP.Core.exactSum
      simp only []
      have s : FP.Core.sumUnits false (4503599627370496 + T) (((1023 : Nat) : Int) - 1075) (!false) (4503599627370496 + 0) (((1023 : Nat) : Int) - 1075) (min (((1023 : Nat) : Int) - 1075) (((1023 : Nat) : Int) - 1075)) = (T : Int) := by
        unfold FP.Core.sumUnits FP.Core.signed FP.Core.inUnits
        rw [Int.min_self, Int.sub_self, show (2 : Nat) ^ (0 : Int).toNat = 1 by decide, if_neg (by decide), if_pos (show (!false) = true from rfl)]
        omega
      rw [s, Int.min_self]
      unfold FP.Core.sumSign FP.Core.round
      rw [if_neg (by omega), show decide ((T : Int) < 0) = false from decide_eq_false (by omega), show (T : Int).natAbs = T by omega]
      simp only []
      rw [rr_ex (c := T * 2 ^ (52 - a)) (u := 0) (v := 52 - a) (q := (a : Int) - 104) (by decide) h0 (by omega) (by rw [b64_t]; omega) (by rw [b64_p, p53]; omega) (by rw [b64_qn]; omega) (by rw [b64_qx]; omega) (by omega) (by omega)]
      rw [DF_e c2 c3 (by omega)]
      exact DF_cg (by omega) rfl
    refine ⟨_, key, DF_ok (by omega) (by omega), ?_⟩
    have m : FP.dmul (DF (971 + a) (T * 2 ^ (52 - a) - 4503599627370496)) (4841369599423283200 : UInt64) = DF (1023 + a) (T * 2 ^ (52 - a) - 4503599627370496) := by
      rw [d_52, DF_mul (by omega) (by omega) (by omega) (by omega) (by omega) (by omega) (by omega)]
      exact DF_cg (by omega) rfl
    rw [m]
    refine ⟨DF_ok (by omega) (by omega), ?_⟩
    show FP.Core.toL _ = _
    rw [DF_d (by omega) (by omega) (by omega), show (((1023 + a : Nat) : Int) - 1075) = (a : Int) - 52 by omega]
    exact tr_T (by omega) hT (by omega)
theorem b_87 (hT : T < 4503599627370496) {w : Nat} (hw : w ≤ 2046) : f_X8_bitsOfDouble_b87 p (DF 1023 T) (Int64.ofNat w) M = some (DF w T).toInt64 := by
  obtain ⟨v, e1, e2, e3, e4⟩ := d_sub hT
  unfold f_X8_bitsOfDouble_b87
  rw [e1, gd_s e2, gd_s e3, e4, l_sh hw hT]
theorem b_55 (hT : T < 4503599627370496) : ∀ (k n E w j : Nat), E + k = 1023 → 1 ≤ E → k < n → j + k ≤ 1022 → k ≤ w → w ≤ 2046 → f_X8_bitsOfDouble_b55 p n (DF E T) (Int64.ofNat w) (nI j) M = some (DF (w - k) T).toInt64 := by
  intro k
  induction k with
  | zero =>
    intro n E w j hE h1 hn hj hk hw
    obtain ⟨n, rfl⟩ := Nat.exists_eq_succ_of_ne_zero (show n ≠ 0 by omega)
    have hE' : E = 1023 := by omega
    subst hE'
    unfold f_X8_bitsOfDouble_b55
    rw [if_neg (show ¬ (1023 : Int32) ≤ nI j from nI_ge (b := 1023) (by omega) (by decide)), if_pos (DF_ge1 hT), b_87 hT hw]
    rfl
  | succ k ih =>
    intro n E w j hE h1 hn hj hk hw
    obtain ⟨n, rfl⟩ := Nat.exists_eq_succ_of_ne_zero (show n ≠ 0 by omega)
    unfold f_X8_bitsOfDouble_b55
    rw [if_neg (show ¬ (1023 : Int32) ≤ nI j from nI_ge (b := 1023) (by omega) (by decide)), DF_lt1 h1 (by omega) hT, cv_lt, if_neg (by decide)]
    have m : FP.dmul (DF E T) (4611686018427387904 : UInt64) = DF (E + 1) T := by
      rw [d_2, DF_mul (by omega) (by omega) (by omega) (by omega) (by omega) (by omega) hT]
      exact DF_cg (by omega) rfl
    rw [m, gd_s (DF_ok (by omega) hT), nb_s, nb_s, nb_s, show Int64.ofNat w - 1 = Int64.ofNat (w - 1) from (Int64.ofNat_sub w 1 (by omega)).symm, ← nI_succ, ih n (E + 1) (w - 1) (j + 1) (by omega) (by omega) (by omega) (by omega) (by omega) (by omega), show w - 1 - k = w - (k + 1) by omega]
theorem b_18 (hT : T < 4503599627370496) : ∀ (k n E w j : Nat), (E = 1023 + k ∨ k = 0 ∧ E ≤ 1023) → 1 ≤ E → k < n → j + k ≤ 1022 → 1023 ≤ w → w + k ≤ 2046 → f_X8_bitsOfDouble_b18 p n (DF E T) (Int64.ofNat w) (nI j) M = some (DF (w + k - (1023 + k - E)) T).toInt64 := by
  intro k
  induction k with
  | zero =>
    intro n E w j hE h1 hn hj hk hw
    obtain ⟨n, rfl⟩ := Nat.exists_eq_succ_of_ne_zero (show n ≠ 0 by omega)
    unfold f_X8_bitsOfDouble_b18
    rw [if_neg (show ¬ (1023 : Int32) ≤ nI j from nI_ge (b := 1023) (by omega) (by decide)), DF_lt2 h1 (by omega) hT, cv_lt, if_pos (by decide), f_X8_bitsOfDouble_b52, show (0 : Int32) = nI 0 from rfl, b_55 hT (1023 - E) lfuel E w 0 (by omega) h1 (by unfold lfuel; omega) (by omega) (by omega) (by omega)]
    rfl
  | succ k ih =>
    intro n E w j hE h1 hn hj hk hw
    obtain ⟨n, rfl⟩ := Nat.exists_eq_succ_of_ne_zero (show n ≠ 0 by omega)
    unfold f_X8_bitsOfDouble_b18
    rw [if_neg (show ¬ (1023 : Int32) ≤ nI j from nI_ge (b := 1023) (by omega) (by decide)), if_neg (DF_ge2 (by omega) (by omega) hT), DF_div (by omega) (by omega) hT, gd_s (DF_ok (by omega) hT), nb_s, nb_s, nb_s, show Int64.ofNat w + 1 = Int64.ofNat (w + 1) from (Int64.ofNat_add w 1).symm, ← nI_succ, ih n (E - 1) (w + 1) (j + 1) (by omega) (by omega) (by omega) (by omega) (by omega) (by omega)]
    exact congrArg (fun z => some (DF z T).toInt64) (by omega)
/-- zero, or a number with its fields -/
def DN (v : UInt64) : Prop := v = 0 ∨ ∃ E T, v = DF E T ∧ 1 ≤ E ∧ E ≤ 2045 ∧ T < 4503599627370496
end BITS
