/-! A NUMBER'S BITS, found by halving and doubling -/
theorem l_sh {E T : Nat} (h2 : E ≤ 2046) (hT : T < 4503599627370496) : (Int64.ofNat E <<< ((52 : Int32).toInt64 &&& 63)) + Int64.ofNat T = (DF E T).toInt64 := by
  rw [show ((52 : Int32).toInt64 &&& 63) = 52 by decide]
  refine Int64.toBitVec_inj.mp (BitVec.eq_of_toNat_eq ?_)
  rw [Int64.toBitVec_add, Int64.toBitVec_shiftLeft, UInt64.toBitVec_toInt64, show (DF E T).toBitVec.toNat = (DF E T).toNat from rfl, DF_n h2 hT, show (52 : Int64).toBitVec.smod 64 = 52#64 by decide, BitVec.shiftLeft_eq', BitVec.toNat_add, BitVec.toNat_shiftLeft, Nat.shiftLeft_eq, show (52#64).toNat = 52 by decide, show (2 : Nat) ^ 52 = 4503599627370496 by decide, show (2 : Nat) ^ 64 = 18446744073709551616 by decide]
  have a : (Int64.ofNat E).toBitVec.toNat = E := by
    show (BitVec.ofNat 64 E).toNat = E
    rw [BitVec.toNat_ofNat]
    exact Nat.mod_eq_of_lt (by omega)
  have b : (Int64.ofNat T).toBitVec.toNat = T := by
    show (BitVec.ofNat 64 T).toNat = T
    rw [BitVec.toNat_ofNat]
    exact Nat.mod_eq_of_lt (by omega)
  rw [a, b]
  omega
section BITS
variable {T : Nat} {p : UInt64} {M : Mem}
theorem tr_T {T : Nat} {c : Nat} {a : Nat} (ha : a ≤ 52) (hT : T < 4503599627370496) (hc : c = T * 2 ^ (52 - a)) : FP.Core.toL (.fin false c ((a : Int) - 52)) = Int64.ofNat T := by
  have h : FP.Core.truncate false c ((a : Int) - 52) = (T : Int) := by
    unfold FP.Core.truncate FP.Core.signed
    rw [show ((a : Int) - 52).toNat = 0 by omega, show (-((a : Int) - 52)).toNat = 52 - a by omega, hc, show (2 : Nat) ^ 0 = 1 from rfl, Nat.mul_one, Nat.mul_div_cancel _ (Nat.two_pow_pos _)]
    rfl
  unfold FP.Core.toL FP.Core.toInt
  simp only []
  rw [h, show min (2 ^ 63 - 1 : Int) (T : Int) = T by omega, show max (-2 ^ 63 : Int) (T : Int) = T by omega]
  exact Int64.ofInt_eq_ofNat
theorem d_sub (hT : T < 4503599627370496) : ∃ v, FP.dsub (DF 1023 T) FP.dconst1 = v ∧ v &&& 0x7fffffffffffffff ≤ 0x7ff0000000000000 ∧ FP.dmul v (4841369599423283200 : UInt64) &&& 0x7fffffffffffffff ≤ 0x7ff0000000000000 ∧ FP.d2l (FP.dmul v (4841369599423283200 : UInt64)) = Int64.ofNat T := by
  by_cases h0 : T = 0
  · subst h0
    exact ⟨_, rfl, by decide +kernel, by decide +kernel, by decide +kernel⟩
  · have h1 := Nat.log2_self_le h0
    have h2 := @Nat.lt_log2_self T
    have h3 : T.log2 < 52 := (Nat.log2_lt h0).mpr hT
    generalize T.log2 = a at *
    have c1 : 2 ^ a * 2 ^ (52 - a) = 4503599627370496 := by
      rw [← Nat.pow_add, show a + (52 - a) = 52 by omega]
    have c2 : 4503599627370496 ≤ T * 2 ^ (52 - a) := by
      rw [← c1]
      exact Nat.mul_le_mul_right _ h1
    have c3 : T * 2 ^ (52 - a) < 9007199254740992 := by
      have := Nat.mul_lt_mul_of_pos_right h2 (Nat.two_pow_pos (52 - a))
      rw [Nat.pow_succ, Nat.mul_right_comm, c1] at this
      exact this
    have key : FP.dsub (DF 1023 T) FP.dconst1 = DF (971 + a) (T * 2 ^ (52 - a) - 4503599627370496) := by
      show UInt64.ofNat (FP.Core.encode FP.Core.b64 (FP.Core.round FP.Core.b64 (FP.Core.exactSum _ (FP.Core.negate _)))) = _
      rw [d_1, DF_d (by omega) (by omega) hT, DF_d (by omega) (by omega) (by omega)]
      unfold FP.Core.negate FP.Core.exactSum
      simp only []
      have s : FP.Core.sumUnits false (4503599627370496 + T) (((1023 : Nat) : Int) - 1075) (!false) (4503599627370496 + 0) (((1023 : Nat) : Int) - 1075) (min (((1023 : Nat) : Int) - 1075) (((1023 : Nat) : Int) - 1075)) = (T : Int) := by
        unfold FP.Core.sumUnits FP.Core.signed FP.Core.inUnits
        rw [Int.min_self, Int.sub_self, show (2 : Nat) ^ (0 : Int).toNat = 1 by decide, if_neg (by decide), if_pos (show (!false) = true from rfl)]
        omega
      rw [s, Int.min_self]
      unfold FP.Core.sumSign FP.Core.round
      rw [if_neg (by omega), show decide ((T : Int) < 0) = false from decide_eq_false (by omega), show (T : Int).natAbs = T by omega]
      simp only []
      rw [rr_ex (c := T * 2 ^ (52 - a)) (u := 0) (v := 52 - a) (q := (a : Int) - 104) (by decide) h0 (by omega) (by rw [b64_t]; omega) (by rw [b64_p, p53]; omega) (by rw [b64_qn]; omega) (by rw [b64_qx]; omega) (by omega) (by omega)]
      rw [DF_e c2 c3 (by omega)]
      exact DF_cg (by omega) rfl
    refine ⟨_, key, DF_ok (by omega) (by omega), ?_⟩
    have m : FP.dmul (DF (971 + a) (T * 2 ^ (52 - a) - 4503599627370496)) (4841369599423283200 : UInt64) = DF (1023 + a) (T * 2 ^ (52 - a) - 4503599627370496) := by
      rw [d_52, DF_mul (by omega) (by omega) (by omega) (by omega) (by omega) (by omega) (by omega)]
      exact DF_cg (by omega) rfl
    rw [m]
    refine ⟨DF_ok (by omega) (by omega), ?_⟩
    show FP.Core.toL _ = _
    rw [DF_d (by omega) (by omega) (by omega), show (((1023 + a : Nat) : Int) - 1075) = (a : Int) - 52 by omega]
    exact tr_T (by omega) hT (by omega)
/-- zero, or a number with its fields -/
def DN (v : UInt64) : Prop := v = 0 ∨ ∃ E T, v = DF E T ∧ 1 ≤ E ∧ E ≤ 2045 ∧ T < 4503599627370496
end BITS
/-! A MEAN AND A SHARE: what dividing whole numbers gives -/
theorem log_lt {n k : Nat} (h0 : n ≠ 0) (h : n < 2 ^ k) : n.log2 < k := (Nat.log2_lt h0).mpr h
theorem log_ge {n k : Nat} (h : 2 ^ k ≤ n) : k ≤ n.log2 := by
  have h0 : n ≠ 0 := by
    have := Nat.two_pow_pos k
    omega
  exact (Nat.le_log2 h0).mpr h
theorem ld_b (n d : Nat) : (n.log2 : Int) - d.log2 - 1 ≤ FP.Core.leading n d ∧ FP.Core.leading n d ≤ (n.log2 : Int) - d.log2 := by
  unfold FP.Core.leading
  simp only []
  split <;> omega
theorem dN_i {n : Nat} (h0 : n ≠ 0) (hn : n < 2147483648) : ∃ E T, FP.i2d (nI n) = DF E T ∧ 1022 ≤ E ∧ E ≤ 1054 ∧ T < 4503599627370496 := by
  have h : FP.i2d (nI n) = UInt64.ofNat (FP.Core.encode FP.Core.b64 (FP.Core.roundRatio FP.Core.b64 false n 1 0)) := by
    show UInt64.ofNat (FP.Core.encode FP.Core.b64 (FP.Core.round FP.Core.b64 (FP.Core.ofInt (nI n).toInt))) = _
    rw [nI_toInt (by omega)]
    unfold FP.Core.ofInt FP.Core.round
    rw [show decide ((n : Int) < 0) = false from decide_eq_false (by omega), show (n : Int).natAbs = n by omega]
  have l1 := log_lt (k := 31) h0 (by omega)
  have l2 := ld_b n 1
  rw [show Nat.log2 1 = 0 by decide] at l2
  obtain ⟨c, q, e1, e2, e3, e4, e5⟩ := rr_n (f := FP.Core.b64) (s := false) (e := 0) (by decide) h0 (show (1 : Nat) ≠ 0 by omega) (by rw [b64_qn, b64_p]; omega) (by rw [b64_qx, b64_p]; omega)
  rw [b64_t] at e2
  rw [b64_p, p53] at e3
  rw [b64_p] at e4 e5
  rw [h, e1, DF_e e2 e3 (by omega)]
  exact ⟨_, _, rfl, by omega, by omega, by omega⟩
theorem fN_i {n : Nat} (h0 : n ≠ 0) (hn : n < 2147483648) : ∃ E T, FP.i2f (nI n) = FF E T ∧ 126 ≤ E ∧ E ≤ 158 ∧ T < 8388608 := by
  have h : FP.i2f (nI n) = UInt32.ofNat (FP.Core.encode FP.Core.b32 (FP.Core.roundRatio FP.Core.b32 false n 1 0)) := by
    show UInt32.ofNat (FP.Core.encode FP.Core.b32 (FP.Core.round FP.Core.b32 (FP.Core.ofInt (nI n).toInt))) = _
    rw [nI_toInt (by omega)]
    unfold FP.Core.ofInt FP.Core.round
    rw [show decide ((n : Int) < 0) = false from decide_eq_false (by omega), show (n : Int).natAbs = n by omega]
  have l1 := log_lt (k := 31) h0 (by omega)
  have l2 := ld_b n 1
  rw [show Nat.log2 1 = 0 by decide] at l2
  obtain ⟨c, q, e1, e2, e3, e4, e5⟩ := rr_n (f := FP.Core.b32) (s := false) (e := 0) (by decide) h0 (show (1 : Nat) ≠ 0 by omega) (by rw [b32_qn, b32_p]; omega) (by rw [b32_qx, b32_p]; omega)
  rw [b32_t] at e2
  rw [b32_p, p24] at e3
  rw [b32_p] at e4 e5
  rw [h, e1, FF_e e2 e3 (by omega)]
  exact ⟨_, _, rfl, by omega, by omega, by omega⟩
def FN (v : UInt32) : Prop := v = 0 ∨ ∃ E T, v = FF E T ∧ 1 ≤ E ∧ E ≤ 253 ∧ T < 8388608
theorem dv_DN {a h : Nat} (ha : a < 2147483648) (h0 : h ≠ 0) (hh : h < 2147483648) : DN (FP.ddiv (FP.i2d (nI a)) (FP.i2d (nI h))) := by
  obtain ⟨E', T', e', b1', b2', b3'⟩ := dN_i h0 hh
  rw [e']
  by_cases a0 : a = 0
  · subst a0
    refine Or.inl ?_
    show UInt64.ofNat (FP.Core.encode FP.Core.b64 (FP.Core.quotient FP.Core.b64 _ _)) = _
    rw [DF_d (by omega) (by omega) b3', show FP.Core.decode FP.Core.b64 (FP.i2d (nI 0)).toNat = .fin false 0 (-1074) by decide +kernel]
    unfold FP.Core.quotient FP.Core.roundRatio
    simp only []
    rw [if_neg (by omega), if_pos trivial]
    decide +kernel
  · obtain ⟨E, T, e, b1, b2, b3⟩ := dN_i a0 ha
    refine Or.inr ?_
    rw [e]
    have hq : FP.ddiv (DF E T) (DF E' T') = UInt64.ofNat (FP.Core.encode FP.Core.b64 (FP.Core.roundRatio FP.Core.b64 false (4503599627370496 + T) (4503599627370496 + T') ((E : Int) - 1075 - ((E' : Int) - 1075)))) := by
      show UInt64.ofNat (FP.Core.encode FP.Core.b64 (FP.Core.quotient FP.Core.b64 _ _)) = _
      rw [DF_d (by omega) (by omega) b3, DF_d (by omega) (by omega) b3']
      unfold FP.Core.quotient
      simp only []
      rw [if_neg (by omega)]
      rfl
    have l1 := log_lt (n := 4503599627370496 + T) (k := 53) (by omega) (by omega)
    have l2 := log_ge (n := 4503599627370496 + T) (k := 52) (by omega)
    have l3 := log_lt (n := 4503599627370496 + T') (k := 53) (by omega) (by omega)
    have l4 := log_ge (n := 4503599627370496 + T') (k := 52) (by omega)
    have l5 := ld_b (4503599627370496 + T) (4503599627370496 + T')
    obtain ⟨c, q, e1, e2, e3, e4, e5⟩ := rr_n (f := FP.Core.b64) (s := false) (n := 4503599627370496 + T) (d := 4503599627370496 + T') (e := (E : Int) - 1075 - ((E' : Int) - 1075)) (by decide) (by omega) (by omega) (by rw [b64_qn, b64_p]; omega) (by rw [b64_qx, b64_p]; omega)
    rw [b64_t] at e2
    rw [b64_p, p53] at e3
    rw [b64_p] at e4 e5
    rw [hq, e1, DF_e e2 e3 (by omega)]
    exact ⟨_, _, rfl, by omega, by omega, by omega⟩
theorem dv_FN {a h : Nat} (ha : a < 2147483648) (h0 : h ≠ 0) (hh : h < 2147483648) : FN (FP.fdiv (FP.i2f (nI a)) (FP.i2f (nI h))) := by
  obtain ⟨E', T', e', b1', b2', b3'⟩ := fN_i h0 hh
  rw [e']
  by_cases a0 : a = 0
  · subst a0
    refine Or.inl ?_
    show UInt32.ofNat (FP.Core.encode FP.Core.b32 (FP.Core.quotient FP.Core.b32 _ _)) = _
    rw [FF_d (by omega) (by omega) b3', show FP.Core.decode FP.Core.b32 (FP.i2f (nI 0)).toNat = .fin false 0 (-149) by decide +kernel]
    unfold FP.Core.quotient FP.Core.roundRatio
    simp only []
    rw [if_neg (by omega), if_pos trivial]
    decide +kernel
  · obtain ⟨E, T, e, b1, b2, b3⟩ := fN_i a0 ha
    refine Or.inr ?_
    rw [e]
    have hq : FP.fdiv (FF E T) (FF E' T') = UInt32.ofNat (FP.Core.encode FP.Core.b32 (FP.Core.roundRatio FP.Core.b32 false (8388608 + T) (8388608 + T') ((E : Int) - 150 - ((E' : Int) - 150)))) := by
      show UInt32.ofNat (FP.Core.encode FP.Core.b32 (FP.Core.quotient FP.Core.b32 _ _)) = _
      rw [FF_d (by omega) (by omega) b3, FF_d (by omega) (by omega) b3']
      unfold FP.Core.quotient
      simp only []
      rw [if_neg (by omega)]
      rfl
    have l1 := log_lt (n := 8388608 + T) (k := 24) (by omega) (by omega)
    have l2 := log_ge (n := 8388608 + T) (k := 23) (by omega)
    have l3 := log_lt (n := 8388608 + T') (k := 24) (by omega) (by omega)
    have l4 := log_ge (n := 8388608 + T') (k := 23) (by omega)
    have l5 := ld_b (8388608 + T) (8388608 + T')
    obtain ⟨c, q, e1, e2, e3, e4, e5⟩ := rr_n (f := FP.Core.b32) (s := false) (n := 8388608 + T) (d := 8388608 + T') (e := (E : Int) - 150 - ((E' : Int) - 150)) (by decide) (by omega) (by omega) (by rw [b32_qn, b32_p]; omega) (by rw [b32_qx, b32_p]; omega)
    rw [b32_t] at e2
    rw [b32_p, p24] at e3
    rw [b32_p] at e4 e5
    rw [hq, e1, FF_e e2 e3 (by omega)]
    exact ⟨_, _, rfl, by omega, by omega, by omega⟩
section DNFN
variable {v : UInt64} {p : UInt32} {M : Mem}
theorem DN.ok (h : DN v) : v &&& 0x7fffffffffffffff ≤ 0x7ff0000000000000 := by
  rcases h with h | ⟨E, T, h, h1, h2, h3⟩
  · rw [h]; decide
  · rw [h]; exact DF_ok (by omega) h3
theorem DN.same (h : DN v) : FP.dcmp v v = some .eq := by
  rcases h with h | ⟨E, T, h, h1, h2, h3⟩
  · rw [h]; decide
  · rw [h]; exact DF_same h1 (by omega) h3
theorem FN.ok (h : FN p) : p &&& 0x7fffffff ≤ 0x7f800000 := by
  rcases h with h | ⟨E, T, h, h1, h2, h3⟩
  · rw [h]; decide
  · rw [h]; exact FF_ok (by omega) h3
theorem FN.same (h : FN p) : FP.fcmp p p = some .eq := by
  rcases h with h | ⟨E, T, h, h1, h2, h3⟩
  · rw [h]; decide
  · rw [h]; exact FF_same h1 (by omega) h3
theorem f2d_F {E T : Nat} (h1 : 1 ≤ E) (h2 : E ≤ 253) (hT : T < 8388608) : FP.f2d (FF E T) = DF (E + 896) (T * 536870912) := by
  unfold FP.f2d
  have hn : FP.Core.fIsNaN (FF E T) = false := by
    show decide (FP.Core.decode FP.Core.b32 (FF E T).toNat = .nan) = false
    rw [FF_d h1 (by omega) hT]
    exact decide_eq_false (fun z => FP.Core.Datum.noConfusion z)
  rw [hn, if_neg (by decide)]
  show UInt64.ofNat (FP.Core.encode FP.Core.b64 (FP.Core.round FP.Core.b64 (FP.Core.decode FP.Core.b32 (FF E T).toNat))) = _
  rw [FF_d h1 (by omega) hT]
  unfold FP.Core.round
  simp only []
  rw [rr_ex (c := (8388608 + T) * 536870912) (u := 0) (v := 29) (q := (E : Int) - 179) (by decide) (by omega) (by omega) (by rw [b64_t]; omega) (by rw [b64_p, p53]; omega) (by rw [b64_qn]; omega) (by rw [b64_qx]; omega) (by omega) (by omega), DF_e (by omega) (by omega) (by omega)]
  exact DF_cg (by omega) (by omega)
theorem FN.d (h : FN p) : DN (FP.f2d p) := by
  rcases h with h | ⟨E, T, h, h1, h2, h3⟩
  · exact Or.inl (by rw [h]; decide +kernel)
  · rw [h, f2d_F h1 h2 h3]
    exact Or.inr ⟨_, _, rfl, by omega, by omega, by omega⟩
theorem l_sr {N k : Nat} {s : Int64} (hs : s.toBitVec.smod 64 = BitVec.ofNat 64 k) (hk : k < 64) (hN : N < 9223372036854775808) : Int64.ofNat N >>> s = Int64.ofNat (N / 2 ^ k) := by
  refine Int64.toBitVec_inj.mp (BitVec.eq_of_toNat_eq ?_)
  have a : (Int64.ofNat N).toBitVec.toNat = N := by
    show (BitVec.ofNat 64 N).toNat = N
    rw [BitVec.toNat_ofNat]
    exact Nat.mod_eq_of_lt (by omega)
  have b : (Int64.ofNat (N / 2 ^ k)).toBitVec.toNat = N / 2 ^ k := by
    show (BitVec.ofNat 64 (N / 2 ^ k)).toNat = N / 2 ^ k
    rw [BitVec.toNat_ofNat]
    have := Nat.div_le_self N (2 ^ k)
    exact Nat.mod_eq_of_lt (by omega)
  have m : (Int64.ofNat N).toBitVec.msb = false := BitVec.msb_eq_false_iff_two_mul_lt.mpr (by rw [a]; omega)
  have e : (BitVec.ofNat 64 k).toNat = k := by
    rw [BitVec.toNat_ofNat]
    exact Nat.mod_eq_of_lt (by omega)
  rw [Int64.toBitVec_shiftRight, hs, BitVec.sshiftRight_eq', BitVec.sshiftRight_eq_of_msb_false m, BitVec.toNat_ushiftRight, a, b, e, Nat.shiftRight_eq_div_pow]
theorem l_sl {N k : Nat} {s : Int64} (hs : s.toBitVec.smod 64 = BitVec.ofNat 64 k) (hk : k < 64) : Int64.ofNat N <<< s = Int64.ofNat (N * 2 ^ k) := by
  refine Int64.toBitVec_inj.mp (BitVec.eq_of_toNat_eq ?_)
  have a : (Int64.ofNat N).toBitVec.toNat = N % 2 ^ 64 := by
    show (BitVec.ofNat 64 N).toNat = _
    rw [BitVec.toNat_ofNat]
  have b : (Int64.ofNat (N * 2 ^ k)).toBitVec.toNat = (N * 2 ^ k) % 2 ^ 64 := by
    show (BitVec.ofNat 64 (N * 2 ^ k)).toNat = _
    rw [BitVec.toNat_ofNat]
  have e : (BitVec.ofNat 64 k).toNat = k := by
    rw [BitVec.toNat_ofNat]
    exact Nat.mod_eq_of_lt (by omega)
  rw [Int64.toBitVec_shiftLeft, hs, BitVec.shiftLeft_eq', BitVec.toNat_shiftLeft, a, b, e, Nat.shiftLeft_eq, Nat.mod_mul_mod]
theorem l_an {N : Nat} (hN : N < 9223372036854775808) : Int64.ofNat N &&& (4503599627370495 : Int64) = Int64.ofNat (N % 4503599627370496) := by
  refine Int64.toBitVec_inj.mp (BitVec.eq_of_toNat_eq ?_)
  have a : (Int64.ofNat N).toBitVec.toNat = N := by
    show (BitVec.ofNat 64 N).toNat = N
    rw [BitVec.toNat_ofNat]
    exact Nat.mod_eq_of_lt (by omega)
  have b : (Int64.ofNat (N % 4503599627370496)).toBitVec.toNat = N % 4503599627370496 := by
    show (BitVec.ofNat 64 (N % 4503599627370496)).toNat = _
    rw [BitVec.toNat_ofNat]
    exact Nat.mod_eq_of_lt (by omega)
  rw [Int64.toBitVec_and, BitVec.toNat_and, a, b, show (4503599627370495 : Int64).toBitVec.toNat = 2 ^ 52 - 1 by decide, Nat.and_two_pow_sub_one_eq_mod]
end DNFN
section MEANS
variable {M M1 M' : Mem} {x a s d n m c l v e k L : Nat} {r q w t f : Nat → Int32} {g : Nat → Nat → Int32} {b : Bool} {y p p1 p2 p3 z : Int32}
def meanR (w : Nat → Int32) : UInt64 := if w 29 = 0 then FP.dconst0 else FP.ddiv (FP.i2d (w 33)) (FP.i2d (w 29))
theorem mean_T (h : CI x M n r q b g c t l) (hn : n ≤ 512) (hv : v < 3) : f_X8_meanError x (nI v) M = some (0, meanR (vo r v), M) ∧ DN (meanR (vo r v)) := by
  obtain ⟨hV, hW, hB, hS, hR⟩ := h.rv hv
  obtain ⟨w26, w27, wk⟩ := hV.1.2.2
  obtain ⟨N, A, C, Z, Lo, H, E, lo, ⟨k21, k28, k37, k30, k31, k29, k33, k36⟩, h1, h2, h3, h4, h5, h6, h7, h8⟩ := hB.2.1
  have e2 : mI M (x + 5 + 44 * v + 9) 2 = nI H := (wk 2 (by decide) (by decide)).trans k29
  have e6 : mI M (x + 5 + 44 * v + 9) 6 = nI E := (wk 6 (by decide) (by decide)).trans k33
  unfold f_X8_meanError f_X1_meanOfErrors meanR
  rw [voice_ok hv, xb_s, e2, e6, k29, k33]
  by_cases h0 : H = 0
  · subst h0
    rw [if_pos (by decide), if_pos (by decide), vb_s]
    exact ⟨rfl, Or.inl rfl⟩
  · have hd := dv_DN (a := E) (h := H) (by omega) h0 (by omega)
    rw [if_neg (show ¬ nI H ≤ 0 from nI_ge (b := H) (a := 0) (by omega) (by omega)), gd_s hd.ok, vb_s, if_neg (nI_ne0 (by omega) (by omega))]
    exact ⟨rfl, hd⟩
def shareR (r : Nat → Int32) : UInt32 := if suV r 21 = 0 then FP.fconst0 else FP.fdiv (FP.i2f (suV r 36)) (FP.i2f (suV r 21))
theorem share_T (h : CI x M n r q b g c t l) (hn : n ≤ 512) : f_X8_lostShare x M = some (shareR r) ∧ FN (shareR r) := by
  have cnt : ∀ v, v < 3 → ∃ A B, vo r v 21 = nI A ∧ vo r v 36 = nI B ∧ A ≤ 512 ∧ B ≤ 512 := fun v hv => by
    obtain ⟨hV, hW, hB, hS, hR⟩ := h.rv hv
    obtain ⟨N, A, C, Z, Lo, H, E, lo, ⟨k21, k28, k37, k30, k31, k29, k33, k36⟩, h1, h2, h3, h4, h5, h6, h7, h8⟩ := hB.2.1
    exact ⟨N, lo, k21, k36, by omega, by omega⟩
  obtain ⟨A0, B0, a0, b0, c0, d0⟩ := cnt 0 (by decide)
  obtain ⟨A1, B1, a1, b1, c1, d1⟩ := cnt 1 (by decide)
  obtain ⟨A2, B2, a2, b2, c2, d2⟩ := cnt 2 (by decide)
  have s21 : suV r 21 = nI (A0 + A1 + A2) := by
    unfold suV
    rw [a0, a1, a2, zA, zA]
  have s36 : suV r 36 = nI (B0 + B1 + B2) := by
    unfold suV
    rw [b0, b1, b2, zA, zA]
  have c21 : f_X8_sumOver x 2 M = some (suV r 21) := by rw [sums_c h (by decide)]; rfl
  have c36 : f_X8_sumOver x 4 M = some (suV r 36) := by rw [sums_c h (by decide)]; rfl
  have hA : A0 + A1 + A2 < 2147483648 := by omega
  have hB : B0 + B1 + B2 < 2147483648 := by omega
  generalize A0 + A1 + A2 = A at *
  generalize B0 + B1 + B2 = B at *
  unfold f_X8_lostShare f_X8_shareOfLost shareR
  rw [c21, vb_s, c36, s21, s36]
  by_cases h0 : A = 0
  · subst h0
    rw [if_pos (by decide), if_pos (by decide), vb_s]
    exact ⟨rfl, Or.inl rfl⟩
  · have hd := dv_FN (a := B) (h := A) hB h0 hA
    rw [if_neg (show ¬ nI A ≤ 0 from nI_ge (b := A) (a := 0) (by omega) (by omega)), vb_s, gd_s hd.ok, vb_s, if_neg (nI_ne0 (by omega) (by omega))]
    exact ⟨rfl, hd⟩
end MEANS
