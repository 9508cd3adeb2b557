/-! A MEAN AND A SHARE: what dividing whole numbers gives -/
theorem log_lt {n k : Nat} (h0 : n ≠ 0) (h : n < 2 ^ k) : n.log2 < k := (Nat.log2_lt h0).mpr h
theorem log_ge {n k : Nat} (h : 2 ^ k ≤ n) : k ≤ n.log2 := by
  have h0 : n ≠ 0 := by
    have := Nat.two_pow_pos k
    omega
  exact (Nat.le_log2 h0).mpr h
theorem ld_b (n d : Nat) : (n.log2 : Int) - d.log2 - 1 ≤ FP.Core.leading n d ∧ FP.Core.leading n d ≤ (n.log2 : Int) - d.log2 := by
  unfold FP.Core.leading
  simp only []
  split <;> omega
theorem dN_i {n : Nat} (h0 : n ≠ 0) (hn : n < 2147483648) : ∃ E T, FP.i2d (nI n) = DF E T ∧ 1022 ≤ E ∧ E ≤ 1054 ∧ T < 4503599627370496 := by
  have h : FP.i2d (nI n) = UInt64.ofNat (FP.Core.encode FP.Core.b64 (FP.Core.roundRatio FP.Core.b64 false n 1 0)) := by
    show UInt64.ofNat (FP.Core.encode FP.Core.b64 (FP.Core.round FP.Core.b64 (FP.Core.ofInt (nI n).toInt))) = _
    rw [nI_toInt (by omega)]
    unfold FP.Core.ofInt FP.Core.round
    rw [show decide ((n : Int) < 0) = false from decide_eq_false (by omega), show (n : Int).natAbs = n by omega]
  have l1 := log_lt (k := 31) h0 (by omega)
  have l2 := ld_b n 1
  rw [show Nat.log2 1 = 0 by decide] at l2
  obtain ⟨c, q, e1, e2, e3, e4, e5⟩ := rr_n (f := FP.Core.b64) (s := false) (e := 0) (by decide) h0 (show (1 : Nat) ≠ 0 by omega) (by rw [b64_qn, b64_p]; omega) (by rw [b64_qx, b64_p]; omega)
  rw [b64_t] at e2
  rw [b64_p, p53] at e3
  rw [b64_p] at e4 e5
  rw [h, e1, DF_e e2 e3 (by omega)]
  exact ⟨_, _, rfl, by omega, by omega, by omega⟩
theorem fN_i {n : Nat} (h0 : n ≠ 0) (hn : n < 2147483648) : ∃ E T, FP.i2f (nI n) = FF E T ∧ 126 ≤ E ∧ E ≤ 158 ∧ T < 8388608 := by
  have h : FP.i2f (nI n) = UInt32.ofNat (FP.Core.encode FP.Core.b32 (FP.Core.roundRatio FP.Core.b32 false n 1 0)) := by
    show UInt32.ofNat (FP.Core.encode FP.Core.b32 (FP.Core.round FP.Core.b32 (FP.Core.ofInt (nI n).toInt))) = _
    rw [nI_toInt (by omega)]
    unfold FP.Core.ofInt FP.Core.round
    rw [show decide ((n : Int) < 0) = false from decide_eq_false (by omega), show (n : Int).natAbs = n by omega]
  have l1 := log_lt (k := 31) h0 (by omega)
  have l2 := ld_b n 1
  rw [show Nat.log2 1 = 0 by decide] at l2
  obtain ⟨c, q, e1, e2, e3, e4, e5⟩ := rr_n (f := FP.Core.b32) (s := false) (e := 0) (by decide) h0 (show (1 : Nat) ≠ 0 by omega) (by rw [b32_qn, b32_p]; omega) (by rw [b32_qx, b32_p]; omega)
  rw [b32_t] at e2
  rw [b32_p, p24] at e3
  rw [b32_p] at e4 e5
  rw [h, e1, FF_e e2 e3 (by omega)]
  exact ⟨_, _, rfl, by omega, by omega, by omega⟩
def FN (v : UInt32) : Prop := v = 0 ∨ ∃ E T, v = FF E T ∧ 1 ≤ E ∧ E ≤ 253 ∧ T < 8388608
theorem dv_DN {a h : Nat} (ha : a < 2147483648) (h0 : h ≠ 0) (hh : h < 2147483648) : DN (FP.ddiv (FP.i2d (nI a)) (FP.i2d (nI h))) := by
  obtain ⟨E', T', e', b1', b2', b3'⟩ := dN_i h0 hh
  rw [e']
  by_cases a0 : a = 0
  · subst a0
    refine Or.inl ?_
    show UInt64.ofNat (FP.Core.encode FP.Core.b64 (FP.Core.quotient FP.Core.b64 _ _)) = _
    rw [DF_d (by omega) (by omega) b3', show FP.Core.decode FP.Core.b64 (FP.i2d (nI 0)).toNat = .fin false 0 (-1074) by decide +kernel]
    unfold FP.Core.quotient FP.Core.roundRatio
    simp only []
    rw [if_neg (by omega), if_pos trivial]
    decide +kernel
  · obtain ⟨E, T, e, b1, b2, b3⟩ := dN_i a0 ha
    refine Or.inr ?_
    rw [e]
    have hq : FP.ddiv (DF E T) (DF E' T') = UInt64.ofNat (FP.Core.encode FP.Core.b64 (FP.Core.roundRatio FP.Core.b64 false (4503599627370496 + T) (4503599627370496 + T') ((E : Int) - 1075 - ((E' : Int) - 1075)))) := by
      show UInt64.ofNat (FP.Core.encode FP.Core.b64 (FP.Core.quotient FP.Core.b64 _ _)) = _
      rw [DF_d (by omega) (by omega) b3, DF_d (by omega) (by omega) b3']
      unfold FP.Core.quotient
      simp only []
      rw [if_neg (by omega)]
      rfl
    have l1 := log_lt (n := 4503599627370496 + T) (k := 53) (by omega) (by omega)
    have l2 := log_ge (n := 4503599627370496 + T) (k := 52) (by omega)
    have l3 := log_lt (n := 4503599627370496 + T') (k := 53) (by omega) (by omega)
    have l4 := log_ge (n := 4503599627370496 + T') (k := 52) (by omega)
    have l5 := ld_b (4503599627370496 + T) (4503599627370496 + T')
    obtain ⟨c, q, e1, e2, e3, e4, e5⟩ := rr_n (f := FP.Core.b64) (s := false) (n := 4503599627370496 + T) (d := 4503599627370496 + T') (e := (E : Int) - 1075 - ((E' : Int) - 1075)) (by decide) (by omega) (by omega) (by rw [b64_qn, b64_p]; omega) (by rw [b64_qx, b64_p]; omega)
    rw [b64_t] at e2
    rw [b64_p, p53] at e3
    rw [b64_p] at e4 e5
    rw [hq, e1, DF_e e2 e3 (by omega)]
    exact ⟨_, _, rfl, by omega, by omega, by omega⟩
theorem dv_FN {a h : Nat} (ha : a < 2147483648) (h0 : h ≠ 0) (hh : h < 2147483648) : FN (FP.fdiv (FP.i2f (nI a)) (FP.i2f (nI h))) := by
  obtain ⟨E', T', e', b1', b2', b3'⟩ := fN_i h0 hh
  rw [e']
  by_cases a0 : a = 0
  · subst a0
    refine Or.inl ?_
    show UInt32.ofNat (FP.Core.encode FP.Core.b32 (FP.Core.quotient FP.Core.b32 _ _)) = _
    rw [FF_d (by omega) (by omega) b3', show FP.Core.decode FP.Core.b32 (FP.i2f (nI 0)).toNat = .fin false 0 (-149) by decide +kernel]
    unfold FP.Core.quotient FP.Core.roundRatio
    simp only []
    rw [if_neg (by omega), if_pos trivial]
    decide +kernel
  · obtain ⟨E, T, e, b1, b2, b3⟩ := fN_i a0 ha
    refine Or.inr ?_
    rw [e]
    have hq : FP.fdiv (FF E T) (FF E' T') = UInt32.ofNat (FP.Core.encode FP.Core.b32 (FP.Core.roundRatio FP.Core.b32 false (8388608 + T) (8388608 + T') ((E : Int) - 150 - ((E' : Int) - 150)))) := by
      show UInt32.ofNat (FP.Core.encode FP.Core.b32 (FP.Core.quotient FP.Core.b32 _ _)) = _
      rw [FF_d (by omega) (by omega) b3, FF_d (by omega) (by omega) b3']
      unfold FP.Core.quotient
      simp only []
      rw [if_neg (by omega)]
      rfl
    have l1 := log_lt (n := 8388608 + T) (k := 24) (by omega) (by omega)
    have l2 := log_ge (n := 8388608 + T) (k := 23) (by omega)
    have l3 := log_lt (n := 8388608 + T') (k := 24) (by omega) (by omega)
    have l4 := log_ge (n := 8388608 + T') (k := 23) (by omega)
    have l5 := ld_b (8388608 + T) (8388608 + T')
    obtain ⟨c, q, e1, e2, e3, e4, e5⟩ := rr_n (f := FP.Core.b32) (s := false) (n := 8388608 + T) (d := 8388608 + T') (e := (E : Int) - 150 - ((E' : Int) - 150)) (by decide) (by omega) (by omega) (by rw [b32_qn, b32_p]; omega) (by rw [b32_qx, b32_p]; omega)
    rw [b32_t] at e2
    rw [b32_p, p24] at e3
    rw [b32_p] at e4 e5
    rw [hq, e1, FF_e e2 e3 (by omega)]
    exact ⟨_, _, rfl, by omega, by omega, by omega⟩
section DNFN
variable {v : UInt64} {p : UInt32} {M : Mem}
theorem DN.ok (h : DN v) : v &&& 0x7fffffffffffffff ≤ 0x7ff0000000000000 := by
  rcases h with h | ⟨E, T, h, h1, h2, h3⟩
  · rw [h]; decide
  · rw [h]; exact DF_ok (by omega) h3
theorem DN.same (h : DN v) : FP.dcmp v v = some .eq := by
  rcases h with h | ⟨E, T, h, h1, h2, h3⟩
  · rw [h]; decide
  · rw [h]; exact DF_same h1 (by omega) h3
theorem FN.ok (h : FN p) : p &&& 0x7fffffff ≤ 0x7f800000 := by
  rcases h with h | ⟨E, T, h, h1, h2, h3⟩
  · rw [h]; decide
  · rw [h]; exact FF_ok (by omega) h3
theorem FN.same (h : FN p) : FP.fcmp p p = some .eq := by
  rcases h with h | ⟨E, T, h, h1, h2, h3⟩
  · rw [h]; decide
  · rw [h]; exact FF_same h1 (by omega) h3
theorem f2d_F {E T : Nat} (h1 : 1 ≤ E) (h2 : E ≤ 253) (hT : T < 8388608) : FP.f2d (FF E T) = DF (E + 896) (T * 536870912) := by
  unfold FP.f2d
  have hn : FP.Core.fIsNaN (FF E T) = false := by
    show decide (FP.Core.decode FP.Core.b32 (FF E T).toNat = .nan) = false
    rw [FF_d h1 (by omega) hT]
    exact decide_eq_false (fun z => FP.Core.Datum.noConfusion z)
  rw [hn, if_neg (by decide)]
  show UInt64.ofNat (FP.Core.encode FP.Core.b64 (FP.Core.round FP.Core.b64 (FP.Core.decode FP.Core.b32 (FF E T).toNat))) = _
  rw [FF_d h1 (by omega) hT]
  unfold FP.Core.round
  simp only []
  rw [rr_ex (c := (8388608 + T) * 536870912) (u := 0) (v := 29) (q := (E : Int) - 179) (by decide) (by omega) (by omega) (by rw [b64_t]; omega) (by rw [b64_p, p53]; omega) (by rw [b64_qn]; omega) (by rw [b64_qx]; omega) (by omega) (by omega), DF_e (by omega) (by omega) (by omega)]
  exact DF_cg (by omega) (by omega)
theorem FN.d (h : FN p) : DN (FP.f2d p) := by
  rcases h with h | ⟨E, T, h, h1, h2, h3⟩
  · exact Or.inl (by rw [h]; decide +kernel)
  · rw [h, f2d_F h1 h2 h3]
    exact Or.inr ⟨_, _, rfl, by omega, by omega, by omega⟩
theorem l_sr {N k : Nat} {s : Int64} (hs : s.toBitVec.smod 64 = BitVec.ofNat 64 k) (hk : k < 64) (hN : N < 9223372036854775808) : Int64.ofNat N >>> s = Int64.ofNat (N / 2 ^ k) := by
  refine Int64.toBitVec_inj.mp (BitVec.eq_of_toNat_eq ?_)
  have a : (Int64.ofNat N).toBitVec.toNat = N := by
    show (BitVec.ofNat 64 N).toNat = N
    rw [BitVec.toNat_ofNat]
    exact Nat.mod_eq_of_lt (by omega)
  have b : (Int64.ofNat (N / 2 ^ k)).toBitVec.toNat = N / 2 ^ k := by
    show (BitVec.ofNat 64 (N / 2 ^ k)).toNat = N / 2 ^ k
    rw [BitVec.toNat_ofNat]
    have := Nat.div_le_self N (2 ^ k)
    exact Nat.mod_eq_of_lt (by omega)
  have m : (Int64.ofNat N).toBitVec.msb = false := BitVec.msb_eq_false_iff_two_mul_lt.mpr (by rw [a]; omega)
  have e : (BitVec.ofNat 64 k).toNat = k := by
    rw [BitVec.toNat_ofNat]
    exact Nat.mod_eq_of_lt (by omega)
  rw [Int64.toBitVec_shiftRight, hs, BitVec.sshiftRight_eq', BitVec.sshiftRight_eq_of_msb_false m, BitVec.toNat_ushiftRight, a, b, e, Nat.shiftRight_eq_div_pow]
theorem l_sl {N k : Nat} {s : Int64} (hs : s.toBitVec.smod 64 = BitVec.ofNat 64 k) (hk : k < 64) : Int64.ofNat N <<< s = Int64.ofNat (N * 2 ^ k) := by
  refine Int64.toBitVec_inj.mp (BitVec.eq_of_toNat_eq ?_)
  have a : (Int64.ofNat N).toBitVec.toNat = N % 2 ^ 64 := by
    show (BitVec.ofNat 64 N).toNat = _
    rw [BitVec.toNat_ofNat]
  have b : (Int64.ofNat (N * 2 ^ k)).toBitVec.toNat = (N * 2 ^ k) % 2 ^ 64 := by
    show (BitVec.ofNat 64 (N * 2 ^ k)).toNat = _
    rw [BitVec.toNat_ofNat]
  have e : (BitVec.ofNat 64 k).toNat = k := by
    rw [BitVec.toNat_ofNat]
    exact Nat.mod_eq_of_lt (by omega)
  rw [Int64.toBitVec_shiftLeft, hs, BitVec.shiftLeft_eq', BitVec.toNat_shiftLeft, a, b, e, Nat.shiftLeft_eq, Nat.mod_mul_mod]
theorem l_an {N : Nat} (hN : N < 9223372036854775808) : Int64.ofNat N &&& (4503599627370495 : Int64) = Int64.ofNat (N % 4503599627370496) := by
  refine Int64.toBitVec_inj.mp (BitVec.eq_of_toNat_eq ?_)
  have a : (Int64.ofNat N).toBitVec.toNat = N := by
    show (BitVec.ofNat 64 N).toNat = N
    rw [BitVec.toNat_ofNat]
    exact Nat.mod_eq_of_lt (by omega)
  have b : (Int64.ofNat (N % 4503599627370496)).toBitVec.toNat = N % 4503599627370496 := by
    show (BitVec.ofNat 64 (N % 4503599627370496)).toNat = _
    rw [BitVec.toNat_ofNat]
    exact Nat.mod_eq_of_lt (by omega)
  rw [Int64.toBitVec_and, BitVec.toNat_and, a, b, show (4503599627370495 : Int64).toBitVec.toNat = 2 ^ 52 - 1 by decide, Nat.and_two_pow_sub_one_eq_mod]
end DNFN
