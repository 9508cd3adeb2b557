/-! DOUBLES AND FLOATS by their fields -/
theorem b64_t : FP.Core.b64.tails = 4503599627370496 := by decide
theorem b64_e : FP.Core.b64.exps = 2048 := by decide
theorem b64_qn : FP.Core.b64.qmin = -1074 := by decide
theorem b64_qx : FP.Core.b64.qmax = 971 := by decide
theorem b64_p : FP.Core.b64.p = 53 := rfl
theorem b32_t : FP.Core.b32.tails = 8388608 := by decide
theorem b32_e : FP.Core.b32.exps = 256 := by decide
theorem b32_qn : FP.Core.b32.qmin = -149 := by decide
theorem b32_qx : FP.Core.b32.qmax = 104 := by decide
theorem b32_p : FP.Core.b32.p = 24 := rfl
theorem p53 : (2 : Nat) ^ 53 = 9007199254740992 := by decide
theorem p24 : (2 : Nat) ^ 24 = 16777216 := by decide
section DBL
variable {E T : Nat}
theorem dec_64 (h1 : 1 ≤ E) (h2 : E ≤ 2046) (hT : T < 4503599627370496) : FP.Core.decode FP.Core.b64 (E * 4503599627370496 + T) = .fin false (4503599627370496 + T) ((E : Int) - 1075) := by
  have a1 : (E * 4503599627370496 + T) / 4503599627370496 % 2048 = E := by omega
  have a2 : (E * 4503599627370496 + T) % 4503599627370496 = T := by omega
  have a3 : (E * 4503599627370496 + T) / 4503599627370496 / 2048 % 2 = 0 := by omega
  unfold FP.Core.decode FP.Core.fieldE FP.Core.fieldT FP.Core.fieldS
  rw [b64_t, b64_e, b64_qn, a1, a2, a3, if_neg (by omega), if_neg (by omega), show (-1074 : Int) + ((E : Int) - 1) = (E : Int) - 1075 by omega]
  rfl
theorem dec_32 (h1 : 1 ≤ E) (h2 : E ≤ 254) (hT : T < 8388608) : FP.Core.decode FP.Core.b32 (E * 8388608 + T) = .fin false (8388608 + T) ((E : Int) - 150) := by
  have a1 : (E * 8388608 + T) / 8388608 % 256 = E := by omega
  have a2 : (E * 8388608 + T) % 8388608 = T := by omega
  have a3 : (E * 8388608 + T) / 8388608 / 256 % 2 = 0 := by omega
  unfold FP.Core.decode FP.Core.fieldE FP.Core.fieldT FP.Core.fieldS
  rw [b32_t, b32_e, b32_qn, a1, a2, a3, if_neg (by omega), if_neg (by omega), show (-149 : Int) + ((E : Int) - 1) = (E : Int) - 150 by omega]
  rfl
theorem enc_64 {c : Nat} {q : Int} (h1 : 4503599627370496 ≤ c) (h2 : c < 9007199254740992) (h3 : -1074 ≤ q) : FP.Core.encode FP.Core.b64 (.fin false c q) = (q + 1075).toNat * 4503599627370496 + (c - 4503599627370496) := by
  unfold FP.Core.encode FP.Core.assemble
  simp only []
  rw [b64_t, b64_e, b64_qn, if_neg (by omega), show (q - -1074).toNat + 1 = (q + 1075).toNat by omega, show false.toNat = 0 from rfl, Nat.zero_mul, Nat.zero_add]
theorem enc_32 {c : Nat} {q : Int} (h1 : 8388608 ≤ c) (h2 : c < 16777216) (h3 : -149 ≤ q) : FP.Core.encode FP.Core.b32 (.fin false c q) = (q + 150).toNat * 8388608 + (c - 8388608) := by
  unfold FP.Core.encode FP.Core.assemble
  simp only []
  rw [b32_t, b32_e, b32_qn, if_neg (by omega), show (q - -149).toNat + 1 = (q + 150).toNat by omega, show false.toNat = 0 from rfl, Nat.zero_mul, Nat.zero_add]
def DF (E T : Nat) : UInt64 := UInt64.ofNat (E * 4503599627370496 + T)
def FF (E T : Nat) : UInt32 := UInt32.ofNat (E * 8388608 + T)
theorem DF_cg {E' T' : Nat} (h : E = E') (h' : T = T') : DF E T = DF E' T' := by rw [h, h']
theorem FF_cg {E' T' : Nat} (h : E = E') (h' : T = T') : FF E T = FF E' T' := by rw [h, h']
theorem DF_n (h2 : E ≤ 2046) (hT : T < 4503599627370496) : (DF E T).toNat = E * 4503599627370496 + T := by
  unfold DF
  rw [UInt64.toNat_ofNat']
  exact Nat.mod_eq_of_lt (by omega)
theorem FF_n (h2 : E ≤ 254) (hT : T < 8388608) : (FF E T).toNat = E * 8388608 + T := by
  unfold FF
  rw [UInt32.toNat_ofNat']
  exact Nat.mod_eq_of_lt (by omega)
theorem DF_d (h1 : 1 ≤ E) (h2 : E ≤ 2046) (hT : T < 4503599627370496) : FP.Core.decode FP.Core.b64 (DF E T).toNat = .fin false (4503599627370496 + T) ((E : Int) - 1075) := by
  rw [DF_n h2 hT, dec_64 h1 h2 hT]
theorem FF_d (h1 : 1 ≤ E) (h2 : E ≤ 254) (hT : T < 8388608) : FP.Core.decode FP.Core.b32 (FF E T).toNat = .fin false (8388608 + T) ((E : Int) - 150) := by
  rw [FF_n h2 hT, dec_32 h1 h2 hT]
theorem DF_e {c : Nat} {q : Int} (h1 : 4503599627370496 ≤ c) (h2 : c < 9007199254740992) (h3 : -1074 ≤ q) : UInt64.ofNat (FP.Core.encode FP.Core.b64 (.fin false c q)) = DF (q + 1075).toNat (c - 4503599627370496) := by
  rw [enc_64 h1 h2 h3]
  rfl
theorem FF_e {c : Nat} {q : Int} (h1 : 8388608 ≤ c) (h2 : c < 16777216) (h3 : -149 ≤ q) : UInt32.ofNat (FP.Core.encode FP.Core.b32 (.fin false c q)) = FF (q + 150).toNat (c - 8388608) := by
  rw [enc_32 h1 h2 h3]
  rfl
theorem d_2 : (4611686018427387904 : UInt64) = DF 1024 0 := by decide
theorem d_1 : FP.dconst1 = DF 1023 0 := by decide
theorem d_52 : (4841369599423283200 : UInt64) = DF 1075 0 := by decide
theorem d_0 : FP.Core.decode FP.Core.b64 FP.dconst0.toNat = .fin false 0 (-1074) := by decide
theorem f_0 : FP.Core.decode FP.Core.b32 FP.fconst0.toNat = .fin false 0 (-149) := by decide
theorem DF_ok (h2 : E ≤ 2046) (hT : T < 4503599627370496) : DF E T &&& 0x7fffffffffffffff ≤ 0x7ff0000000000000 := by
  rw [UInt64.le_iff_toNat_le, UInt64.toNat_and, DF_n h2 hT, show (0x7fffffffffffffff : UInt64).toNat = 2 ^ 63 - 1 by decide, Nat.and_two_pow_sub_one_eq_mod, show (0x7ff0000000000000 : UInt64).toNat = 9218868437227405312 by decide]
  omega
theorem FF_ok (h2 : E ≤ 254) (hT : T < 8388608) : FF E T &&& 0x7fffffff ≤ 0x7f800000 := by
  rw [UInt32.le_iff_toNat_le, UInt32.toNat_and, FF_n h2 hT, show (0x7fffffff : UInt32).toNat = 2 ^ 31 - 1 by decide, Nat.and_two_pow_sub_one_eq_mod, show (0x7f800000 : UInt32).toNat = 2139095040 by decide]
  omega
/-- comparing -/
theorem od_lt {c d : Nat} {q r : Int} {u v : Nat} (h : c * 2 ^ v < d * 2 ^ u) (e : (u : Int) - v = r - q) : FP.Core.order (.fin false c q) (.fin false d r) = some .lt := by
  unfold FP.Core.order FP.Core.signed FP.Core.inUnits
  have k := fr_lt h (u' := (r - min q r).toNat) (v' := (q - min q r).toNat) (by omega)
  simp only [Bool.false_eq_true, if_false]
  rw [Int.compare_eq_lt.mpr (Int.ofNat_lt.mpr k)]
theorem od_gt {c d : Nat} {q r : Int} {u v : Nat} (h : d * 2 ^ u < c * 2 ^ v) (e : (u : Int) - v = r - q) : FP.Core.order (.fin false c q) (.fin false d r) = some .gt := by
  unfold FP.Core.order FP.Core.signed FP.Core.inUnits
  have k := fr_lt h (u' := (q - min q r).toNat) (v' := (r - min q r).toNat) (by omega)
  simp only [Bool.false_eq_true, if_false]
  rw [Int.compare_eq_gt.mpr (Int.ofNat_lt.mpr k)]
theorem od_eq {c : Nat} {q : Int} : FP.Core.order (.fin false c q) (.fin false c q) = some .eq := by
  unfold FP.Core.order
  simp only []
  rw [Int.compare_eq_eq.mpr rfl]
theorem cv_eq (o : CmpOp) : Op.cmpValue (some .eq) o = 0 := by cases o <;> decide
theorem cv_lt (o : CmpOp) : Op.cmpValue (some .lt) o = -1 := by cases o <;> decide
theorem cv_gt (o : CmpOp) : Op.cmpValue (some .gt) o = 1 := by cases o <;> decide
theorem DF_same (h1 : 1 ≤ E) (h2 : E ≤ 2046) (hT : T < 4503599627370496) : FP.dcmp (DF E T) (DF E T) = some .eq := by
  show FP.Core.order _ _ = _
  rw [DF_d h1 h2 hT, od_eq]
theorem FF_same (h1 : 1 ≤ E) (h2 : E ≤ 254) (hT : T < 8388608) : FP.fcmp (FF E T) (FF E T) = some .eq := by
  show FP.Core.order _ _ = _
  rw [FF_d h1 h2 hT, od_eq]
theorem DF_pos (h1 : 1 ≤ E) (h2 : E ≤ 2046) (hT : T < 4503599627370496) : FP.dcmp (DF E T) FP.dconst0 = some .gt := by
  show FP.Core.order _ _ = _
  rw [DF_d h1 h2 hT, d_0]
  exact od_gt (u := 0) (v := E - 1) (by rw [Nat.zero_mul]; exact Nat.mul_pos (by omega) (Nat.two_pow_pos _)) (by omega)
theorem FF_pos (h1 : 1 ≤ E) (h2 : E ≤ 254) (hT : T < 8388608) : FP.fcmp (FF E T) FP.fconst0 = some .gt := by
  show FP.Core.order _ _ = _
  rw [FF_d h1 h2 hT, f_0]
  exact od_gt (u := 0) (v := E - 1) (by rw [Nat.zero_mul]; exact Nat.mul_pos (by omega) (Nat.two_pow_pos _)) (by omega)
theorem DF_lt2 (h1 : 1 ≤ E) (h2 : E ≤ 1023) (hT : T < 4503599627370496) : FP.dcmp (DF E T) (4611686018427387904 : UInt64) = some .lt := by
  show FP.Core.order _ _ = _
  rw [d_2, DF_d h1 (by omega) hT, DF_d (by omega) (by omega) (by omega)]
  refine od_lt (u := 1024 - E) (v := 0) ?_ (by omega)
  have : 2 ^ 1 ≤ 2 ^ (1024 - E) := Nat.pow_le_pow_right (by omega) (by omega)
  omega
theorem DF_ge2 (h1 : 1024 ≤ E) (h2 : E ≤ 2046) (hT : T < 4503599627370496) : ¬ Op.cmpValue (FP.dcmp (DF E T) (4611686018427387904 : UInt64)) .l < 0 := by
  have key : FP.dcmp (DF E T) (4611686018427387904 : UInt64) = some .gt ∨ FP.dcmp (DF E T) (4611686018427387904 : UInt64) = some .eq := by
    show FP.Core.order _ _ = _ ∨ FP.Core.order _ _ = _
    rw [d_2, DF_d (by omega) (by omega) hT, DF_d (by omega) (by omega) (by omega)]
    by_cases h : E = 1024 ∧ T = 0
    · rw [h.1, h.2]
      exact Or.inr od_eq
    · refine Or.inl (od_gt (u := 0) (v := E - 1024) ?_ (by omega))
      by_cases hE : E = 1024
      · rw [hE]
        omega
      · have : 2 ^ 1 ≤ 2 ^ (E - 1024) := Nat.pow_le_pow_right (by omega) (by omega)
        have := Nat.mul_le_mul (show 4503599627370496 ≤ 4503599627370496 + T by omega) this
        omega
  rcases key with k | k <;> rw [k]
  · rw [cv_gt]; decide
  · rw [cv_eq]; decide
theorem DF_lt1 (h1 : 1 ≤ E) (h2 : E ≤ 1022) (hT : T < 4503599627370496) : FP.dcmp (DF E T) FP.dconst1 = some .lt := by
  show FP.Core.order _ _ = _
  rw [d_1, DF_d h1 (by omega) hT, DF_d (by omega) (by omega) (by omega)]
  refine od_lt (u := 1023 - E) (v := 0) ?_ (by omega)
  have : 2 ^ 1 ≤ 2 ^ (1023 - E) := Nat.pow_le_pow_right (by omega) (by omega)
  omega
theorem DF_ge1 (hT : T < 4503599627370496) : 0 ≤ Op.cmpValue (FP.dcmp (DF 1023 T) FP.dconst1) .g := by
  have key : FP.dcmp (DF 1023 T) FP.dconst1 = some .gt ∨ FP.dcmp (DF 1023 T) FP.dconst1 = some .eq := by
    show FP.Core.order _ _ = _ ∨ FP.Core.order _ _ = _
    rw [d_1, DF_d (by omega) (by omega) hT, DF_d (by omega) (by omega) (by omega)]
    by_cases h : T = 0
    · rw [h]
      exact Or.inr od_eq
    · exact Or.inl (od_gt (u := 0) (v := 0) (by omega) (by omega))
  rcases key with k | k <;> rw [k]
  · rw [cv_gt]; decide
  · rw [cv_eq]; decide
theorem DF_div (h1 : 2 ≤ E) (h2 : E ≤ 2046) (hT : T < 4503599627370496) : FP.ddiv (DF E T) (4611686018427387904 : UInt64) = DF (E - 1) T := by
  show UInt64.ofNat (FP.Core.encode FP.Core.b64 (FP.Core.quotient FP.Core.b64 _ _)) = _
  rw [d_2, DF_d (by omega) h2 hT, DF_d (by omega) (by omega) (by omega)]
  unfold FP.Core.quotient
  simp only []
  rw [if_neg (by omega), rr_ex (c := 4503599627370496 + T) (u := 0) (v := 52) (q := (E : Int) - 1076) (by decide) (by omega) (by omega) (by rw [b64_t]; omega) (by rw [b64_p, p53]; omega) (by rw [b64_qn]; omega) (by rw [b64_qx]; omega) (by omega) (by omega)]
  rw [show (false != false) = false from rfl, DF_e (by omega) (by omega) (by omega)]
  exact DF_cg (by omega) (by omega)
theorem DF_mul {k : Nat} (h1 : 1 ≤ E) (h2 : E + k ≤ 2046 + 1023) (h3 : 1024 ≤ E + k) (hk : 1 ≤ k) (hk2 : k ≤ 2046) (hE : E ≤ 2046) (hT : T < 4503599627370496) : FP.dmul (DF E T) (DF k 0) = DF (E + k - 1023) T := by
  show UInt64.ofNat (FP.Core.encode FP.Core.b64 (FP.Core.round FP.Core.b64 (FP.Core.exactProduct _ _))) = _
  rw [DF_d (by omega) hE hT, DF_d (by omega) (by omega) (by omega)]
  unfold FP.Core.exactProduct FP.Core.round
  simp only []
  rw [rr_ex (c := 4503599627370496 + T) (u := 52) (v := 0) (q := (E : Int) + k - 2098) (by decide) (by omega) (by omega) (by rw [b64_t]; omega) (by rw [b64_p, p53]; omega) (by rw [b64_qn]; omega) (by rw [b64_qx]; omega) (by omega) (by omega)]
  rw [show (false != false) = false from rfl, DF_e (by omega) (by omega) (by omega)]
  exact DF_cg (by omega) (by omega)
end DBL
