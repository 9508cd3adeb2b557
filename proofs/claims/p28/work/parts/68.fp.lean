/-! NUMBERS WITH A POINT. A ratio of whole numbers, rounded -/
theorem fr_le {n d u v u' v' : Nat} (h : d * 2 ^ u ≤ n * 2 ^ v) (e : u + v' = u' + v) : d * 2 ^ u' ≤ n * 2 ^ v' := by
  have h1 := Nat.mul_le_mul_right (2 ^ v') h
  rw [Nat.mul_assoc, ← Nat.pow_add, e, Nat.pow_add, ← Nat.mul_assoc, Nat.mul_assoc n, Nat.mul_comm (2 ^ v), ← Nat.mul_assoc] at h1
  exact Nat.le_of_mul_le_mul_right h1 (Nat.two_pow_pos v)
theorem fr_lt {n d u v u' v' : Nat} (h : n * 2 ^ v < d * 2 ^ u) (e : u + v' = u' + v) : n * 2 ^ v' < d * 2 ^ u' := by
  refine Nat.lt_of_not_le (fun z => ?_)
  have := fr_le z (u' := u) (v' := v) (by omega)
  omega
def frLo (n d : Nat) (L : Int) : Prop := ∀ u v : Nat, (u : Int) - v = L → d * 2 ^ u ≤ n * 2 ^ v
def frHi (n d : Nat) (L : Int) : Prop := ∀ u v : Nat, (u : Int) - v = L + 1 → n * 2 ^ v < d * 2 ^ u
theorem frLo_of {n d u v : Nat} {L : Int} (h : d * 2 ^ u ≤ n * 2 ^ v) (e : (u : Int) - v = L) : frLo n d L := fun u' v' e' => fr_le h (by omega)
theorem frHi_of {n d u v : Nat} {L : Int} (h : n * 2 ^ v < d * 2 ^ u) (e : (u : Int) - v = L + 1) : frHi n d L := fun u' v' e' => fr_lt h (by omega)
theorem ld_at {n d : Nat} (hn : n ≠ 0) (hd : d ≠ 0) : frLo n d (FP.Core.leading n d) ∧ frHi n d (FP.Core.leading n d) := by
  have a1 := Nat.log2_self_le hn
  have a2 := @Nat.lt_log2_self n
  have b1 := Nat.log2_self_le hd
  have b2 := @Nat.lt_log2_self d
  unfold FP.Core.leading
  generalize n.log2 = a at *
  generalize d.log2 = b at *
  have up : n * 2 ^ b < d * 2 ^ (a + 1) := by
    refine Nat.lt_of_lt_of_le (Nat.mul_lt_mul_of_pos_right a2 (Nat.two_pow_pos b)) ?_
    rw [Nat.mul_comm]
    exact Nat.mul_le_mul_right _ b1
  have lo : d * 2 ^ a ≤ n * 2 ^ (b + 1) := by
    refine Nat.le_trans (Nat.mul_le_mul_right _ (Nat.le_of_lt b2)) ?_
    rw [Nat.mul_comm]
    exact Nat.mul_le_mul_right _ a1
  simp only []
  by_cases h : d * 2 ^ ((a : Int) - (b : Int)).toNat ≤ n * 2 ^ (-((a : Int) - (b : Int))).toNat
  · rw [if_pos h]
    exact ⟨frLo_of h (by omega), frHi_of up (by omega)⟩
  · rw [if_neg h]
    exact ⟨frLo_of lo (by omega), frHi_of (Nat.lt_of_not_le h) (by omega)⟩
theorem ld_eq {n d : Nat} {L : Int} (hn : n ≠ 0) (hd : d ≠ 0) (h1 : frLo n d L) (h2 : frHi n d L) : FP.Core.leading n d = L := by
  obtain ⟨k1, k2⟩ := ld_at hn hd
  generalize FP.Core.leading n d = K at *
  have key : ∀ A B : Int, frHi n d A → frLo n d B → B ≤ A := fun A B ha hb => by
    refine Int.not_lt.mp (fun z => ?_)
    have := ha ((A + 1).toNat) ((-(A + 1)).toNat) (by omega)
    have q := hb (B.toNat) ((-B).toNat) (by omega)
    have q2 : d * 2 ^ ((A + 1).toNat) ≤ n * 2 ^ ((-(A + 1)).toNat) := by
      refine fr_le (u := B.toNat) (v := (-B).toNat + (B - (A + 1)).toNat) ?_ (by omega)
      exact Nat.le_trans q (Nat.mul_le_mul_left _ (Nat.pow_le_pow_right (by omega) (by omega)))
    omega
  have := key _ _ k2 h1
  have := key _ _ h2 k1
  omega
theorem ne_lo {n d A : Nat} (hd : 0 < d) (h : d * A ≤ n) : A ≤ FP.Core.nearest n d := by
  have q : A ≤ n / d := (Nat.le_div_iff_mul_le hd).mpr (by rw [Nat.mul_comm]; exact h)
  unfold FP.Core.nearest
  split
  · exact q
  · split <;> omega
theorem ne_hi {n d B : Nat} (hd : 0 < d) (h : n < d * B) : FP.Core.nearest n d ≤ B := by
  have q : n / d < B := Nat.div_lt_of_lt_mul h
  unfold FP.Core.nearest
  split
  · omega
  · split <;> omega
theorem ne_ex {n d c : Nat} (hd : 0 < d) (h : n = d * c) : FP.Core.nearest n d = c := by
  unfold FP.Core.nearest
  rw [h, Nat.mul_mod_right, if_pos (by omega), Nat.mul_div_cancel_left c hd]
section RR
variable {f : FP.Core.Fmt} {s : Bool} {n d : Nat} {e : Int}
theorem rr_q (hp : 1 ≤ f.p) (h1 : f.qmin ≤ FP.Core.leading n d + e - ((f.p : Int) - 1)) : FP.Core.quantum f n d e = FP.Core.leading n d + e - ((f.p : Int) - 1) := by
  unfold FP.Core.quantum
  exact Int.max_eq_right h1
theorem rr_n (hp : 1 ≤ f.p) (hn : n ≠ 0) (hd : d ≠ 0) (h1 : f.qmin ≤ FP.Core.leading n d + e - ((f.p : Int) - 1)) (h2 : FP.Core.leading n d + e - ((f.p : Int) - 1) + 1 ≤ f.qmax) : ∃ c q, FP.Core.roundRatio f s n d e = .fin s c q ∧ f.tails ≤ c ∧ c < 2 ^ f.p ∧ FP.Core.leading n d + e - ((f.p : Int) - 1) ≤ q ∧ q ≤ FP.Core.leading n d + e - ((f.p : Int) - 1) + 1 := by
  obtain ⟨k1, k2⟩ := ld_at hn hd
  unfold FP.Core.roundRatio FP.Core.roundAt
  rw [if_neg hn, rr_q hp h1]
  generalize FP.Core.leading n d = L at *
  generalize hq : L + e - ((f.p : Int) - 1) = q at *
  have t2 : 2 ^ f.p = 2 * f.tails := by
    unfold FP.Core.Fmt.tails
    rw [Nat.mul_comm, ← Nat.pow_succ]
    congr 1
    omega
  have tp : 0 < f.tails := Nat.two_pow_pos _
  have dp : 0 < FP.Core.unitsDen d e q := Nat.mul_pos (Nat.pos_of_ne_zero hd) (Nat.two_pow_pos _)
  have lo : f.tails ≤ FP.Core.nearest (FP.Core.unitsNum n e q) (FP.Core.unitsDen d e q) := by
    refine ne_lo dp ?_
    unfold FP.Core.unitsDen FP.Core.unitsNum FP.Core.Fmt.tails
    rw [Nat.mul_assoc, ← Nat.pow_add]
    exact k1 _ _ (by omega)
  have hi : FP.Core.nearest (FP.Core.unitsNum n e q) (FP.Core.unitsDen d e q) ≤ 2 ^ f.p := by
    refine ne_hi dp ?_
    unfold FP.Core.unitsDen FP.Core.unitsNum
    rw [Nat.mul_assoc, ← Nat.pow_add]
    exact k2 _ _ (by omega)
  generalize FP.Core.nearest (FP.Core.unitsNum n e q) (FP.Core.unitsDen d e q) = c at *
  unfold FP.Core.settle FP.Core.bound
  by_cases hc : c < 2 ^ f.p
  · rw [if_pos hc, if_pos (by omega)]
    exact ⟨c, q, rfl, lo, hc, by omega, by omega⟩
  · rw [if_neg hc, if_pos (by omega)]
    exact ⟨f.tails, q + 1, rfl, Nat.le_refl _, by omega, by omega, by omega⟩
theorem rr_ex {c u v : Nat} {q : Int} (hp : 1 ≤ f.p) (hn : n ≠ 0) (hd : d ≠ 0) (hc : f.tails ≤ c) (hc2 : c < 2 ^ f.p) (h1 : f.qmin ≤ q) (h2 : q ≤ f.qmax) (hv : n * 2 ^ v = d * c * 2 ^ u) (hu : (u : Int) - v = q - e) : FP.Core.roundRatio f s n d e = .fin s c q := by
  have hL : FP.Core.leading n d = q - e + ((f.p : Int) - 1) := by
    refine ld_eq hn hd (frLo_of (u := u + (f.p - 1)) (v := v) ?_ (by omega)) (frHi_of (u := u + f.p) (v := v) ?_ (by omega))
    · rw [hv, Nat.mul_assoc, Nat.pow_add, Nat.mul_comm (2 ^ u)]
      refine Nat.mul_le_mul_left _ (Nat.mul_le_mul_right _ hc)
    · rw [hv, Nat.mul_assoc, Nat.pow_add, Nat.mul_comm (2 ^ u)]
      exact Nat.mul_lt_mul_of_pos_left (Nat.mul_lt_mul_of_pos_right hc2 (Nat.two_pow_pos u)) (Nat.pos_of_ne_zero hd)
  unfold FP.Core.roundRatio FP.Core.roundAt
  rw [if_neg hn, rr_q hp (by omega), hL, show q - e + ((f.p : Int) - 1) + e - ((f.p : Int) - 1) = q by omega]
  have dp : 0 < FP.Core.unitsDen d e q := Nat.mul_pos (Nat.pos_of_ne_zero hd) (Nat.two_pow_pos _)
  have k : FP.Core.unitsNum n e q = FP.Core.unitsDen d e q * c := by
    unfold FP.Core.unitsDen FP.Core.unitsNum
    have a1 : d * c * 2 ^ u ≤ n * 2 ^ v := Nat.le_of_eq hv.symm
    have a2 : n * 2 ^ v ≤ d * c * 2 ^ u := Nat.le_of_eq hv
    have b1 := fr_le a1 (u' := (q - e).toNat) (v' := (e - q).toNat) (by omega)
    have b2 := fr_le a2 (u' := (e - q).toNat) (v' := (q - e).toNat) (by omega)
    rw [show d * 2 ^ (q - e).toNat * c = d * c * 2 ^ (q - e).toNat by rw [Nat.mul_right_comm]]
    omega
  rw [ne_ex dp k]
  unfold FP.Core.settle FP.Core.bound
  rw [if_pos hc2, if_pos h2]
end RR
