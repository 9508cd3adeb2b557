/-! the reference hears a packet -/
section MODEL5
variable {M : Mem} {mo v n q : Nat} {r w T : Nat → Int32} {p x c : Int32}
theorem zN_of {t : Int32} {k : Nat} (h0 : 0 ≤ t) (h1 : t ≤ nI k) (hk : k < 2 ^ 31) : ∃ n, n ≤ k ∧ t = nI n := by
  rw [Int32.le_iff_toInt_le] at h0 h1
  rw [nI_toInt hk] at h1
  have h2 : (0 : Int32).toInt = 0 := by decide
  refine ⟨t.toInt.toNat, by omega, Int32.toInt_inj.mp ?_⟩
  rw [nI_toInt (by omega)]
  omega
theorem zC_at {t : Int32} : ∃ n, n < 25 ∧ zC t = nI n := by
  unfold zC
  by_cases h : 0 ≤ t
  · rw [if_pos h]
    by_cases h2 : t ≤ 24
    · rw [if_pos h2]
      obtain ⟨n, h3, h4⟩ := zN_of (k := 24) h h2 (by decide)
      exact ⟨n, by omega, h4⟩
    · rw [if_neg h2]
      exact ⟨24, by decide, rfl⟩
  · rw [if_neg h]
    exact ⟨0, by decide, rfl⟩
theorem zH_27 {m : Int32} : ∃ n, n < 25 ∧ zH T w c m 27 = nI n := by
  have h : zH T w c m 27 = zI (w 27) c := rfl
  rw [h]
  exact zC_at
theorem zH_at {m : Int32} {k : Nat} (hk : 36 ≤ k) : zH T w c m k = w k := by
  unfold zH zF
  rw [upd_ne (by omega), upd_ne (by omega), upd_ne (by omega), upd_ne (by omega), upd_ne (by omega), upd_ne (by omega)]
def zHs (T : Nat → Int32) : Nat → Nat → (Nat → Int32) → (Nat → Int32)
  | 0, _, w => w
  | d + 1, j, w => zHs T d (j + 1) (zH T w (w (44 + j)) (w (52 + j)))
theorem hear_go {num mis : Int32} {m : Nat} (hv : v < 3) (hm : m ≤ 8) : ∀ (d j n : Nat) (w : Nat → Int32), j + d = m → d < n → w 40 = nI m → (∃ i, i < 25 ∧ w 27 = nI i) → f_X9_deliverNow_b141 mo (nI v) n (nI (5 + 207 * v + 39)) num mis (nI j) (sA M (mo + 1) (pv v r w)) = f_X9_deliverNow_b141 mo (nI v) 1 (nI (5 + 207 * v + 39)) num mis (nI m) (sA M (mo + 1) (pv v r (zHs (mI M (mo + 5)) d j w))) := by
  intro d
  induction d with
  | zero =>
    intro j n w hj hn hw hi
    obtain ⟨n, rfl⟩ : ∃ k, n = k + 1 := ⟨n - 1, by omega⟩
    have hj : j = m := by omega
    subst hj
    unfold f_X9_deliverNow_b141 zHs
    rw [gd_s (row_ix (at_add (c := 1)) hv (by decide)), gd_s (row_ix (at_add (c := 1)) hv (by decide)), row_get (at_add (c := 1)) hv (by decide), hw, if_pos (nI_le (Nat.le_refl _) (by omega)), if_pos (nI_le (Nat.le_refl _) (by omega))]
  | succ d ih =>
    intro j n w hj hn hw hi
    obtain ⟨n, rfl⟩ : ∃ k, n = k + 1 := ⟨n - 1, by omega⟩
    obtain ⟨i, hi1, hi2⟩ := hi
    have e5 : nI (5 + 207 * v + 39) + 5 + nI j = nI (5 + 207 * v + (44 + j)) := by rw [at_add (c := 5), zA, Nat.add_assoc]
    have e13 : nI (5 + 207 * v + 39) + 13 + nI j = nI (5 + 207 * v + (52 + j)) := by rw [at_add (c := 13), zA, Nat.add_assoc]
    have st : f_X9_deliverNow_b141 mo (nI v) (n + 1) (nI (5 + 207 * v + 39)) num mis (nI j) (sA M (mo + 1) (pv v r w)) = f_X9_deliverNow_b141 mo (nI v) n (nI (5 + 207 * v + 39)) num mis (nI (j + 1)) (sA M (mo + 1) (pv v r (zH (mI M (mo + 5)) w (w (44 + j)) (w (52 + j))))) := by
      rw [f_X9_deliverNow_b141, gd_s (row_ix (at_add (c := 1)) hv (by decide)), row_get (at_add (c := 1)) hv (by decide), hw, if_neg (nI_ge (by omega) (by omega)), gd_s (row_ix e5 hv (by omega)), gd_s (row_ix e13 hv (by omega)), row_get e5 hv (by omega), row_get e13 hv (by omega), hear_v hv hi2 hi1, vb_s, nb_s, ← nI_succ]
    rw [st, ih (j + 1) n _ (by omega) (by omega) (by rw [zH_at (by decide)]; exact hw) zH_27]
    rfl
end MODEL5
