/-! THE LAW'S OWN VOICES. Numbers: remainders, steps, codes, guesses -/
theorem nI_div {a b : Nat} (ha : a < 2 ^ 31) (hb : b < 2 ^ 31) : nI a / nI b = nI (a / b) := by
  apply Int32.toInt_inj.mp
  have h1 : a / b ≤ a := Nat.div_le_self a b
  have h3 : (((a / b : Nat) : Int)).bmod (2 ^ 32) = ((a / b : Nat) : Int) := by
    generalize a / b = c at h1
    exact Int.bmod_eq_of_le_mul_two (by omega) (by omega)
  rw [Int32.toInt_div, nI_toInt ha, nI_toInt hb, nI_toInt (by omega)]
  exact h3
theorem nI_sub {a b : Nat} (h : b ≤ a) (ha : a < 2 ^ 31) : nI a - nI b = nI (a - b) := by
  apply Int32.toInt_inj.mp
  rw [Int32.toInt_sub, nI_toInt ha, nI_toInt (by omega), nI_toInt (by omega), Int.bmod_eq_of_le_mul_two (by omega) (by omega)]
  omega
theorem nI_rem {a b : Nat} (ha : a < 2 ^ 31) (hb : b < 2 ^ 31) : nI a - nI a / nI b * nI b = nI (a % b) := by
  have h1 : a / b * b ≤ a := Nat.div_mul_le_self a b
  rw [nI_div ha hb, zM, nI_sub h1 ha]
  congr 1
  have := Nat.div_add_mod a b
  rw [Nat.mul_comm] at this
  omega
theorem and_m (p : Int32) : ∃ m, m < 2 ^ 31 ∧ p &&& 2147483647 = nI m := by
  refine ⟨(p &&& 2147483647).toBitVec.toNat, ?_, ?_⟩
  · rw [Int32.toBitVec_and, BitVec.toNat_and]
    have h : p.toBitVec.toNat &&& (2147483647 : Int32).toBitVec.toNat ≤ (2147483647 : Int32).toBitVec.toNat := Nat.and_le_right
    have h2 : (2147483647 : Int32).toBitVec.toNat = 2147483647 := by decide
    omega
  · apply Int32.toBitVec_inj.mp
    unfold nI
    rw [Int32.toBitVec_ofNat', BitVec.ofNat_toNat]
    simp
theorem low_v {p : Int32} {n : Nat} {M : Mem} (hn : 0 < n) (hn2 : n < 2 ^ 31) : ∃ k, k < n ∧ f_L_low p (nI n) M = some (nI k) := by
  obtain ⟨m, hm, e⟩ := and_m p
  refine ⟨m % n, Nat.mod_lt _ hn, ?_⟩
  unfold f_L_low
  rw [gd_s (nI_ne0 hn hn2), e, nI_rem hm hn2]
theorem st_next : ∀ j, j < 24 → (5 : Int32) * cSTEPS j / 4 = cSTEPS (j + 1) := by decide
theorem step_v {n : Nat} {M : Mem} (hn : n < 25) : f_L_step (nI n) M = some (cSTEPS n) := by
  have go : ∀ d j m, j + d = n → d < m → f_L_step_b5 (nI n) m (cSTEPS j) (nI j) M = some (cSTEPS n) := by
    intro d
    induction d with
    | zero =>
      intro j m hj hm
      obtain ⟨m, rfl⟩ : ∃ k, m = k + 1 := ⟨m - 1, by omega⟩
      have hj : j = n := by omega
      subst hj
      rw [f_L_step_b5, if_pos (nI_le (Nat.le_refl _) (by omega))]
    | succ d ih =>
      intro j m hj hm
      obtain ⟨m, rfl⟩ : ∃ k, m = k + 1 := ⟨m - 1, by omega⟩
      rw [f_L_step_b5, if_neg (nI_ge (by omega) (by omega)), nb_s, nb_s, st_next j (by omega), ← nI_succ]
      exact ih (j + 1) m (by omega) (by omega)
  unfold f_L_step
  exact go n 0 lfuel (by omega) (by unfold lfuel; omega)
theorem size_v {p : Int32} {M : Mem} : f_L_size p M = some (zS p) := by
  unfold f_L_size zS
  split <;> rfl
theorem code_v {x g i : Int32} {n : Nat} {M : Mem} (hi : i = nI n) (hn : n < 25) (hx : B2 x) (hg : B2 g) : f_L_code x g i M = some (zK x g (cSTEPS n)) := by
  subst hi
  have tail : ∀ d : Int32, f_L_code_b20 x g (nI n) (cSTEPS n) d M = some (zD (cSTEPS n) d (if g ≤ x then 0 else 8)) := by
    intro d
    generalize cSTEPS n = s
    unfold f_L_code_b20 f_L_code_b33 f_L_code_b48 f_L_code_b66 f_L_code_b86 f_L_code_b104 zD
    simp only [nb_s, Int32.sub_zero]
    by_cases h1 : d < s
    · simp only [if_pos h1]
      by_cases h2 : d < s / 2
      · simp only [if_pos h2]
        by_cases h3 : d < s / 4
        · simp only [if_pos h3]
          split <;> rfl
        · simp only [if_neg h3]
          split <;> rfl
      · simp only [if_neg h2]
        by_cases h3 : d - s / 2 < s / 4
        · simp only [if_pos h3]
          split <;> rfl
        · simp only [if_neg h3]
          split <;> rfl
    · simp only [if_neg h1]
      by_cases h2 : d - s < s / 2
      · simp only [if_pos h2]
        by_cases h3 : d - s < s / 4
        · simp only [if_pos h3]
          split <;> rfl
        · simp only [if_neg h3]
          split <;> rfl
      · simp only [if_neg h2]
        by_cases h3 : d - s - s / 2 < s / 4
        · simp only [if_pos h3]
          split <;> rfl
        · simp only [if_neg h3]
          split <;> rfl
  unfold f_L_code zK zS
  rw [step_v hn, vb_s, tail, tail]
  by_cases h : g ≤ x
  · rw [if_pos ((B2_le hx hg).mpr h), if_pos ((B2_le hx hg).mpr h)]
  · rw [if_neg (fun q => h ((B2_le hx hg).mp q)), if_neg (fun q => h ((B2_le hx hg).mp q)), Int32.neg_sub]
/-- a code -/
def c16 (c : Int32) : Prop := ∃ k, k < 16 ∧ c = nI k
theorem bt2 : ∀ k, k < 16 → ((nI k >>> ((2 : Int32) &&& 31)) &&& 1) = (if nI k &&& 4 ≤ 0 then 0 else 1) := by decide
theorem bt1 : ∀ k, k < 16 → ((nI k >>> ((1 : Int32) &&& 31)) &&& 1) = (if nI k &&& 2 ≤ 0 then 0 else 1) := by decide
theorem bt0 : ∀ k, k < 16 → (nI k &&& 1) = (if nI k &&& 1 ≤ 0 then 0 else 1) := by decide
theorem bt3 : ∀ k, k < 16 → (nI k ≤ (7 : Int32) ↔ nI k &&& 8 ≤ 0) := by decide
theorem ite_m {c : Prop} [Decidable c] {s : Int32} : (if c then 0 else 1) * s = if c then 0 else s := by
  split
  · exact Int32.zero_mul
  · exact Int32.one_mul _
theorem cl2 {t : Int32} : (if (-2000 : Int32) ≤ t then (if t ≤ (2000 : Int32) then some t else some 2000) else some (-2000)) = some (if t ≤ 2000 then if -2000 ≤ t then t else -2000 else 2000) := by
  by_cases h1 : -2000 ≤ t
  · by_cases h2 : t ≤ 2000
    · simp only [if_pos h1, if_pos h2]
    · simp only [if_pos h1, if_neg h2]
  · have h2 : t ≤ 2000 := Int32.le_of_lt (Int32.lt_of_lt_of_le (Int32.not_le.mp h1) (by decide))
    simp only [if_neg h1, if_pos h2]
theorem guess_v {g i c : Int32} {n : Nat} {M : Mem} (hi : i = nI n) (hn : n < 25) (hc : c16 c) : f_L_guess g i c M = some (zG g (cSTEPS n) c) := by
  subst hi
  obtain ⟨k, hk, rfl⟩ := hc
  unfold f_L_guess f_L_guess_b54 zG
  rw [step_v hn, vb_s, nb_s, bt2 k hk, bt1 k hk]
  rw [show (nI k &&& 1) * (cSTEPS n / 4) = (if nI k &&& 1 ≤ 0 then 0 else 1) * (cSTEPS n / 4) by rw [← bt0 k hk], ite_m, ite_m, ite_m, cl2, cl2]
  by_cases h : nI k &&& 8 ≤ 0
  · simp only [if_pos ((bt3 k hk).mpr h), if_pos h]
  · simp only [if_neg (fun z => h ((bt3 k hk).mp z)), if_neg h]
theorem ix7 : ∀ k, k < 16 → nI k - nI k / 8 * 8 = nI (k % 8) ∧ nI k &&& 7 = nI (k % 8) := by decide
theorem ix_t : ∀ m, m < 8 → ∀ i : Int32, (if nI m = (7 : Int32) then i + 8 else if nI m = (6 : Int32) then i + 6 else if nI m = (5 : Int32) then i + 4 else if nI m = (4 : Int32) then i + 2 else i + (-1)) = if 4 ≤ nI m then i + 2 * (nI m - 3) else i - 1 := by
  intro m hm i
  match m, hm with
  | 0, _ => rw [if_neg (by decide), if_neg (by decide), if_neg (by decide), if_neg (by decide), if_neg (by decide), Int32.sub_eq_add_neg]
  | 1, _ => rw [if_neg (by decide), if_neg (by decide), if_neg (by decide), if_neg (by decide), if_neg (by decide), Int32.sub_eq_add_neg]
  | 2, _ => rw [if_neg (by decide), if_neg (by decide), if_neg (by decide), if_neg (by decide), if_neg (by decide), Int32.sub_eq_add_neg]
  | 3, _ => rw [if_neg (by decide), if_neg (by decide), if_neg (by decide), if_neg (by decide), if_neg (by decide), Int32.sub_eq_add_neg]
  | 4, _ => rw [if_neg (by decide), if_neg (by decide), if_neg (by decide), if_pos (by decide), if_pos (by decide)]; rfl
  | 5, _ => rw [if_neg (by decide), if_neg (by decide), if_pos (by decide), if_pos (by decide)]; rfl
  | 6, _ => rw [if_neg (by decide), if_pos (by decide), if_pos (by decide)]; rfl
  | 7, _ => rw [if_pos (by decide), if_pos (by decide)]; rfl
theorem zC_s {t : Int32} : (if 0 ≤ t then (if t ≤ (24 : Int32) then some t else some 24) else some 0) = some (zC t) := by
  unfold zC
  split
  · split <;> rfl
  · rfl
theorem index_v {i c : Int32} {M : Mem} (hc : c16 c) : f_L_index i c M = some (zI i c) := by
  obtain ⟨k, hk, rfl⟩ := hc
  unfold f_L_index f_L_index_b47 zI
  simp only [nb_s, zC_s]
  rw [(ix7 k hk).1, (ix7 k hk).2, ← ix_t (k % 8) (Nat.mod_lt _ (by decide)) i]
  split
  · rfl
  · split
    · rfl
    · split
      · rfl
      · split <;> rfl
theorem zK_16 {x g s : Int32} : c16 (zK x g s) := by
  have h : ∀ d b : Int32, (b = 0 ∨ b = 8) → c16 (zD s d b) := by
    intro d b hb
    unfold zD
    have k : ∀ (b : Int32) (h1 h2 h3 : Prop) [Decidable h1] [Decidable h2] [Decidable h3], (b = 0 ∨ b = 8) → c16 (if h3 then (if h2 then (if h1 then b else b + 4) else (if h1 then b else b + 4) + 2) else (if h2 then (if h1 then b else b + 4) else (if h1 then b else b + 4) + 2) + 1) := by
      intro b h1 h2 h3 _ _ _ hb
      rcases hb with rfl | rfl <;> split <;> split <;> split
      · exact ⟨0, by decide, rfl⟩
      · exact ⟨4, by decide, rfl⟩
      · exact ⟨2, by decide, rfl⟩
      · exact ⟨6, by decide, rfl⟩
      · exact ⟨1, by decide, rfl⟩
      · exact ⟨5, by decide, rfl⟩
      · exact ⟨3, by decide, rfl⟩
      · exact ⟨7, by decide, rfl⟩
      · exact ⟨8, by decide, rfl⟩
      · exact ⟨12, by decide, rfl⟩
      · exact ⟨10, by decide, rfl⟩
      · exact ⟨14, by decide, rfl⟩
      · exact ⟨9, by decide, rfl⟩
      · exact ⟨13, by decide, rfl⟩
      · exact ⟨11, by decide, rfl⟩
      · exact ⟨15, by decide, rfl⟩
    exact k b _ _ _ hb
  unfold zK
  apply h
  split
  · exact Or.inl rfl
  · exact Or.inr rfl
/-- a code and a mean in one number -/
def cm (c m : Int32) : Int32 := (65536 : Int32) * c + m + 2000
theorem cm_n {c m : Int32} (hc : c16 c) (hm : B2 m) : ∃ k e, k < 16 ∧ e ≤ 4000 ∧ c = nI k ∧ m + 2000 = nI e ∧ cm c m = nI (65536 * k + e) := by
  obtain ⟨k, hk, rfl⟩ := hc
  obtain ⟨h1, h2⟩ := hm
  have e2 : (2000 : Int32).toInt = 2000 := by decide
  refine ⟨k, (m.toInt + 2000).toNat, hk, by omega, rfl, ?_, ?_⟩
  · apply Int32.toInt_inj.mp
    rw [Int32.toInt_add, e2, nI_toInt (by omega), Int.bmod_eq_of_le_mul_two (by omega) (by omega)]
    omega
  · unfold cm
    have e3 : m + 2000 = nI (m.toInt + 2000).toNat := by
      apply Int32.toInt_inj.mp
      rw [Int32.toInt_add, e2, nI_toInt (by omega), Int.bmod_eq_of_le_mul_two (by omega) (by omega)]
      omega
    rw [Int32.add_assoc, e3, show (65536 : Int32) = nI 65536 from rfl, zM, zA]
theorem cm_c {c m : Int32} (hc : c16 c) (hm : B2 m) : cm c m / (65536 : Int32) = c := by
  obtain ⟨k, e, hk, he, e1, e2, e3⟩ := cm_n hc hm
  rw [e3, e1, show (65536 : Int32) = nI 65536 from rfl, nI_div (by omega) (by decide)]
  congr 1
  omega
theorem cm_m {c m : Int32} (hc : c16 c) (hm : B2 m) : cm c m - cm c m / (65536 : Int32) * (65536 : Int32) - 2000 = m := by
  obtain ⟨k, e, hk, he, e1, e2, e3⟩ := cm_n hc hm
  rw [e3, show (65536 : Int32) = nI 65536 from rfl, nI_rem (by omega) (by decide), show (65536 * k + e) % 65536 = e by omega, ← e2, Int32.add_sub_cancel]
