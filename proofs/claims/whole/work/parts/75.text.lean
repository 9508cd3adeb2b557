/-! TEXTS. The grammar as a machine; the class's look for the first wrong character -/
def dl (st c nu : Nat) : Nat :=
  if st = 0 then (if 48 ≤ c ∧ c ≤ 50 then 1 else if c = 100 ∨ c = 108 ∨ c = 120 then 6 else 8)
  else if st = 1 then (if c = 58 then 2 else 8)
  else if st = 2 then (if c = 45 then 3 else if c = 48 then 4 else if 48 ≤ c ∧ c ≤ 57 then 5 else 8)
  else if st = 3 then (if (48 ≤ c ∧ c ≤ 57) ∧ c ≠ 48 then 5 else 8)
  else if st = 4 then (if c = 44 then 2 else if c = 59 then 0 else 8)
  else if st = 5 then (if 48 ≤ c ∧ c ≤ 57 then (if nu ≤ 2000 then 5 else 8) else if c = 44 then 2 else if c = 59 then 0 else 8)
  else if st = 6 then (if 48 ≤ c ∧ c ≤ 50 then 7 else 8)
  else (if c = 59 then 0 else 8)
def nuN (c nu : Nat) : Nat := if 48 ≤ c ∧ c ≤ 57 then 10 * nu + (c - 48) else 0
/-- the machine on: f characters are left at i -/
def dfa (ch : Nat → Nat) : Nat → Nat → Nat → Nat → Nat × Nat
  | 0, i, st, _ => (i, st)
  | f + 1, i, st, nu => if dl st (ch i) (nuN (ch i) nu) = 8 then (i, 8) else dfa ch f (i + 1) (dl st (ch i) (nuN (ch i) nu)) (nuN (ch i) nu)
/-- a text of the class at e -/
def TX (M : Mem) (e l : Nat) (ch : Nat → Nat) : Prop := mI M e 1 = nI l ∧ l ≤ 60 ∧ ∀ i, i < l → mI M (e + 1) i = nI (ch i) ∧ 33 ≤ ch i ∧ ch i ≤ 126
section TEXT
variable {M M1 M' : Mem} {e l c i st nu n k : Nat} {ch : Nat → Nat}
theorem qe (hc : c < 2 ^ 31) (k : Nat) (hk : k < 2 ^ 31) : (nI c = (no_index (OfNat.ofNat k) : Int32)) ↔ c = k := nI_eq hc hk
theorem ql (hc : c < 2 ^ 31) (k : Nat) (hk : k < 2 ^ 31) : (nI c < (no_index (OfNat.ofNat k) : Int32)) ↔ c < k := nI_ltI hc hk
theorem qg (hc : c < 2 ^ 31) (k : Nat) (hk : k < 2 ^ 31) : ((no_index (OfNat.ofNat k) : Int32) < nI c) ↔ k < c := nI_ltI hk hc
theorem qq (hc : c < 2 ^ 31) (k : Nat) (hk : k < 2 ^ 31) : ((no_index (OfNat.ofNat k) : Int32) ≤ nI c) ↔ k ≤ c := nI_leI hk hc
theorem dig_c (hc : c < 2 ^ 31) : f_X6_isDigit (nI c) M = some (if 48 ≤ c ∧ c ≤ 57 then 1 else 0) := by
  unfold f_X6_isDigit
  rw [ite_cond_congr (ql hc 48 (by decide) |> propext), ite_cond_congr (qg hc 57 (by decide) |> propext)]
  by_cases h1 : c < 48
  · rw [if_pos h1, if_neg (by omega)]
  · rw [if_neg h1]
    by_cases h2 : 57 < c
    · rw [if_pos h2, if_neg (by omega)]
    · rw [if_neg h2, if_pos (by omega)]
theorem voc_c (hc : c < 2 ^ 31) : f_X6_isVoice (nI c) M = some (if 48 ≤ c ∧ c ≤ 50 then 1 else 0) := by
  unfold f_X6_isVoice
  simp only [ql hc 48 (by decide), qq hc 51 (by decide)]
  by_cases h1 : c < 48
  · rw [if_pos h1, if_neg (by omega)]
  · rw [if_neg h1]
    by_cases h2 : 51 ≤ c
    · rw [if_pos h2, if_neg (by omega)]
    · rw [if_neg h2, if_pos (by omega)]
theorem let_c (hc : c < 2 ^ 31) : f_X6_isLetter (nI c) M = some (if c = 100 ∨ c = 108 ∨ c = 120 then 1 else 0) := by
  unfold f_X6_isLetter
  simp only [qe hc 100 (by decide), qe hc 108 (by decide), qe hc 120 (by decide)]
  by_cases h1 : c = 100
  · rw [if_pos h1, if_pos (by omega)]
  · rw [if_neg h1]
    by_cases h2 : c = 108
    · rw [if_pos h2, if_pos (by omega)]
    · rw [if_neg h2]
      by_cases h3 : c = 120
      · rw [if_pos h3, if_pos (by omega)]
      · rw [if_neg h3, if_neg (by omega)]
theorem beh_c (hc : c < 2 ^ 31) : f_X6_behindSample (nI c) M = some (if c = 44 then 2 else if c = 59 then 0 else -1) := by
  unfold f_X6_behindSample
  simp only [qe hc 44 (by decide), qe hc 59 (by decide)]
  split
  · rfl
  · split <;> rfl
theorem dl_0 : dl 0 c nu = if 48 ≤ c ∧ c ≤ 50 then 1 else if c = 100 ∨ c = 108 ∨ c = 120 then 6 else 8 := rfl
theorem dl_1 : dl 1 c nu = if c = 58 then 2 else 8 := rfl
theorem dl_2 : dl 2 c nu = if c = 45 then 3 else if c = 48 then 4 else if 48 ≤ c ∧ c ≤ 57 then 5 else 8 := rfl
theorem dl_3 : dl 3 c nu = if (48 ≤ c ∧ c ≤ 57) ∧ c ≠ 48 then 5 else 8 := rfl
theorem dl_4 : dl 4 c nu = if c = 44 then 2 else if c = 59 then 0 else 8 := rfl
theorem dl_5 : dl 5 c nu = if 48 ≤ c ∧ c ≤ 57 then (if nu ≤ 2000 then 5 else 8) else if c = 44 then 2 else if c = 59 then 0 else 8 := rfl
theorem dl_6 : dl 6 c nu = if 48 ≤ c ∧ c ≤ 50 then 7 else 8 := rfl
theorem dl_7 : dl 7 c nu = if c = 59 then 0 else 8 := rfl
/-- the class's next stand -/
def dI (s : Nat) : Int32 := if s = 8 then -1 else nI s
theorem stand_c (hs : st < 8) (hc : c < 2 ^ 31) (hn : nu < 2 ^ 31) : f_X6_standBehind (nI st) (nI c) (nI nu) M = some (dI (dl st c nu)) := by
  have i1 : ∀ z : Int32, f_X6_inNumberIf z M = some (if z = 0 then -1 else 5) := fun z => by unfold f_X6_inNumberIf; split <;> rfl
  unfold f_X6_standBehind f_X6_standBehind_b126 f_X6_standBehind_b127 f_X6_standBehind_b155
  match st, hs with
  | 0, _ =>
    rw [if_pos (by decide), voc_c hc, vb_s, let_c hc, vb_s]
    rw [dl_0]
    by_cases h1 : 48 ≤ c ∧ c ≤ 50
    · simp only [if_pos h1]; rfl
    · simp only [if_neg h1]
      by_cases h2 : c = 100 ∨ c = 108 ∨ c = 120
      · simp only [if_pos h2]; rfl
      · simp only [if_neg h2]; rfl
  | 1, _ =>
    rw [if_neg (by decide), if_pos (by decide)]
    simp only [qe hc 58 (by decide)]
    rw [dl_1]
    by_cases h1 : c = 58
    · simp only [if_pos h1]; rfl
    · simp only [if_neg h1]; rfl
  | 2, _ =>
    rw [if_neg (by decide), if_neg (by decide), if_pos (by decide)]
    simp only [qe hc 45 (by decide), qe hc 48 (by decide), dig_c hc, vb_s, i1]
    rw [dl_2]
    by_cases h1 : c = 45
    · simp only [if_pos h1]; rfl
    · simp only [if_neg h1]
      by_cases h2 : c = 48
      · simp only [if_pos h2]; rfl
      · simp only [if_neg h2]
        by_cases h3 : 48 ≤ c ∧ c ≤ 57
        · simp only [if_pos h3]; rfl
        · simp only [if_neg h3]; rfl
  | 3, _ =>
    rw [if_neg (by decide), if_neg (by decide), if_neg (by decide), if_pos (by decide)]
    simp only [qe hc 48 (by decide), dig_c hc, vb_s, i1]
    rw [dl_3]
    by_cases h3 : 48 ≤ c ∧ c ≤ 57
    · simp only [if_pos h3]
      by_cases h2 : c = 48
      · simp only [if_pos h2, if_neg (show ¬ ((48 ≤ c ∧ c ≤ 57) ∧ c ≠ 48) from fun z => z.2 h2)]; rfl
      · simp only [if_neg h2, if_pos (show (48 ≤ c ∧ c ≤ 57) ∧ c ≠ 48 from ⟨h3, h2⟩)]; rfl
    · simp only [if_neg h3, if_neg (show ¬ ((48 ≤ c ∧ c ≤ 57) ∧ c ≠ 48) from fun z => h3 z.1)]; rfl
  | 4, _ =>
    rw [if_neg (by decide), if_neg (by decide), if_neg (by decide), if_neg (by decide), if_pos (by decide), beh_c hc, vb_s]
    rw [dl_4]
    by_cases h1 : c = 44
    · simp only [if_pos h1]; rfl
    · simp only [if_neg h1]
      by_cases h2 : c = 59
      · simp only [if_pos h2]; rfl
      · simp only [if_neg h2]; rfl
  | 5, _ =>
    rw [if_neg (by decide), if_neg (by decide), if_neg (by decide), if_neg (by decide), if_neg (by decide), if_pos (by decide), beh_c hc, vb_s, dig_c hc, vb_s]
    simp only [qg hn 2000 (by decide), i1, vb_s]
    rw [dl_5]
    by_cases h3 : 48 ≤ c ∧ c ≤ 57
    · simp only [if_pos h3]
      by_cases h2 : nu ≤ 2000
      · simp only [if_pos h2, if_neg (show ¬ 2000 < nu by omega)]; rfl
      · simp only [if_neg h2, if_pos (show 2000 < nu by omega)]; rfl
    · simp only [if_neg h3]
      by_cases h1 : c = 44
      · simp only [if_pos h1]; rfl
      · simp only [if_neg h1]
        by_cases h2 : c = 59
        · simp only [if_pos h2]; rfl
        · simp only [if_neg h2]; rfl
  | 6, _ =>
    rw [if_neg (by decide), if_neg (by decide), if_neg (by decide), if_neg (by decide), if_neg (by decide), if_neg (by decide), if_pos (by decide), voc_c hc, vb_s]
    rw [dl_6]
    by_cases h1 : 48 ≤ c ∧ c ≤ 50
    · simp only [if_pos h1]; rfl
    · simp only [if_neg h1]; rfl
  | 7, _ =>
    rw [if_neg (by decide), if_neg (by decide), if_neg (by decide), if_neg (by decide), if_neg (by decide), if_neg (by decide), if_neg (by decide), if_pos (by decide)]
    simp only [qe hc 59 (by decide)]
    rw [dl_7]
    by_cases h1 : c = 59
    · simp only [if_pos h1]; rfl
    · simp only [if_neg h1]; rfl
theorem dl_lt : dl st c nu < 9 := by
  unfold dl
  split
  · split
    · omega
    · split <;> omega
  · split
    · split <;> omega
    · split
      · split
        · omega
        · split
          · omega
          · split <;> omega
      · split
        · split <;> omega
        · split
          · split
            · omega
            · split <;> omega
          · split
            · split
              · split <;> omega
              · split
                · omega
                · split <;> omega
            · split
              · split <;> omega
              · split <;> omega
theorem TX.sign (h : TX M e l ch) (hi : i < l) : f_X6_signAt e (nI i) M = some (nI (ch i)) := by
  obtain ⟨h1, h2, h3⟩ := h
  obtain ⟨h4, h5, h6⟩ := h3 i hi
  unfold f_X6_signAt
  rw [if_neg (nI_pos (by omega)), h1, if_neg (nI_ge hi (by omega)), if_neg (show ¬ (60 : Int32) ≤ nI i from nI_ge (b := 60) (by omega) (by decide)), gd_s (nI_ix (by omega) (by decide)), nI_clamp (by omega), h4, gd_s ⟨nI_pos' (by omega), nI_le (b := 65535) (by omega) (by decide)⟩]
theorem TX.over (h : TX M e l ch) (hi : l ≤ i) (hi2 : i < 2 ^ 31) : f_X6_signAt e (nI i) M = some (nI 32) := by
  obtain ⟨h1, h2, h3⟩ := h
  unfold f_X6_signAt
  rw [if_neg (nI_pos hi2), h1, if_pos (nI_le hi hi2), gd_s (by decide)]
  rfl
theorem TX.sl (h : TX M e l ch) {x : Int32} (hk : k ≠ 1) : TX (sI M e k x) e l ch := by
  obtain ⟨h1, h2, h3⟩ := h
  exact ⟨by rw [mI_sk (by omega)]; exact h1, h2, fun i hi => by rw [mI_sn (by omega)]; exact h3 i hi⟩
/-- numbers stay small -/
def nuB (st nu : Nat) : Prop := st < 8 ∧ nu ≤ 2000
theorem nuN_B (h : nu ≤ 2000) (hc : c ≤ 126) : nuN c nu < 30000 := by
  unfold nuN
  split <;> omega
theorem dl_B (h : nuB st nu) (hc : c ≤ 126) (h8 : dl st c (nuN c nu) ≠ 8) (h5 : nu = 0 ∨ st = 4 ∨ st = 5 ∨ st = 1 ∨ st = 7) : nuB (dl st c (nuN c nu)) (nuN c nu) ∧ (nuN c nu = 0 ∨ dl st c (nuN c nu) = 4 ∨ dl st c (nuN c nu) = 5 ∨ dl st c (nuN c nu) = 1 ∨ dl st c (nuN c nu) = 7) := by
  have hlt := dl_lt (st := st) (c := c) (nu := nuN c nu)
  obtain ⟨h1, h2⟩ := h
  have key : nuN c nu ≤ 2000 ∧ (nuN c nu = 0 ∨ dl st c (nuN c nu) = 4 ∨ dl st c (nuN c nu) = 5 ∨ dl st c (nuN c nu) = 1 ∨ dl st c (nuN c nu) = 7) := by
    by_cases hd : 48 ≤ c ∧ c ≤ 57
    · have en : nuN c nu = 10 * nu + (c - 48) := if_pos hd
      rw [en] at h8 ⊢
      match st, h1 with
      | 0, _ => rw [dl_0] at h8 ⊢; (repeat' split at h8) <;> (try omega) <;> (repeat' split) <;> omega
      | 1, _ => rw [dl_1] at h8 ⊢; (repeat' split at h8) <;> omega
      | 2, _ => rw [dl_2] at h8 ⊢; (repeat' split at h8) <;> (try omega) <;> (repeat' split) <;> omega
      | 3, _ => rw [dl_3] at h8 ⊢; (repeat' split at h8) <;> (try omega) <;> (repeat' split) <;> omega
      | 4, _ => rw [dl_4] at h8 ⊢; (repeat' split at h8) <;> omega
      | 5, _ => rw [dl_5] at h8 ⊢; rw [if_pos hd] at h8 ⊢; (repeat' split at h8) <;> (try omega) <;> (repeat' split) <;> omega
      | 6, _ => rw [dl_6] at h8 ⊢; (repeat' split at h8) <;> (try omega) <;> (repeat' split) <;> omega
      | 7, _ => rw [dl_7] at h8 ⊢; (repeat' split at h8) <;> omega
    · have en : nuN c nu = 0 := if_neg hd
      rw [en]
      exact ⟨by omega, Or.inl rfl⟩
  exact ⟨⟨by omega, key.1⟩, key.2⟩
/-- the class's look -/
theorem wrong_c : ∀ (f i st nu n : Nat) (M : Mem), i + f = l → f < n → TX M e l ch → mI M e 2 = nI st → nuB st nu → (nu = 0 ∨ st = 4 ∨ st = 5 ∨ st = 1 ∨ st = 7) → f_X6_firstWrongPlace_b9 e n (nI nu) (nI i) M = some (nI (dfa ch f i st nu).1, sI M e 2 (dI (dfa ch f i st nu).2)) := by
  intro f
  induction f with
  | zero =>
    intro i st nu n M hi hn hT h2 hB h5
    obtain ⟨n, rfl⟩ : ∃ k, n = k + 1 := ⟨n - 1, by omega⟩
    have hi : i = l := by omega
    subst hi
    have hl60 := hT.2.1
    rw [f_X6_firstWrongPlace_b9, hT.1, if_pos (nI_le (Nat.le_refl _) (by omega))]
    have e : sI M e 2 (dI (dfa ch 0 i st nu).2) = M := by
      refine mem_ext (fun b j => ?_) rfl
      rw [mI_sI]
      split
      · rename_i z
        rw [z.1, z.2, h2]
        show dI st = _
        unfold dI
        rw [if_neg (by have := hB.1; omega)]
      · rfl
    rw [e]
    rfl
  | succ f ih =>
    intro i st nu n M hi hn hT h2 hB h5
    obtain ⟨n, rfl⟩ : ∃ k, n = k + 1 := ⟨n - 1, by omega⟩
    have hil : i < l := by omega
    obtain ⟨-, c33, c126⟩ := hT.2.2 i hil
    have hl60 := hT.2.1
    have hnu := nuN_B hB.2 c126
    rw [f_X6_firstWrongPlace_b9, hT.1, if_neg (nI_ge hil (by omega)), hT.sign hil, vb_s, dig_c (by omega), vb_s]
    unfold f_X6_firstWrongPlace_b43
    have num : ∀ F : Int32 → Option (Int32 × Mem), (if (if 48 ≤ ch i ∧ ch i ≤ 57 then 1 else 0 : Int32) = 0 then F 0 else F ((((10 : Int32) * nI nu) + nI (ch i)) - 48)) = F (nI (nuN (ch i) nu)) := by
      intro F
      unfold nuN
      by_cases hd : 48 ≤ ch i ∧ ch i ≤ 57
      · rw [if_pos hd, if_neg (by decide), if_pos hd]
        congr 1
        have e1 : ((10 : Int32) * nI nu) + nI (ch i) = nI (10 * nu + (ch i - 48)) + 48 := by
          rw [show (10 : Int32) = nI 10 from rfl, zM, zA, show (48 : Int32) = nI 48 from rfl, zA]
          congr 1
          omega
        rw [e1, Int32.add_sub_cancel]
      · rw [if_neg hd, if_pos rfl, if_neg hd]
        rfl
    refine (num fun z => vb (f_X6_standBehind (mI M e 2) (nI (ch i)) z M) fun r2 => nb (sI M e 2 r2) fun M3 => if (mI M3 e 2) = (-1 : Int32) then (some (nI i, M3)) else (nb (nI i + 1) fun y5 => f_X6_firstWrongPlace_b9 e n z y5 M3)).trans ?_
    rw [h2, stand_c hB.1 (by omega) (by omega), vb_s, nb_s, mI_ss]
    unfold dfa
    by_cases h8 : dl st (ch i) (nuN (ch i) nu) = 8
    · rw [if_pos h8, h8, if_pos (show dI 8 = -1 from rfl)]
    · obtain ⟨g1, g2⟩ := dl_B hB c126 h8 h5
      have hd8 : dI (dl st (ch i) (nuN (ch i) nu)) = nI (dl st (ch i) (nuN (ch i) nu)) := if_neg h8
      rw [if_neg h8, hd8, if_neg (fun z => by
        have e1 : (-1 : Int32).toInt = -1 := by decide
        have e2 := congrArg Int32.toInt z
        rw [e1, nI_toInt (by have := g1.1; omega)] at e2
        omega), nb_s, ← nI_succ, ih (i + 1) _ _ n _ (by omega) (by omega) (hT.sl (by decide)) mI_ss g1 g2]
      congr 2
      refine mem_ext (fun b j => ?_) rfl
      rw [mI_sI, mI_sI, mI_sI]
      split <;> rfl
end TEXT
