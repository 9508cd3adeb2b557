/-! the reference's rows put aside and back -/
section MODEL7
variable {M : Mem} {mo v n q : Nat} {r w T s : Nat → Int32} {p x c : Int32}
/-- the first places of a row out of another row -/
def zUp (s r : Nat → Int32) (j e : Nat) : Nat → Int32 := fun i => if j ≤ i ∧ i < e then r i else s i
theorem zUp_e {e : Nat} : zUp s r e e = s := by
  funext i
  unfold zUp
  rw [if_neg (by omega)]
theorem zUp_step {j e : Nat} (hj : j < e) : zUp (upd s j (r j)) r (j + 1) e = zUp s r j e := by
  funext i
  unfold zUp upd
  by_cases h1 : i = j
  · subst h1
    rw [if_neg (by omega), if_pos rfl, if_pos ⟨Nat.le_refl _, hj⟩]
  · by_cases h2 : j ≤ i ∧ i < e
    · rw [if_pos (by omega), if_pos h2]
    · rw [if_neg (by omega), if_neg h2, if_neg h1]
theorem aside_go : ∀ (d j n : Nat) (s : Nat → Int32), j + d = 626 → d < n → f_X9_putAside_b2 mo n (nI j) (sA (sA M (mo + 1) r) (mo + 4) s) = some (sA (sA M (mo + 1) r) (mo + 4) (zUp s r j 626)) := by
  intro d
  induction d with
  | zero =>
    intro j n s hj hn
    obtain ⟨n, rfl⟩ : ∃ k, n = k + 1 := ⟨n - 1, by omega⟩
    have hj : j = 626 := by omega
    subst hj
    unfold f_X9_putAside_b2
    rw [if_pos (show (626 : Int32) ≤ nI 626 by decide), zUp_e]
  | succ d ih =>
    intro j n s hj hn
    obtain ⟨n, rfl⟩ : ∃ k, n = k + 1 := ⟨n - 1, by omega⟩
    rw [f_X9_putAside_b2, if_neg (show ¬ (626 : Int32) ≤ nI j from nI_ge (a := j) (b := 626) (by omega) (by decide)), gd_s (nI_ix (by omega) (by decide)), gd_s (nI_ix (by omega) (by decide)), nb_s, nb_s, nI_clamp (by omega), sI_sA, mI_sAn (by omega), mI_sA, ← nI_succ, ih (j + 1) n _ (by omega) (by omega), zUp_step (by omega)]
theorem back_go {a : Nat → Int32} : ∀ (d j n : Nat) (s : Nat → Int32), j + d = 626 → d < n → f_X9_putBack_b2 mo n (nI j) (sA (sA M (mo + 4) a) (mo + 1) s) = some (sA (sA M (mo + 4) a) (mo + 1) (zUp s a j 626)) := by
  intro d
  induction d with
  | zero =>
    intro j n s hj hn
    obtain ⟨n, rfl⟩ : ∃ k, n = k + 1 := ⟨n - 1, by omega⟩
    have hj : j = 626 := by omega
    subst hj
    unfold f_X9_putBack_b2
    rw [if_pos (show (626 : Int32) ≤ nI 626 by decide), zUp_e]
  | succ d ih =>
    intro j n s hj hn
    obtain ⟨n, rfl⟩ : ∃ k, n = k + 1 := ⟨n - 1, by omega⟩
    rw [f_X9_putBack_b2, if_neg (show ¬ (626 : Int32) ≤ nI j from nI_ge (a := j) (b := 626) (by omega) (by decide)), gd_s (nI_ix (by omega) (by decide)), gd_s (nI_ix (by omega) (by decide)), nb_s, nb_s, nI_clamp (by omega), sI_sA, mI_sAn (by omega), mI_sA, ← nI_succ, ih (j + 1) n _ (by omega) (by omega), zUp_step (by omega)]
end MODEL7
