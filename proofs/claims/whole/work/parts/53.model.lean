/-! the reference's delivering -/
section MODEL4
variable {M : Mem} {mo v n q : Nat} {r w T : Nat → Int32} {p x c : Int32}
theorem upd_self {k : Nat} : upd w k (w k) = w := by
  funext i
  unfold upd
  by_cases h : i = k
  · subst h; exact if_pos rfl
  · exact if_neg h
theorem upd_upd {k : Nat} {x y : Int32} : upd (upd w k x) k y = upd w k y := by
  funext i
  unfold upd
  by_cases h : i = k
  · rw [if_pos h, if_pos h]
  · rw [if_neg h, if_neg h, if_neg h]
/-- the guess fades, once for each packet that misses -/
def zFd : Nat → Int32 → Int32
  | 0, g => g
  | k + 1, g => zFd k (3 * g / 4)
theorem fade_go {at_ num : Int32} {m : Nat} (hv : v < 3) (hm : m < 100000) : ∀ (d j n : Nat) (w : Nat → Int32), j + d = m → d < n → f_X9_deliverNow_b65 mo (nI v) n at_ num (nI m) (nI j) (sA M (mo + 1) (pv v r w)) = f_X9_deliverNow_b65 mo (nI v) 1 at_ num (nI m) (nI m) (sA M (mo + 1) (pv v r (upd w 26 (zFd d (w 26))))) := by
  intro d
  induction d with
  | zero =>
    intro j n w hj hn
    obtain ⟨n, rfl⟩ : ∃ k, n = k + 1 := ⟨n - 1, by omega⟩
    have hj : j = m := by omega
    subst hj
    unfold f_X9_deliverNow_b65 zFd
    rw [if_pos (nI_le (Nat.le_refl _) (by omega)), if_pos (nI_le (Nat.le_refl _) (by omega)), upd_self]
  | succ d ih =>
    intro j n w hj hn
    obtain ⟨n, rfl⟩ : ∃ k, n = k + 1 := ⟨n - 1, by omega⟩
    rw [f_X9_deliverNow_b65, if_neg (nI_ge (by omega) (by omega)), of_l 26 hv (by decide), vb_s, put_l 26 hv (by decide), vb_s, nb_s, ← nI_succ, ih (j + 1) n _ (by omega) (by omega), upd_eq, upd_upd]
    rfl
end MODEL4
