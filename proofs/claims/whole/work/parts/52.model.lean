/-! the reference's wire: losing, swapping, a head that is taken -/
section MODEL3
variable {M : Mem} {mo v n q : Nat} {r w T : Nat → Int32} {p x c : Int32}
theorem at_0 : f_X9_packetAt (nI v) 0 M = some (nI (5 + 207 * v + 39)) := packet_at (q := 0)
def zLo (w : Nat → Int32) : Nat → Int32 := upd (zTk w) 36 (zTk w 36 + 1)
theorem lose_v (hv : v < 3) (hw : w 38 = nI (q + 1)) (hq : q < 8) : f_X9_loseNow mo (nI v) (sA M (mo + 1) (pv v r w)) = some (w 39, sA M (mo + 1) (pv v r (zLo w))) := by
  unfold f_X9_loseNow
  rw [at_0, vb_s, gd_s (row_ix (at_add (c := 0)) hv (by decide)), nb_s, row_get (at_add (c := 0)) hv (by decide), take_v hv hw hq, vb_s, add_l 36 hv (by decide), vb_s]
  rfl
/-- the first two packets, places from j on, change places -/
def zSw (w : Nat → Int32) (j : Nat) : Nat → Int32 := fun i => if j ≤ i ∧ i < 60 then w (i + 21) else if j + 21 ≤ i ∧ i < 81 then w (i - 21) else w i
theorem zSw_e : zSw w 60 = w := by
  funext i
  unfold zSw
  rw [if_neg (by omega), if_neg (by omega)]
theorem zSw_step {j : Nat} (h1 : 39 ≤ j) (hj : j < 60) : zSw (upd (upd w j (w (j + 21))) (j + 21) (w j)) (j + 1) = zSw w j := by
  funext i
  unfold zSw upd
  by_cases h2 : j ≤ i ∧ i < 60
  · by_cases h3 : i = j
    · subst h3
      rw [if_neg (by omega), if_neg (by omega), if_pos h2]
      simp only [if_neg (show ¬ i = i + 21 by omega), ↓reduceIte]
    · rw [if_pos (by omega), if_pos h2]
      simp only [if_neg (show ¬ i + 21 = j + 21 by omega), if_neg (show ¬ i + 21 = j by omega)]
  · by_cases h4 : j + 21 ≤ i ∧ i < 81
    · by_cases h5 : i = j + 21
      · subst h5
        rw [if_neg (by omega), if_neg (by omega)]
        simp only [↓reduceIte]
        rw [if_neg h2, if_pos h4, Nat.add_sub_cancel]
      · rw [if_neg (by omega), if_pos (by omega), if_neg h2, if_pos h4]
        simp only [if_neg (show ¬ i - 21 = j + 21 by omega), if_neg (show ¬ i - 21 = j by omega)]
    · rw [if_neg (by omega), if_neg (by omega), if_neg h2, if_neg h4]
      simp only [if_neg (show ¬ i = j + 21 by omega), if_neg (show ¬ i = j by omega)]
theorem swap_go (hv : v < 3) : ∀ (d j n : Nat) (w : Nat → Int32), 39 ≤ j → j + d = 60 → d < n → f_X9_swapNow_b8 mo (nI v) n (nI (5 + 207 * v + 39)) (nI (5 + 207 * v + j)) (sA M (mo + 1) (pv v r w)) = some (zSw w j 39, sA M (mo + 1) (pv v r (zSw w j))) := by
  intro d
  induction d with
  | zero =>
    intro j n w h1 hj hn
    obtain ⟨n, rfl⟩ : ∃ k, n = k + 1 := ⟨n - 1, by omega⟩
    have hj : j = 60 := by omega
    subst hj
    unfold f_X9_swapNow_b8
    rw [if_pos (by rw [at_add (c := 21)]; exact nI_le (Nat.le_refl _) (by omega)), gd_s (row_ix (at_add (c := 0)) hv (by decide)), row_get (at_add (c := 0)) hv (by decide), zSw_e]
  | succ d ih =>
    intro j n w h1 hj hn
    obtain ⟨n, rfl⟩ : ∃ k, n = k + 1 := ⟨n - 1, by omega⟩
    unfold f_X9_swapNow_b8
    rw [if_neg (by rw [at_add (c := 21)]; exact nI_ge (by omega) (by omega)), gd_s (row_ix rfl hv (by omega)), nb_s, row_get rfl hv (by omega), gd_s (row_ix (at_add (c := 21)) hv (by omega)), gd_s (row_ix rfl hv (by omega)), nb_s, row_get (at_add (c := 21)) hv (by omega), row_put rfl hv (by omega), gd_s (row_ix (at_add (c := 21)) hv (by omega)), nb_s, row_put (at_add (c := 21)) hv (by omega), nb_s, ← nI_succ, Nat.add_assoc (5 + 207 * v), ih (j + 1) n _ (by omega) (by omega) (by omega), zSw_step h1 (by omega)]
theorem swap_v (hv : v < 3) : f_X9_swapNow mo (nI v) (sA M (mo + 1) (pv v r w)) = some (zSw w 39 39, sA M (mo + 1) (pv v r (zSw w 39))) := by
  unfold f_X9_swapNow
  rw [at_0, vb_s, swap_go hv 21 39 lfuel w (Nat.le_refl _) rfl (by decide)]
def zTH (w : Nat → Int32) (g i : Int32) : Nat → Int32 := upd (upd (upd w 32 (w 32 + (if w 26 = g ∧ w 27 = i then 0 else 1))) 26 g) 27 i
theorem head_v {g i : Int32} (hv : v < 3) : f_X9_takeHead mo (nI v) g i (sA M (mo + 1) (pv v r w)) = some (sA M (mo + 1) (pv v r (zTH w g i))) := by
  unfold f_X9_takeHead f_X9_takeHead_b22 f_X9_takeHead_b27 f_X9_takeHead_b43 zTH
  rw [of_l 26 hv (by decide), vb_s, of_l 27 hv (by decide), vb_s]
  by_cases h1 : w 26 = g
  · by_cases h2 : w 27 = i
    · rw [if_pos h1, if_pos h2, if_pos rfl, if_pos (show w 26 = g ∧ w 27 = i from ⟨h1, h2⟩), add_l 32 hv (by decide), vb_s, put_l 26 hv (by decide), vb_s, put_l 27 hv (by decide), vb_s]
    · rw [if_pos h1, if_neg h2, if_neg (show ¬ (1 : Int32) = 0 by decide), if_neg (show ¬ (w 26 = g ∧ w 27 = i) from fun h => h2 h.2), add_l 32 hv (by decide), vb_s, put_l 26 hv (by decide), vb_s, put_l 27 hv (by decide), vb_s]
  · rw [if_neg h1, if_neg (show ¬ (1 : Int32) = 0 by decide), if_neg (show ¬ (w 26 = g ∧ w 27 = i) from fun h => h1 h.1), add_l 32 hv (by decide), vb_s, put_l 26 hv (by decide), vb_s, put_l 27 hv (by decide), vb_s]
end MODEL3
