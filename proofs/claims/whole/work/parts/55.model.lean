/-! the reference's delivering, whole -/
section MODEL6
variable {M : Mem} {mo v n q : Nat} {r w T : Nat → Int32} {p x c : Int32}
/-- behind the fading: the head, the codes, what is awaited -/
def zD1 (w : Nat → Int32) (mis : Int32) : Nat → Int32 := upd w 30 (w 30 + mis)
def zD2 (w : Nat → Int32) : Nat → Int32 := if w 41 = 1 then zTH w (w 42) (w 43) else w
def zD3 (T w : Nat → Int32) (num : Int32) (k : Nat) : Nat → Int32 := zTk (upd (zHs T k 0 w) 28 (num + 1))
theorem zHs_at {k : Nat} (hk : 36 ≤ k) : ∀ (d j : Nat) (w : Nat → Int32), zHs T d j w k = w k := by
  intro d
  induction d with
  | zero => intro j w; rfl
  | succ d ih =>
    intro j w
    show zHs T d (j + 1) _ k = w k
    rw [ih, zH_at hk]
theorem deliver_3 {num mis : Int32} {k : Nat} (hv : v < 3) (hk : k ≤ 8) (h40 : w 40 = nI k) (hi : ∃ i, i < 25 ∧ w 27 = nI i) (hw : w 38 = nI (q + 1)) (hq : q < 8) : f_X9_deliverNow_b138 mo (nI v) (nI (5 + 207 * v + 39)) num mis (sA M (mo + 1) (pv v r w)) = some (mis, sA M (mo + 1) (pv v r (zD3 (mI M (mo + 5)) w num k))) := by
  unfold f_X9_deliverNow_b138
  rw [show (0 : Int32) = nI 0 from rfl, hear_go hv hk k 0 lfuel w (by omega) (by unfold lfuel; omega) h40 hi]
  unfold f_X9_deliverNow_b141 zD3
  rw [gd_s (row_ix (at_add (c := 1)) hv (by decide)), row_get (at_add (c := 1)) hv (by decide), zHs_at (by decide), h40, if_pos (nI_le (Nat.le_refl _) (by omega)), put_l 28 hv (by decide), vb_s, take_v (q := q) hv (by rw [upd_ne (by decide), zHs_at (by decide)]; exact hw) hq, vb_s]
theorem deliver_2 {num : Int32} {k m : Nat} (hv : v < 3) (hk : k ≤ 8) (hm : m < 100000) (h40 : w 40 = nI k) (hi : ∃ i, i < 25 ∧ w 27 = nI i) (hj : w 41 = 1 → ∃ i, i < 25 ∧ w 43 = nI i) (hw : w 38 = nI (q + 1)) (hq : q < 8) : f_X9_deliverNow_b65 mo (nI v) 1 (nI (5 + 207 * v + 39)) num (nI m) (nI m) (sA M (mo + 1) (pv v r w)) = some (nI m, sA M (mo + 1) (pv v r (zD3 (mI M (mo + 5)) (zD2 (zD1 w (nI m))) num k))) := by
  unfold f_X9_deliverNow_b65
  have e41 : zD1 w (nI m) 41 = w 41 := rfl
  rw [if_pos (nI_le (Nat.le_refl _) (by omega)), add_l 30 hv (by decide), vb_s, gd_s (row_ix (at_add (c := 2)) hv (by decide)), row_get (at_add (c := 2)) hv (by decide)]
  show (if zD1 w (nI m) 41 = 1 then _ else _) = _
  unfold zD2
  by_cases h : w 41 = 1
  · rw [if_pos (by rw [e41]; exact h), if_pos (by rw [e41]; exact h), gd_s (row_ix (at_add (c := 3)) hv (by decide)), gd_s (row_ix (at_add (c := 4)) hv (by decide)), row_get (at_add (c := 3)) hv (by decide), row_get (at_add (c := 4)) hv (by decide), head_v hv, vb_s]
    exact deliver_3 (w := zTH (zD1 w (nI m)) (zD1 w (nI m) 42) (zD1 w (nI m) 43)) hv hk h40 (hj h) hw hq
  · rw [if_neg (by rw [e41]; exact h), if_neg (by rw [e41]; exact h)]
    exact deliver_3 (w := zD1 w (nI m)) hv hk h40 hi hw hq
def zDv (T w : Nat → Int32) : Nat → Int32 :=
  let a := upd w 37 (w 37 + 1)
  if w 28 ≤ w 39 then zD3 T (zD2 (zD1 (upd a 26 (zFd (w 39 - w 28).toNatClampNeg (w 26))) (w 39 - w 28))) (w 39) (w 40).toNatClampNeg
  else zTk (upd a 31 (w 31 + 1))
def zDa (w : Nat → Int32) : Int32 := if w 28 ≤ w 39 then w 39 - w 28 else -10000
theorem deliver_v {k : Nat} (hv : v < 3) (hk : k ≤ 8) (h40 : w 40 = nI k) (hi : ∃ i, i < 25 ∧ w 27 = nI i) (hj : w 41 = 1 → ∃ i, i < 25 ∧ w 43 = nI i) (hw : w 38 = nI (q + 1)) (hq : q < 8) (hm : w 28 ≤ w 39 → ∃ m, m < 9999 ∧ w 39 - w 28 = nI m) : f_X9_deliverNow mo (nI v) (sA M (mo + 1) (pv v r w)) = some (zDa w, sA M (mo + 1) (pv v r (zDv (mI M (mo + 5)) w))) := by
  unfold f_X9_deliverNow zDv zDa
  rw [at_0, vb_s, gd_s (row_ix (at_add (c := 0)) hv (by decide)), nb_s, row_get (at_add (c := 0)) hv (by decide), add_l 37 hv (by decide), vb_s, of_l 28 hv (by decide), vb_s, upd_ne (show 28 ≠ 37 by decide)]
  show (if w 28 ≤ w 39 then _ else _) = _
  by_cases h : w 28 ≤ w 39
  · obtain ⟨m, hm1, hm2⟩ := hm h
    rw [if_pos h, if_pos h, if_pos h, vb_s, nb_s]
    show f_X9_deliverNow_b65 mo (nI v) lfuel (nI (5 + 207 * v + 39)) (w 39) (w 39 - w 28) 0 _ = _
    rw [hm2, show (0 : Int32) = nI 0 from rfl, fade_go hv (by omega) m 0 lfuel _ (by omega) (by unfold lfuel; omega), nI_clamp (by omega), h40, nI_clamp (by omega)]
    exact deliver_2 hv hk (by omega) h40 hi hj hw hq
  · rw [if_neg h, if_neg h, if_neg h, add_l 31 hv (by decide), vb_s, take_v (w := upd (upd w 37 (w 37 + 1)) 31 (upd w 37 (w 37 + 1) 31 + 1)) (q := q) hv hw hq, vb_s]
    rfl
end MODEL6
