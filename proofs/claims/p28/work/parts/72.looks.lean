/-! LOOKS. What is told of the ends, the packets, the codes -/
def Lk (x : Nat) (M M' : Mem) : Prop := (∀ b, b ≠ x + 276 → b ≠ x + 277 → b ≠ x + 278 → mI M' b = mI M b) ∧ M'.2 = M.2
section LOOKS
variable {M M1 M' N : Mem} {x mo a e s d n m c l v j k i : Nat} {r q w t f u : Nat → Int32} {g : Nat → Nat → Int32} {b : Bool} {y p p1 p2 p3 z : Int32}
theorem Lk.rf : Lk x M M := ⟨fun _ _ _ _ => rfl, rfl⟩
theorem Lk.trans (h : Lk x M M1) (h2 : Lk x M1 M') : Lk x M M' := ⟨fun b h3 h4 h5 => (h2.1 b h3 h4 h5).trans (h.1 b h3 h4 h5), h2.2.trans h.2⟩
theorem Lk.sE {zz : Int32 × Int32} : Lk x M (sE M (x + 276) zz) := ⟨fun b h1 _ _ => mI_sEn h1, rfl⟩
theorem Lk.sHr : Lk x M (sHr M (x + 277) w) := ⟨fun b _ h1 h2 => mI_sHn h1 h2, rfl⟩
theorem CI.lk (h : CI x M n r q b g c t l) (hk : Lk x M M') : CI x M' n r q b g c t l := h.fr (fun b _ _ _ h1 h2 h3 => hk.1 b h1 h2 h3) (fun b _ _ => mR_of2 hk.2) (by rw [hk.1 _ (by omega) (by omega) (by omega)])
theorem Lk.out (hk : Lk x M M') : Out x M M' := Out.of2 (fun b hb => hk.1 b (by omega) (by omega) (by omega)) hk.2
theorem RV.cells (h : RV M a w) : mI M (a + 2) 0 = w 0 ∧ mI M (a + 2) 1 = w 1 ∧ mI M (a + 1) 2 = w 2 ∧ mI M (a + 1) 3 = w 3 ∧ mI M (a + 3) 2 = w 4 := by
  obtain ⟨⟨⟨q, q1, q2, q3, ⟨f0, f1, f2, f3, f5, f6⟩, -⟩, -⟩, -⟩ := h
  exact ⟨f0, f1, f2, f3, by rw [q2]; exact q3⟩
theorem RV.ear (h : RV M a w) : mI M (a + 10) 0 = w 26 ∧ mI M (a + 10) 1 = w 27 ∧ ∀ k, 1 ≤ k → k ≤ 9 → mI M (a + 9) k = w (earIx k) := h.1.2.2
/-- the guess told a second way -/
theorem since_c (h : RV M a w) (hB : WBs w) (he : e < a ∨ a + 44 ≤ e) : f_X3_guessSinceHead (a + 1) e M = some (w 0, sE M e (w 0, w 1)) := by
  have n1 : a + 1 ≠ e := by omega
  have n3 : a + 1 + 2 ≠ e := by omega
  have n4 : a + 1 + 2 + 1 ≠ e := by omega
  have n8 : a + 1 + 7 ≠ e := by omega
  obtain ⟨⟨⟨q', q1, q2, q3, ⟨f0, f1, f2, f3, f5, f6⟩, q7, q8, q9⟩, ⟨q'', c, c1, c2, c3, c4, c5, c6, c7, c8⟩, hE⟩, -⟩ := h
  have eq2 : q' = q'' := (nI_eq (by omega) (by omega)).mp (q2.symm.trans c2)
  subst eq2
  clear c5
  have hi : ∀ j, ∃ m, m < 25 ∧ (zFl (mI M (a + 1 + 7)) j (mI M (a + 1 + 6) 0, mI M (a + 1 + 6) 1)).2 = nI m := fun j => zFl_i c6
  clear c6
  have tail : f_X3_guessSinceHead_b43 (a + 1) e (sE M e (zFl (mI M (a + 1 + 7)) c (mI M (a + 1 + 6) 0, mI M (a + 1 + 6) 1))) = some (w 0, sE M e (w 0, w 1)) := by
    unfold f_X3_guessSinceHead_b43
    rw [all_c (q := q') n3 n4 q1 (by rw [mI_sEn n3]; exact q3) (by rw [mI_sE1]; exact hi c), vb_s, sE_sE, mI_sE0, mI_sEn n4, mI_sE0, mI_sE1]
    have ez : zFl (mI M (a + 1 + 2 + 1)) q' ((zFl (mI M (a + 1 + 7)) c (mI M (a + 1 + 6) 0, mI M (a + 1 + 6) 1)).1, (zFl (mI M (a + 1 + 7)) c (mI M (a + 1 + 6) 0, mI M (a + 1 + 6) 1)).2) = (w 0, w 1) := by
      by_cases hq : q' = 0
      · rw [c7 hq, hq]; rfl
      · rw [(c8 hq).1, ← (c8 hq).2]
        exact zFl_congr fun j hj => (q7 j hj).1
    rw [ez]
  have go : ∀ (d j n : Nat), j + d = c → d < n → f_X3_guessSinceHead_b10 (a + 1) e n (nI j) (sE M e (zFl (mI M (a + 1 + 7)) j (mI M (a + 1 + 6) 0, mI M (a + 1 + 6) 1))) = some (w 0, sE M e (w 0, w 1)) := by
    intro d
    induction d with
    | zero =>
      intro j n hj hn
      obtain ⟨n, rfl⟩ : ∃ k, n = k + 1 := ⟨n - 1, by omega⟩
      have hj : j = c := by omega
      subst hj
      rw [f_X3_guessSinceHead_b10, mI_sEn n1, c3, if_pos (nI_le (Nat.le_refl _) (by omega))]
      exact tail
    | succ d ih =>
      intro j n hj hn
      obtain ⟨n, rfl⟩ : ∃ k, n = k + 1 := ⟨n - 1, by omega⟩
      obtain ⟨m, hm1, hm2⟩ := hi j
      have hj72 : j < 72 := by omega
      have hjc : j < c := by omega
      rw [f_X3_guessSinceHead_b10, mI_sEn n1, c3, if_neg (nI_ge hjc (by omega)), if_neg (show ¬ (72 : Int32) ≤ nI j from nI_ge (b := 72) hj72 (by decide)), gd_s (nI_ix hj72 (by decide)), nI_clamp (by omega), mI_sEn n8, follow_c (n := m) (by rw [mI_sE1]; exact hm2) hm1, vb_s, nb_s, ← nI_succ, sE_sE, mI_sE0, mI_sE1]
      exact ih (j + 1) n (by omega) (by omega)
  unfold f_X3_guessSinceHead
  rw [ecopy_c, vb_s]
  exact go c 0 lfuel (by omega) (by unfold lfuel; omega)
def heK (j : Nat) : Nat := if j = 0 then 26 else if j = 1 then 27 else if j ≤ 10 then 25 + j else 36
/-! packets -/
/-- the codes as one number -/
def zOne (u : Nat → Int32) : Nat → Nat → Int32 → Int32
  | 0, _, y => y
  | d + 1, j, y => zOne u d (j + 1) (16 * y + u (5 + j))
theorem one_c {qq : Nat} (hq : qq ≤ 8) (h2 : mI M s 2 = nI qq) (hc : ∀ j, j < qq → mI M (s + 1) j = u (5 + j)) : ∀ (d j n : Nat) (y : Int32), j + d = qq → d < n → f_X2_codesAsOne_b4 s n y (nI j) M = some (zOne u d j y) := by
  intro d
  induction d with
  | zero =>
    intro j n y hj hn
    obtain ⟨n, rfl⟩ : ∃ k, n = k + 1 := ⟨n - 1, by omega⟩
    have hj : j = qq := by omega
    subst hj
    rw [f_X2_codesAsOne_b4, h2, if_pos (nI_le (Nat.le_refl _) (by omega))]
    rfl
  | succ d ih =>
    intro j n y hj hn
    obtain ⟨n, rfl⟩ : ∃ k, n = k + 1 := ⟨n - 1, by omega⟩
    rw [f_X2_codesAsOne_b4, h2, if_neg (nI_ge (by omega) (by omega)), codeAt_c (by omega), vb_s, nb_s, nb_s, ← nI_succ, hc j (by omega), ih (j + 1) n _ (by omega) (by omega)]
    rfl
/-! codes -/
end LOOKS
