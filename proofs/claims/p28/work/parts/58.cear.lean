/-! THE CLASS. The hearing end as a block of numbers; what a packet does to it -/
theorem mem_ext {M N : Mem} (h : ∀ b j, mI M b j = mI N b j) (h2 : M.2 = N.2) : M = N := Prod.ext (funext fun b => funext fun j => h b j) h2
/-- a packet of the class holds a packet of the row -/
def RP (M : Mem) (p : Nat) (u : Nat → Int32) : Prop := ∃ q, q ≤ 8 ∧ u 1 = nI q ∧ mI M p 2 = nI q ∧ mI M p 3 = u 0 ∧ mI M p 4 = u 2 ∧ (u 2 = 0 ∧ u 3 = -10000 ∧ u 4 = -10000 ∨ u 2 = 1 ∧ mI M (p + 3) 0 = u 3 ∧ mI M (p + 3) 1 = u 4) ∧ ∀ j, j < q → mI M (p + 1) j = u (5 + j) ∧ mI M (p + 2) j = u (13 + j)
/-- the bounds of a packet of the row: its number is below N -/
def WP (N : Nat) (u : Nat → Int32) : Prop := (∃ k, k < N ∧ u 0 = nI k) ∧ (u 2 = 1 → B2 (u 3) ∧ ∃ m, m < 25 ∧ u 4 = nI m) ∧ (∀ j, j < 8 → B2 (u (13 + j))) ∧ ∃ m, m ≤ 8 ∧ u 1 = nI m
def earIx (k : Nat) : Nat := if k = 9 then 37 else 27 + k
def sHr (M : Mem) (e : Nat) (w : Nat → Int32) : Mem := (fun b => if b = e then (fun k => if 1 ≤ k ∧ k ≤ 9 then w (earIx k) else M.1 e k) else if b = e + 1 then (fun k => if k < 2 then w (26 + k) else M.1 b k) else M.1 b, M.2)
section CEAR
variable {M : Mem} {a b e p k n q m : Nat} {g i c x s : Int32} {w f u : Nat → Int32}
theorem mI_sHr {j : Nat} : mI (sHr M e w) b j = if b = e then (if 1 ≤ j ∧ j ≤ 9 then w (earIx j) else mI M e j) else if b = e + 1 then (if j < 2 then w (26 + j) else mI M b j) else mI M b j := by
  unfold sHr mI
  by_cases h : b = e
  · simp only [if_pos h]
  · simp only [if_neg h]
    by_cases h2 : b = e + 1
    · simp only [if_pos h2]
    · simp only [if_neg h2]
theorem mI_sHn (h1 : b ≠ e) (h2 : b ≠ e + 1) : mI (sHr M e w) b = mI M b := by funext j; rw [mI_sHr, if_neg h1, if_neg h2]
theorem rH0 : mI (sHr M e w) (e + 1) 0 = w 26 := by rw [mI_sHr]; simp
theorem rH1 : mI (sHr M e w) (e + 1) 1 = w 27 := by rw [mI_sHr]; simp
theorem rH (h1 : 1 ≤ k) (h2 : k ≤ 9) : mI (sHr M e w) e k = w (earIx k) := by rw [mI_sHr, if_pos rfl, if_pos ⟨h1, h2⟩]
theorem sH (h1 : 1 ≤ k) (h2 : k ≤ 9) : sI (sHr M e w) e k x = sHr M e (upd w (earIx k) x) := by
  refine mem_ext (fun b j => ?_) rfl
  have hk : 28 ≤ earIx k := by unfold earIx; split <;> omega
  rw [mI_sI, mI_sHr, mI_sHr]
  by_cases hb : b = e
  · rw [if_pos hb, if_pos hb]
    by_cases hj : j = k
    · rw [if_pos ⟨hb, hj⟩, hj, if_pos ⟨h1, h2⟩, upd_eq]
    · rw [if_neg (fun z => hj z.2)]
      by_cases h3 : 1 ≤ j ∧ j ≤ 9
      · rw [if_pos h3, if_pos h3, upd_ne (by unfold earIx; split <;> split <;> omega)]
      · rw [if_neg h3, if_neg h3]
  · rw [if_neg (fun z => hb z.1), if_neg hb, if_neg hb]
    by_cases h4 : b = e + 1
    · rw [if_pos h4, if_pos h4]
      by_cases h5 : j < 2
      · rw [if_pos h5, if_pos h5, upd_ne (by omega)]
      · rw [if_neg h5, if_neg h5]
    · rw [if_neg h4, if_neg h4]
theorem sHg : sI (sHr M e w) (e + 1) 0 x = sHr M e (upd w 26 x) := by
  refine mem_ext (fun b j => ?_) rfl
  rw [mI_sI, mI_sHr, mI_sHr]
  by_cases hb : b = e
  · rw [if_neg (by omega), if_pos hb, if_pos hb]
    by_cases h3 : 1 ≤ j ∧ j ≤ 9
    · rw [if_pos h3, if_pos h3, upd_ne (by unfold earIx; split <;> omega)]
    · rw [if_neg h3, if_neg h3]
  · rw [if_neg hb, if_neg hb]
    by_cases h4 : b = e + 1
    · simp only [if_pos h4, h4, true_and]
      by_cases h6 : j = 0
      · subst h6; rfl
      · rw [if_neg h6]
        by_cases h5 : j < 2
        · rw [if_pos h5, if_pos h5, upd_ne (by omega)]
        · rw [if_neg h5, if_neg h5]
    · rw [if_neg (fun z => h4 z.1), if_neg h4, if_neg h4]
theorem sHi : sI (sHr M e w) (e + 1) 1 x = sHr M e (upd w 27 x) := by
  refine mem_ext (fun b j => ?_) rfl
  rw [mI_sI, mI_sHr, mI_sHr]
  by_cases hb : b = e
  · rw [if_neg (by omega), if_pos hb, if_pos hb]
    by_cases h3 : 1 ≤ j ∧ j ≤ 9
    · rw [if_pos h3, if_pos h3, upd_ne (by unfold earIx; split <;> omega)]
    · rw [if_neg h3, if_neg h3]
  · rw [if_neg hb, if_neg hb]
    by_cases h4 : b = e + 1
    · simp only [if_pos h4, h4, true_and]
      by_cases h6 : j = 1
      · subst h6; rfl
      · rw [if_neg h6]
        by_cases h5 : j < 2
        · rw [if_pos h5, if_pos h5, upd_ne (by omega)]
        · rw [if_neg h5, if_neg h5]
    · rw [if_neg (fun z => h4 z.1), if_neg h4, if_neg h4]
theorem sEH {z : Int32 × Int32} : sE (sHr M e w) (e + 1) z = sHr M e (upd (upd w 26 z.1) 27 z.2) := by unfold sE; rw [sHg, sHi]
theorem r1 : mI (sHr M e w) e 1 = w 28 := rH (by decide) (by decide)
theorem r2 : mI (sHr M e w) e 2 = w 29 := rH (by decide) (by decide)
theorem r3 : mI (sHr M e w) e 3 = w 30 := rH (by decide) (by decide)
theorem r4 : mI (sHr M e w) e 4 = w 31 := rH (by decide) (by decide)
theorem r5 : mI (sHr M e w) e 5 = w 32 := rH (by decide) (by decide)
theorem r6 : mI (sHr M e w) e 6 = w 33 := rH (by decide) (by decide)
theorem r7 : mI (sHr M e w) e 7 = w 34 := rH (by decide) (by decide)
theorem r8 : mI (sHr M e w) e 8 = w 35 := rH (by decide) (by decide)
theorem r9 : mI (sHr M e w) e 9 = w 37 := rH (by decide) (by decide)
theorem s1 : sI (sHr M e w) e 1 x = sHr M e (upd w 28 x) := sH (by decide) (by decide)
theorem s2 : sI (sHr M e w) e 2 x = sHr M e (upd w 29 x) := sH (by decide) (by decide)
theorem s3 : sI (sHr M e w) e 3 x = sHr M e (upd w 30 x) := sH (by decide) (by decide)
theorem s4 : sI (sHr M e w) e 4 x = sHr M e (upd w 31 x) := sH (by decide) (by decide)
theorem s5 : sI (sHr M e w) e 5 x = sHr M e (upd w 32 x) := sH (by decide) (by decide)
theorem s6 : sI (sHr M e w) e 6 x = sHr M e (upd w 33 x) := sH (by decide) (by decide)
theorem s7 : sI (sHr M e w) e 7 x = sHr M e (upd w 34 x) := sH (by decide) (by decide)
theorem s8 : sI (sHr M e w) e 8 x = sHr M e (upd w 35 x) := sH (by decide) (by decide)
theorem s9 : sI (sHr M e w) e 9 x = sHr M e (upd w 37 x) := sH (by decide) (by decide)
theorem upd_cm {j : Nat} {y : Int32} (h : k ≠ j) : upd (upd w k x) j y = upd (upd w j y) k x := by
  funext i
  unfold upd
  by_cases h1 : i = j
  · rw [if_pos h1, if_neg (by omega), if_pos h1]
  · rw [if_neg h1]
    by_cases h2 : i = k
    · rw [if_pos h2, if_pos h2]
    · rw [if_neg h2, if_neg h2, if_neg h1]
theorem note_c : f_X1_noteHeard e x (sHr M e f) = some (sHr M e (upd (upd (upd (upd f 29 (f 29 + 1)) 33 (f 33 + x)) 35 (f 35 + f 26)) 34 (if x ≤ f 34 then f 34 else x))) := by
  unfold f_X1_noteHeard
  simp only [nb_s, r2, s2, r8, rH0, s8, r6, s6, r7, s7, upd_at, Nat.reduceEqDiff, ↓reduceIte]
  rw [upd_cm (k := 35) (j := 33) (by decide)]
  by_cases h : x ≤ f 34
  · rw [if_pos h, if_pos h]
    congr 2
    exact (upd_self (w := upd (upd (upd f 29 (f 29 + 1)) 33 (f 33 + x)) 35 (f 35 + f 26)) (k := 34)).symm
  · rw [if_neg h, if_neg h]
theorem followH (hi : w 27 = nI n) (hn : n < 25) : f_X0_follow (e + 1) c (sHr M e w) = some (sHr M e (zF cSTEPS w 26 c)) := by
  rw [follow_c (n := n) (by rw [rH1]; exact hi) hn, sEH, rH0, rH1]
  rfl
theorem chear_go (h1 : p ≠ e) (h2 : p ≠ e + 1) (h3 : p + 1 ≠ e) (h4 : p + 1 ≠ e + 1) (h5 : p + 2 ≠ e) (h6 : p + 2 ≠ e + 1) (hq : q ≤ 8) (hp : mI M p 2 = nI q) : ∀ (d j n : Nat) (w : Nat → Int32), j + d = q → d < n → (∀ j, j < q → mI M (p + 1) j = w (44 + j) ∧ mI M (p + 2) j = w (52 + j)) → (∀ j, j < q → B2 (w (52 + j))) → (∃ i, i < 25 ∧ w 27 = nI i) → f_X1_receive_b92 e p n x (nI j) (sHr M e w) = f_X1_receive_b92 e p 1 x (nI q) (sHr M e (zHs cSTEPS d j w)) := by
  intro d
  induction d with
  | zero =>
    intro j n w hj hn hc hB hi
    obtain ⟨n, rfl⟩ : ∃ k, n = k + 1 := ⟨n - 1, by omega⟩
    have hj : j = q := by omega
    subst hj
    unfold f_X1_receive_b92 zHs
    rw [mI_sHn h1 h2, hp, if_pos (nI_le (Nat.le_refl _) (by omega)), if_pos (nI_le (Nat.le_refl _) (by omega))]
  | succ d ih =>
    intro j n w hj hn hc hB hi
    obtain ⟨n, rfl⟩ : ∃ k, n = k + 1 := ⟨n - 1, by omega⟩
    obtain ⟨i, hi1, hi2⟩ := hi
    have st : f_X1_receive_b92 e p (n + 1) x (nI j) (sHr M e w) = f_X1_receive_b92 e p n x (nI (j + 1)) (sHr M e (zH cSTEPS w (w (44 + j)) (w (52 + j)))) := by
      rw [f_X1_receive_b92, mI_sHn h1 h2, hp, if_neg (nI_ge (by omega) (by omega)), codeAt_c (by omega), vb_s, mI_sHn h3 h4, (hc j (by omega)).1, followH hi2 hi1, vb_s, meanAt_c (by omega), vb_s, mI_sHn h5 h6, (hc j (by omega)).2, rH0, dist_c (show B2 (zF cSTEPS w 26 (w (44 + j)) 26) from zG_B2) (hB j (by omega)), vb_s, note_c, vb_s, nb_s, ← nI_succ]
      rfl
    rw [st, ih (j + 1) n _ (by omega) (by omega) (fun k hk => by rw [zH_at (by omega), zH_at (by omega)]; exact hc k hk) (fun k hk => by rw [zH_at (by omega)]; exact hB k hk) zH_27]
    rfl
theorem move_c (h1 : p ≠ e) (h2 : p ≠ e + 1) : f_X1_moveTo e p (sHr M e w) = some (sHr M e (zTH w (mI M p 0) (mI M p 1))) := by
  unfold f_X1_moveTo f_X1_moveTo_b28 zTH
  rw [isAt_c, vb_s, rH0, rH1, mI_sHn h1 h2]
  by_cases h : w 26 = mI M p 0 ∧ w 27 = mI M p 1
  · rw [if_pos h, if_neg (by decide), if_pos h, ecopy_c, vb_s, mI_sHn h1 h2, sEH, Int32.add_zero, upd_self]
  · rw [if_neg h, if_pos rfl, if_neg h, nb_s, r5, s5, ecopy_c, vb_s, mI_sHn h1 h2, sEH]
theorem cfade_go (hm : m < 100000) : ∀ (d j n : Nat) (w : Nat → Int32), j + d = m → d < n → f_X1_receive_b47 e p n (nI m) (nI j) (sHr M e w) = f_X1_receive_b47 e p 1 (nI m) (nI m) (sHr M e (upd w 26 (zFd d (w 26)))) := by
  intro d
  induction d with
  | zero =>
    intro j n w hj hn
    obtain ⟨n, rfl⟩ : ∃ k, n = k + 1 := ⟨n - 1, by omega⟩
    have hj : j = m := by omega
    subst hj
    unfold f_X1_receive_b47 zFd
    rw [if_pos (nI_le (Nat.le_refl _) (by omega)), if_pos (nI_le (Nat.le_refl _) (by omega)), upd_self]
  | succ d ih =>
    intro j n w hj hn
    obtain ⟨n, rfl⟩ : ∃ k, n = k + 1 := ⟨n - 1, by omega⟩
    rw [f_X1_receive_b47, if_neg (nI_ge (by omega) (by omega))]
    unfold f_X0_fade
    rw [nb_s, vb_s, nb_s, rH0, sHg, ← nI_succ, ih (j + 1) n _ (by omega) (by omega), upd_eq, upd_upd]
    rfl
theorem zTk_lo (hi : k < 38) : zTk w k = w k := by
  show zZr (zMv (upd w 38 (w 38 + -1)) 39 (39 + 21 * (w 38 + -1).toNatClampNeg)) (39 + 21 * (w 38 + -1).toNatClampNeg) (39 + 21 * (w 38 + -1).toNatClampNeg + 21) k = w k
  unfold zZr zMv
  rw [if_neg (by omega), if_neg (by omega), upd_ne (by omega)]
theorem sHr_congr (h : ∀ i, i < 38 → w i = f i) : sHr M e w = sHr M e f := by
  refine mem_ext (fun b j => ?_) rfl
  rw [mI_sHr, mI_sHr]
  by_cases hb : b = e
  · rw [if_pos hb, if_pos hb]
    by_cases h3 : 1 ≤ j ∧ j ≤ 9
    · rw [if_pos h3, if_pos h3, h _ (by unfold earIx; split <;> omega)]
    · rw [if_neg h3, if_neg h3]
  · rw [if_neg hb, if_neg hb]
    by_cases h4 : b = e + 1
    · rw [if_pos h4, if_pos h4]
      by_cases h5 : j < 2
      · rw [if_pos h5, if_pos h5, h _ (by omega)]
      · rw [if_neg h5, if_neg h5]
    · rw [if_neg h4, if_neg h4]
/-- the class hears a packet as the reference does -/
theorem recv_c (hf : p + 3 < e ∨ e + 1 < p) (hp : RP M p (fun i => w (39 + i))) (hw : WP k (fun i => w (39 + i))) (hi : ∃ i, i < 25 ∧ w 27 = nI i) (hm : w 28 ≤ w 39 → ∃ m, m < 9999 ∧ w 39 - w 28 = nI m) : f_X1_receive e p (sHr M e w) = some (zDa w, sHr M e (zDv cSTEPS w)) := by
  obtain ⟨q, hq, h40, p2, p3, p4, ph, pc⟩ := hp
  obtain ⟨-, wh, wm, -⟩ := hw
  replace h40 : w 40 = nI q := h40
  replace p3 : mI M p 3 = w 39 := p3
  replace p4 : mI M p 4 = w 41 := p4
  have B52 : ∀ j, j < q → B2 (w (52 + j)) := fun j hj => by
    have h := wm j (by omega)
    rw [show 52 + j = 39 + (13 + j) by omega]
    exact h
  have C44 : ∀ j, j < q → mI M (p + 1) j = w (44 + j) ∧ mI M (p + 2) j = w (52 + j) := fun j hj => by
    have h := pc j hj
    rw [show 44 + j = 39 + (5 + j) by omega, show 52 + j = 39 + (13 + j) by omega]
    exact h
  -- behind the head
  have tail : ∀ (y : Nat → Int32) (x : Int32), (∀ i, 36 ≤ i → i ≠ 37 → y i = w i) → (∃ i, i < 25 ∧ y 27 = nI i) → f_X1_receive_b90 e p x (sHr M e y) = some (x, sHr M e (zD3 cSTEPS y (w 39) q)) := by
    intro y x hy hyi
    unfold f_X1_receive_b90
    rw [show (0 : Int32) = nI 0 from rfl, chear_go (by omega) (by omega) (by omega) (by omega) (by omega) (by omega) hq p2 q 0 lfuel y (by omega) (by unfold lfuel; omega) (fun j hj => by rw [hy _ (by omega) (by omega), hy _ (by omega) (by omega)]; exact C44 j hj) (fun j hj => by rw [hy _ (by omega) (by omega)]; exact B52 j hj) hyi]
    unfold f_X1_receive_b92
    rw [mI_sHn (by omega) (by omega), p2, if_pos (nI_le (Nat.le_refl _) (by omega)), nb_s, s1, p3]
    unfold zD3
    rw [sHr_congr fun i hi => (zTk_lo (w := upd (zHs cSTEPS q 0 y) 28 (w 39 + 1)) hi).symm]
  unfold f_X1_receive zDa zDv
  rw [nb_s, r9, s9, r1, mI_sHn (by omega) (by omega), p3, upd_ne (show 28 ≠ 37 by decide)]
  by_cases h : w 28 ≤ w 39
  · obtain ⟨m, hm1, hm2⟩ := hm h
    rw [if_pos h, if_pos h, if_pos h, nb_s, hm2, show (0 : Int32) = nI 0 from rfl, cfade_go (by omega) m 0 lfuel _ (by omega) (by unfold lfuel; omega), h40, nI_clamp (by omega), nI_clamp (by omega)]
    unfold f_X1_receive_b47
    rw [if_pos (nI_le (Nat.le_refl _) (by omega)), nb_s, r3, s3, mI_sHn (by omega) (by omega), p4]
    show (if w 41 = 0 then _ else _) = some (nI m, sHr M e (zD3 cSTEPS (zD2 (zD1 (upd (upd w 37 (w 37 + 1)) 26 (zFd m (w 26))) (nI m))) (w 39) q))
    unfold zD2
    have e41 : zD1 (upd (upd w 37 (w 37 + 1)) 26 (zFd m (w 26))) (nI m) 41 = w 41 := rfl
    rw [e41]
    rcases ph with ⟨ph1, -⟩ | ⟨ph1, ph2, ph3⟩
    · replace ph1 : w 41 = 0 := ph1
      rw [ph1, if_pos rfl, if_neg (by decide)]
      refine tail (zD1 (upd (upd w 37 (w 37 + 1)) 26 (zFd m (w 26))) (nI m)) (nI m) (fun i h1 h2 => ?_) hi
      unfold zD1
      rw [upd_ne (by omega), upd_ne (by omega), upd_ne (by omega)]
    · replace ph1 : w 41 = 1 := ph1
      rw [ph1, if_neg (by decide), if_pos rfl, move_c (by omega) (by omega), vb_s, ph2, ph3]
      refine tail (zTH (zD1 (upd (upd w 37 (w 37 + 1)) 26 (zFd m (w 26))) (nI m)) (w 42) (w 43)) (nI m) (fun i h1 h2 => ?_) (wh ph1).2
      unfold zTH zD1
      rw [upd_ne (by omega), upd_ne (by omega), upd_ne (by omega), upd_ne (by omega), upd_ne (by omega), upd_ne (by omega)]
  · rw [if_neg h, if_neg h, if_neg h, nb_s, r4, s4]
    exact congrArg (fun z => some (-10000, z)) (sHr_congr fun i hi => (zTk_lo (w := upd (upd w 37 (w 37 + 1)) 31 (w 31 + 1)) hi).symm)
end CEAR
