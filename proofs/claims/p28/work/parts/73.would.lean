/-! LOOKS. What would be heard if all came; why both ends do not agree -/
def zDA : Nat → (Nat → Int32) → (Nat → Int32)
  | 0, w => w
  | k + 1, w => zDA k (zDv cSTEPS w)
section WOULD
variable {M M1 M' N : Mem} {x mo a e s d n m c l v j k i : Nat} {r q w t f u T : Nat → Int32} {g : Nat → Nat → Int32} {b : Bool} {y p p1 p2 p3 z : Int32}
theorem zDv_38 (h38 : w 38 = nI (k + 1)) : zDv T w 38 = nI k := by
  obtain ⟨y, ey, hy⟩ := zDv_tk (T := T) (w := w)
  rw [ey]
  exact zTk_38 ((hy 38 (by decide)).trans h38)
theorem zDv_w (h38 : w 38 = nI (k + 1)) (hk : k < 8) {j i : Nat} (hj : j < k) (hi : i < 21) : zDv T w (39 + 21 * j + i) = w (39 + 21 * (j + 1) + i) := by
  obtain ⟨y, ey, hy⟩ := zDv_tk (T := T) (w := w)
  rw [ey, zTk_w ((hy 38 (by decide)).trans h38) hk hj hi, hy _ (by omega)]
theorem zDv_lo (hi : i < 26 ∨ i = 36) : zDv T w i = w i := by
  obtain ⟨y, ey, hy⟩ := zDv_tk (T := T) (w := w)
  rw [ey, zTk_lo (by omega), hy i (by omega)]
theorem come_go (h3 : mI M a 3 = nI m) (hW : WR M a) (hm : m ≤ 8) (ha : x + 278 < a ∨ a + 44 ≤ x + 277) : ∀ (d j n nn : Nat) (w : Nat → Int32), j + d = m → d < n → nn + d < 9999 → WB nn w → w 38 = nI d → (∀ i, i < d → RP M (mR M (a + 11) (j + i)) (fun k => w (39 + 21 * i + k))) → f_X8_letAllCome_b13 x a n (nI j) (sHr M (x + 277) w) = some (sHr M (x + 277) (zDA d w)) := by
  intro d
  induction d with
  | zero =>
    intro j n nn w hj hn hnn hB h38 hP
    obtain ⟨n, rfl⟩ : ∃ k, n = k + 1 := ⟨n - 1, by omega⟩
    have hj : j = m := by omega
    subst hj
    rw [f_X8_letAllCome_b13, mI_sHn (by omega) (by omega), h3, if_pos (nI_le (Nat.le_refl _) (by omega))]
    rfl
  | succ d ih =>
    intro j n nn w hj hn hnn hB h38 hP
    obtain ⟨n, rfl⟩ : ∃ k, n = k + 1 := ⟨n - 1, by omega⟩
    have hd8 : d < 8 := by omega
    obtain ⟨hB1, hgap, -, -, hwp⟩ := WB.dv (T := cSTEPS) hB h38 hd8 (by omega)
    obtain ⟨t, ht, et⟩ := hW.1 j (by omega)
    have hp : RP M (mR M (a + 11) j) (fun i => w (39 + i)) := hP 0 (by omega)
    have rc := recv_c (M := M) (e := x + 277) (p := mR M (a + 11) j) (w := w) (by omega) hp hwp hB.1.2.2 hgap
    rw [f_X8_letAllCome_b13, mI_sHn (by omega) (by omega), h3, if_neg (nI_ge (by omega) (by omega)), if_neg (show ¬ (8 : Int32) ≤ nI j from nI_ge (b := 8) (by omega) (by decide)), gd_s (nI_ix (by omega) (by decide)), nb_s, nI_clamp (by omega)]
    show cb (f_X1_receive (x + 277) (mR M (a + 11) j) (sHr M (x + 277) w)) _ = _
    rw [rc, cb_s, nb_s, ← nI_succ]
    refine ih (j + 1) n (nn + 1) (zDv cSTEPS w) (by omega) (by omega) (by omega) hB1 (zDv_38 h38) fun i hi => ?_
    refine RP.congr (hP (i + 1) (by omega) |> fun z => by rw [show j + (i + 1) = j + 1 + i by omega] at z; exact z) fun k hk => ?_
    exact (zDv_w h38 hd8 hi hk).symm
theorem earcopy (h : RE M s w) (hd : e + 2 ≤ s ∨ s + 2 ≤ e) : ∃ M', f_X1_copyFrom e s M = some M' ∧ RE M' e w ∧ (∀ b, b < e ∨ e + 2 ≤ b → mI M' b = mI M b) ∧ M'.2 = M.2 := by
  obtain ⟨M1, e1, h1⟩ := (Cp.start (M := M) (d := e) (s := s) (n := 2)).ends hd (o := 1) (by decide)
  have g1 := h1.put hd (o := 0) (k := 1) (by decide)
  have g2 := g1.put hd (o := 0) (k := 2) (by decide)
  have g3 := g2.put hd (o := 0) (k := 3) (by decide)
  have g4 := g3.put hd (o := 0) (k := 4) (by decide)
  have g5 := g4.put hd (o := 0) (k := 5) (by decide)
  have g6 := g5.put hd (o := 0) (k := 6) (by decide)
  have g7 := g6.put hd (o := 0) (k := 7) (by decide)
  have g8 := g7.put hd (o := 0) (k := 8) (by decide)
  have g9 := g8.put hd (o := 0) (k := 9) (by decide)
  refine ⟨_, ?_, ⟨(g9.1.1 (1, 0) (by decide)).trans h.1, (g9.1.1 (1, 1) (by decide)).trans h.2.1, fun k hk1 hk2 => ?_⟩, g9.2.1, g9.2.2⟩
  · unfold f_X1_copyFrom
    rw [e1, vb_s]
    rfl
  · refine Eq.trans ?_ (h.2.2 k hk1 hk2)
    match k, hk1, hk2 with
    | 1, _, _ => exact g9.1.1 (0, 1) (by decide)
    | 2, _, _ => exact g9.1.1 (0, 2) (by decide)
    | 3, _, _ => exact g9.1.1 (0, 3) (by decide)
    | 4, _, _ => exact g9.1.1 (0, 4) (by decide)
    | 5, _, _ => exact g9.1.1 (0, 5) (by decide)
    | 6, _, _ => exact g9.1.1 (0, 6) (by decide)
    | 7, _, _ => exact g9.1.1 (0, 7) (by decide)
    | 8, _, _ => exact g9.1.1 (0, 8) (by decide)
    | 9, _, _ => exact g9.1.1 (0, 9) (by decide)
theorem come_c (h : CI x M n r q b g c t l) (hv : v < 3) (h38 : vo r v 38 = nI m) (hm : m ≤ 8) (hn : n < 9990) : ∃ M1, f_X8_letAllCome x (x + 5 + 44 * v) M = some (sHr M1 (x + 277) (zDA m (vo r v))) ∧ Lk x M M1 := by
  obtain ⟨hV, hW, hB, hS, hR⟩ := h.rv hv
  obtain ⟨M1, e1, hE1, f1, m2⟩ := earcopy (M := M) (e := x + 277) (s := x + 5 + 44 * v + 9) (w := vo r v) hV.1.2.2 (by omega)
  have lk1 : Lk x M M1 := ⟨fun b h1 h2 h3 => f1 b (by omega), m2⟩
  obtain ⟨hV1, hW1, -⟩ := (h.lk lk1).rv hv
  obtain ⟨-, ⟨k3, -⟩, W, hW8, w38, hP⟩ := hV1
  have eW : W = m := (nI_eq (by omega) (by omega)).mp (w38.symm.trans h38)
  subst eW
  refine ⟨M1, ?_, lk1⟩
  unfold f_X8_letAllCome
  rw [e1, vb_s]
  have go := come_go (M := M1) (x := x) (a := x + 5 + 44 * v) (m := W) (k3.trans h38) hW1 hm (by omega) W 0 lfuel n (vo r v) (by omega) (by unfold lfuel; omega) (by omega) hB h38 (fun i hi => by rw [Nat.zero_add]; exact hP i hi)
  rw [hE1.eq] at go
  exact go
/-! the reference -/
theorem zHs_30 {T : Nat → Int32} {i : Nat} (hi : i = 28 ∨ i = 30 ∨ i = 31 ∨ i = 32) : ∀ (d j : Nat) (w : Nat → Int32), zHs T d j w i = w i := by
  intro d
  induction d with
  | zero => exact fun _ _ => rfl
  | succ d ih =>
    intro j w
    show zHs T d (j + 1) _ i = w i
    rw [ih, zH_v, if_neg (by omega), if_neg (by omega), if_neg (by omega), if_neg (by omega), if_neg (by omega), if_neg (by omega)]
theorem zDv_30 (hle : w 28 ≤ w 39) : zDv T w 30 = w 30 + (w 39 - w 28) ∧ zDv T w 31 = w 31 := by
  unfold zDv zD3
  simp only [if_pos hle]
  rw [zTk_lo (by decide), zTk_lo (by decide), upd_ne (by decide), upd_ne (by decide), zHs_30 (by decide), zHs_30 (by decide)]
  unfold zD2 zD1
  split
  · exact ⟨rfl, rfl⟩
  · exact ⟨rfl, rfl⟩
theorem zDv_31 (hle : ¬ w 28 ≤ w 39) : zDv T w 30 = w 30 ∧ zDv T w 31 = w 31 + 1 := by
  unfold zDv
  simp only [if_neg hle]
  rw [zTk_lo (by decide), zTk_lo (by decide)]
  exact ⟨rfl, rfl⟩
/-- what a voice is when all came -/
theorem all_B : ∀ (d nn : Nat) (w : Nat → Int32), nn + d < 9999 → d ≤ 8 → WB nn w → w 38 = nI d → WBh (zDA d w) ∧ (∀ i, i < 26 ∨ i = 36 → zDA d w i = w i) ∧ (∃ Z Z', w 30 = nI Z ∧ zDA d w 30 = nI Z' ∧ Z ≤ Z' ∧ Z' < 9999) ∧ ∃ L L', w 31 = nI L ∧ zDA d w 31 = nI L' ∧ L ≤ L' ∧ L' < 9999 := by
  intro d
  induction d with
  | zero =>
    intro nn w hnn hd8 hB h38
    obtain ⟨N, A, C, Z, L, H, E, l, ⟨e1, e2, e3, e4, e5, e6, e7, e8⟩, b1, b2, b3, b4, b5, -⟩ := hB.2.1
    exact ⟨hB.1.2, fun _ _ => rfl, ⟨Z, Z, e4, e4, Nat.le_refl _, by omega⟩, L, L, e5, e5, Nat.le_refl _, by omega⟩
  | succ d ih =>
    intro nn w hnn hd8 hB h38
    obtain ⟨hB1, hgap, -⟩ := WB.dv (T := cSTEPS) hB h38 (by omega) (by omega)
    obtain ⟨g1, g2, ⟨Z, Z', z1, z2, z3, z4⟩, L, L', l1, l2, l3, l4⟩ := ih (nn + 1) (zDv cSTEPS w) (by omega) (by omega) hB1 (zDv_38 h38)
    obtain ⟨N, A, C, Z0, L0, H, E, l, ⟨e1, e2, e3, e4, e5, e6, e7, e8⟩, b1, b2, b3, b4, b5, -⟩ := hB.2.1
    refine ⟨g1, fun i hi => (g2 i hi).trans (zDv_lo hi), ⟨Z0, Z', e4, z2, ?_, z4⟩, L0, L', e5, l2, ?_, l4⟩
    · by_cases hle : w 28 ≤ w 39
      · obtain ⟨m, hm, em⟩ := hgap hle
        have h := (zDv_30 (T := cSTEPS) hle).1
        rw [e4, em, z1, zA] at h
        have := (nI_eq (by omega) (by omega)).mp h
        omega
      · have h := (zDv_31 (T := cSTEPS) hle).1
        rw [e4, z1] at h
        have := (nI_eq (by omega) (by omega)).mp h
        omega
    · by_cases hle : w 28 ≤ w 39
      · have h := (zDv_30 (T := cSTEPS) hle).2
        rw [e5, l1] at h
        have := (nI_eq (by omega) (by omega)).mp h
        omega
      · have h := (zDv_31 (T := cSTEPS) hle).2
        rw [e5, l1, ← nI_succ] at h
        have := (nI_eq (by omega) (by omega)).mp h
        omega
theorem pv_hi (hv : v < 3) (hi : 626 ≤ i) : pv v r w i = r i := by
  unfold pv
  rw [if_neg (by omega)]
/-! why -/
end WOULD
