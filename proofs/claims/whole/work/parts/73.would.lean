/-! LOOKS. What would be heard if all came; why both ends do not agree -/
def zDA : Nat → (Nat → Int32) → (Nat → Int32)
  | 0, w => w
  | k + 1, w => zDA k (zDv cSTEPS w)
section WOULD
variable {M M1 M' N : Mem} {x mo a e s d n m c l v j k i : Nat} {r q w t f u T : Nat → Int32} {g : Nat → Nat → Int32} {b : Bool} {y p p1 p2 p3 z : Int32}
theorem zDv_38 (h38 : w 38 = nI (k + 1)) : zDv T w 38 = nI k := by
  obtain ⟨y, ey, hy⟩ := zDv_tk (T := T) (w := w)
  rw [ey]
  exact zTk_38 ((hy 38 (by decide)).trans h38)
theorem zDv_w (h38 : w 38 = nI (k + 1)) (hk : k < 8) {j i : Nat} (hj : j < k) (hi : i < 21) : zDv T w (39 + 21 * j + i) = w (39 + 21 * (j + 1) + i) := by
  obtain ⟨y, ey, hy⟩ := zDv_tk (T := T) (w := w)
  rw [ey, zTk_w ((hy 38 (by decide)).trans h38) hk hj hi, hy _ (by omega)]
theorem zDv_lo (hi : i < 26 ∨ i = 36) : zDv T w i = w i := by
  obtain ⟨y, ey, hy⟩ := zDv_tk (T := T) (w := w)
  rw [ey, zTk_lo (by omega), hy i (by omega)]
theorem come_go (h3 : mI M a 3 = nI m) (hW : WR M a) (hm : m ≤ 8) (ha : x + 278 < a ∨ a + 44 ≤ x + 277) : ∀ (d j n nn : Nat) (w : Nat → Int32), j + d = m → d < n → nn + d < 9999 → WB nn w → w 38 = nI d → (∀ i, i < d → RP M (mR M (a + 11) (j + i)) (fun k => w (39 + 21 * i + k))) → f_X8_letAllCome_b13 x a n (nI j) (sHr M (x + 277) w) = some (sHr M (x + 277) (zDA d w)) := by
  intro d
  induction d with
  | zero =>
    intro j n nn w hj hn hnn hB h38 hP
    obtain ⟨n, rfl⟩ : ∃ k, n = k + 1 := ⟨n - 1, by omega⟩
    have hj : j = m := by omega
    subst hj
    rw [f_X8_letAllCome_b13, mI_sHn (by omega) (by omega), h3, if_pos (nI_le (Nat.le_refl _) (by omega))]
    rfl
  | succ d ih =>
    intro j n nn w hj hn hnn hB h38 hP
    obtain ⟨n, rfl⟩ : ∃ k, n = k + 1 := ⟨n - 1, by omega⟩
    have hd8 : d < 8 := by omega
    obtain ⟨hB1, hgap, -, -, hwp⟩ := WB.dv (T := cSTEPS) hB h38 hd8 (by omega)
    obtain ⟨t, ht, et⟩ := hW.1 j (by omega)
    have hp : RP M (mR M (a + 11) j) (fun i => w (39 + i)) := hP 0 (by omega)
    have rc := recv_c (M := M) (e := x + 277) (p := mR M (a + 11) j) (w := w) (by omega) hp hwp hB.1.2.2 hgap
    rw [f_X8_letAllCome_b13, mI_sHn (by omega) (by omega), h3, if_neg (nI_ge (by omega) (by omega)), if_neg (show ¬ (8 : Int32) ≤ nI j from nI_ge (b := 8) (by omega) (by decide)), gd_s (nI_ix (by omega) (by decide)), nb_s, nI_clamp (by omega)]
    show cb (f_X1_receive (x + 277) (mR M (a + 11) j) (sHr M (x + 277) w)) _ = _
    rw [rc, cb_s, nb_s, ← nI_succ]
    refine ih (j + 1) n (nn + 1) (zDv cSTEPS w) (by omega) (by omega) (by omega) hB1 (zDv_38 h38) fun i hi => ?_
    refine RP.congr (hP (i + 1) (by omega) |> fun z => by rw [show j + (i + 1) = j + 1 + i by omega] at z; exact z) fun k hk => ?_
    exact (zDv_w h38 hd8 hi hk).symm
theorem earcopy (h : RE M s w) (hd : e + 2 ≤ s ∨ s + 2 ≤ e) : ∃ M', f_X1_copyFrom e s M = some M' ∧ RE M' e w ∧ (∀ b, b < e ∨ e + 2 ≤ b → mI M' b = mI M b) ∧ M'.2 = M.2 := by
  obtain ⟨M1, e1, h1⟩ := (Cp.start (M := M) (d := e) (s := s) (n := 2)).ends hd (o := 1) (by decide)
  have g1 := h1.put hd (o := 0) (k := 1) (by decide)
  have g2 := g1.put hd (o := 0) (k := 2) (by decide)
  have g3 := g2.put hd (o := 0) (k := 3) (by decide)
  have g4 := g3.put hd (o := 0) (k := 4) (by decide)
  have g5 := g4.put hd (o := 0) (k := 5) (by decide)
  have g6 := g5.put hd (o := 0) (k := 6) (by decide)
  have g7 := g6.put hd (o := 0) (k := 7) (by decide)
  have g8 := g7.put hd (o := 0) (k := 8) (by decide)
  have g9 := g8.put hd (o := 0) (k := 9) (by decide)
  refine ⟨_, ?_, ⟨(g9.1.1 (1, 0) (by decide)).trans h.1, (g9.1.1 (1, 1) (by decide)).trans h.2.1, fun k hk1 hk2 => ?_⟩, g9.2.1, g9.2.2⟩
  · unfold f_X1_copyFrom
    rw [e1, vb_s]
    rfl
  · refine Eq.trans ?_ (h.2.2 k hk1 hk2)
    match k, hk1, hk2 with
    | 1, _, _ => exact g9.1.1 (0, 1) (by decide)
    | 2, _, _ => exact g9.1.1 (0, 2) (by decide)
    | 3, _, _ => exact g9.1.1 (0, 3) (by decide)
    | 4, _, _ => exact g9.1.1 (0, 4) (by decide)
    | 5, _, _ => exact g9.1.1 (0, 5) (by decide)
    | 6, _, _ => exact g9.1.1 (0, 6) (by decide)
    | 7, _, _ => exact g9.1.1 (0, 7) (by decide)
    | 8, _, _ => exact g9.1.1 (0, 8) (by decide)
    | 9, _, _ => exact g9.1.1 (0, 9) (by decide)
theorem come_c (h : CI x M n r q b g c t l) (hv : v < 3) (h38 : vo r v 38 = nI m) (hm : m ≤ 8) (hn : n < 9990) : ∃ M1, f_X8_letAllCome x (x + 5 + 44 * v) M = some (sHr M1 (x + 277) (zDA m (vo r v))) ∧ Lk x M M1 := by
  obtain ⟨hV, hW, hB, hS, hR⟩ := h.rv hv
  obtain ⟨M1, e1, hE1, f1, m2⟩ := earcopy (M := M) (e := x + 277) (s := x + 5 + 44 * v + 9) (w := vo r v) hV.1.2.2 (by omega)
  have lk1 : Lk x M M1 := ⟨fun b h1 h2 h3 => f1 b (by omega), m2⟩
  obtain ⟨hV1, hW1, -⟩ := (h.lk lk1).rv hv
  obtain ⟨-, ⟨k3, -⟩, W, hW8, w38, hP⟩ := hV1
  have eW : W = m := (nI_eq (by omega) (by omega)).mp (w38.symm.trans h38)
  subst eW
  refine ⟨M1, ?_, lk1⟩
  unfold f_X8_letAllCome
  rw [e1, vb_s]
  have go := come_go (M := M1) (x := x) (a := x + 5 + 44 * v) (m := W) (k3.trans h38) hW1 hm (by omega) W 0 lfuel n (vo r v) (by omega) (by unfold lfuel; omega) (by omega) hB h38 (fun i hi => by rw [Nat.zero_add]; exact hP i hi)
  rw [hE1.eq] at go
  exact go
/-! the reference -/
theorem all_m (hT : mI N (mo + 5) = cSTEPS) (hv : v < 3) : ∀ (d m nn : Nat) (w : Nat → Int32), d < m → nn + d < 9999 → d ≤ 8 → WB nn w → w 38 = nI d → f_X9_deliverAll_b0 mo (nI v) m (sA N (mo + 1) (pv v r w)) = some (sA N (mo + 1) (pv v r (zDA d w))) := by
  intro d
  induction d with
  | zero =>
    intro m nn w hm hnn hd8 hB h38
    obtain ⟨m, rfl⟩ : ∃ k, m = k + 1 := ⟨m - 1, by omega⟩
    rw [f_X9_deliverAll_b0, of_l 38 hv (by decide), vb_s, h38, if_pos (show nI 0 ≤ 0 by decide)]
    rfl
  | succ d ih =>
    intro m nn w hm hnn hd8 hB h38
    obtain ⟨m, rfl⟩ : ∃ k, m = k + 1 := ⟨m - 1, by omega⟩
    obtain ⟨hB1, hgap, ⟨kk, hk8, h40⟩, h41, -⟩ := WB.dv (T := cSTEPS) hB h38 (by omega) (by omega)
    have e := deliver_v (M := N) (mo := mo) (v := v) (r := r) (w := w) (q := d) hv hk8 h40 hB.1.2.2 h41 h38 (by omega) hgap
    rw [hT] at e
    rw [f_X9_deliverAll_b0, of_l 38 hv (by decide), vb_s, h38, if_neg (nI_nle (by omega) (by omega)), e, cb_s]
    exact ih m (nn + 1) (zDv cSTEPS w) (by omega) (by omega) (by omega) hB1 (zDv_38 h38)
theorem zHs_30 {T : Nat → Int32} {i : Nat} (hi : i = 28 ∨ i = 30 ∨ i = 31 ∨ i = 32) : ∀ (d j : Nat) (w : Nat → Int32), zHs T d j w i = w i := by
  intro d
  induction d with
  | zero => exact fun _ _ => rfl
  | succ d ih =>
    intro j w
    show zHs T d (j + 1) _ i = w i
    rw [ih, zH_v, if_neg (by omega), if_neg (by omega), if_neg (by omega), if_neg (by omega), if_neg (by omega), if_neg (by omega)]
theorem zDv_30 (hle : w 28 ≤ w 39) : zDv T w 30 = w 30 + (w 39 - w 28) ∧ zDv T w 31 = w 31 := by
  unfold zDv zD3
  simp only [if_pos hle]
  rw [zTk_lo (by decide), zTk_lo (by decide), upd_ne (by decide), upd_ne (by decide), zHs_30 (by decide), zHs_30 (by decide)]
  unfold zD2 zD1
  split
  · exact ⟨rfl, rfl⟩
  · exact ⟨rfl, rfl⟩
theorem zDv_31 (hle : ¬ w 28 ≤ w 39) : zDv T w 30 = w 30 ∧ zDv T w 31 = w 31 + 1 := by
  unfold zDv
  simp only [if_neg hle]
  rw [zTk_lo (by decide), zTk_lo (by decide)]
  exact ⟨rfl, rfl⟩
/-- what a voice is when all came -/
theorem all_B : ∀ (d nn : Nat) (w : Nat → Int32), nn + d < 9999 → d ≤ 8 → WB nn w → w 38 = nI d → WBh (zDA d w) ∧ (∀ i, i < 26 ∨ i = 36 → zDA d w i = w i) ∧ (∃ Z Z', w 30 = nI Z ∧ zDA d w 30 = nI Z' ∧ Z ≤ Z' ∧ Z' < 9999) ∧ ∃ L L', w 31 = nI L ∧ zDA d w 31 = nI L' ∧ L ≤ L' ∧ L' < 9999 := by
  intro d
  induction d with
  | zero =>
    intro nn w hnn hd8 hB h38
    obtain ⟨N, A, C, Z, L, H, E, l, ⟨e1, e2, e3, e4, e5, e6, e7, e8⟩, b1, b2, b3, b4, b5, -⟩ := hB.2.1
    exact ⟨hB.1.2, fun _ _ => rfl, ⟨Z, Z, e4, e4, Nat.le_refl _, by omega⟩, L, L, e5, e5, Nat.le_refl _, by omega⟩
  | succ d ih =>
    intro nn w hnn hd8 hB h38
    obtain ⟨hB1, hgap, -⟩ := WB.dv (T := cSTEPS) hB h38 (by omega) (by omega)
    obtain ⟨g1, g2, ⟨Z, Z', z1, z2, z3, z4⟩, L, L', l1, l2, l3, l4⟩ := ih (nn + 1) (zDv cSTEPS w) (by omega) (by omega) hB1 (zDv_38 h38)
    obtain ⟨N, A, C, Z0, L0, H, E, l, ⟨e1, e2, e3, e4, e5, e6, e7, e8⟩, b1, b2, b3, b4, b5, -⟩ := hB.2.1
    refine ⟨g1, fun i hi => (g2 i hi).trans (zDv_lo hi), ⟨Z0, Z', e4, z2, ?_, z4⟩, L0, L', e5, l2, ?_, l4⟩
    · by_cases hle : w 28 ≤ w 39
      · obtain ⟨m, hm, em⟩ := hgap hle
        have h := (zDv_30 (T := cSTEPS) hle).1
        rw [e4, em, z1, zA] at h
        have := (nI_eq (by omega) (by omega)).mp h
        omega
      · have h := (zDv_31 (T := cSTEPS) hle).1
        rw [e4, z1] at h
        have := (nI_eq (by omega) (by omega)).mp h
        omega
    · by_cases hle : w 28 ≤ w 39
      · have h := (zDv_30 (T := cSTEPS) hle).2
        rw [e5, l1] at h
        have := (nI_eq (by omega) (by omega)).mp h
        omega
      · have h := (zDv_31 (T := cSTEPS) hle).2
        rw [e5, l1, ← nI_succ] at h
        have := (nI_eq (by omega) (by omega)).mp h
        omega
/-- the row is put aside, and comes back -/
theorem aside_m (h : MI mo N r q b g c t l) : ∃ N1, f_X9_putAside mo N = some N1 ∧ MI mo N1 r q b g c t l ∧ LkM mo N N1 ∧ ∀ s : Nat → Int32, (∀ i, 626 ≤ i → s i = r i) → f_X9_putBack mo (sA N1 (mo + 1) s) = some N1 := by
  have e0 : sA (sA N (mo + 1) r) (mo + 4) (mI N (mo + 4)) = N := by
    have e1 : sA N (mo + 1) r = N := by rw [← h.1.1, sA_eq]
    rw [e1, sA_eq]
  have go := aside_go (M := N) (mo := mo) (r := r) 626 0 lfuel (mI N (mo + 4)) rfl (by decide)
  rw [e0] at go
  generalize hA : zUp (mI N (mo + 4)) r 0 626 = A at go
  have e1 : sA N (mo + 1) r = N := by rw [← h.1.1, sA_eq]
  rw [e1] at go
  have lk : LkM mo N (sA N (mo + 4) A) := ⟨fun b hb => mI_sAn hb, rfl⟩
  refine ⟨sA N (mo + 4) A, go, h.lk lk, lk, fun s hs => ?_⟩
  have bk := back_go (M := N) (mo := mo) (a := A) 626 0 lfuel s rfl (by decide)
  have ez : zUp s A 0 626 = r := by
    funext i
    unfold zUp
    by_cases hi : i < 626
    · rw [if_pos ⟨by omega, hi⟩, ← hA]
      unfold zUp
      rw [if_pos ⟨by omega, hi⟩]
    · rw [if_neg (fun z => hi z.2)]
      exact hs i (by omega)
  have e2 : sA (sA N (mo + 4) A) (mo + 1) r = sA N (mo + 4) A := by
    have e3 : mI (sA N (mo + 4) A) (mo + 1) = r := by rw [mI_sAn (by omega)]; exact h.1.1
    rw [← e3, sA_eq]
  rw [ez, e2] at bk
  exact bk
theorem pv_hi (hv : v < 3) (hi : 626 ≤ i) : pv v r w i = r i := by
  unfold pv
  rw [if_neg (by omega)]
/-- what would be heard -/
theorem would_T (h : CI x M n r q b g c t l) (hv : v < 3) (hj : j ≤ 3) (hn : n < 9990) : ∃ y M', f_X8_tellIfAllCame x (x + 5 + 44 * v) (nI j) M = some (y, M') ∧ Lk x M M' ∧ ∀ N, MI (x + 1095) N r q b g c t l → ∃ N', f_X9_delivered (x + 1095) (nI v) (nI j) N = some (y, N') ∧ LkM (x + 1095) N N' := by
  obtain ⟨hV, hW, hB, hS, hR⟩ := h.rv hv
  obtain ⟨m, hm, h38, -⟩ := hB.2.2
  obtain ⟨M1, e1, lk1⟩ := come_c h hv h38 hm hn
  have ear := hV.ear.2.2
  have far : ∀ k, mI (sHr M1 (x + 277) (zDA m (vo r v))) (x + 5 + 44 * v + 9) k = mI M (x + 5 + 44 * v + 9) k := fun k => by rw [mI_sHn (by omega) (by omega), lk1.1 _ (by omega) (by omega) (by omega)]
  -- the reference, of a place
  have md : ∀ (N : Mem) (kk : Nat), kk < 207 → MI (x + 1095) N r q b g c t l → ∃ N', LkM (x + 1095) N N' ∧ ∀ p2 : Int32, (vb (f_X9_putAside (x + 1095) N) fun M13 => f_X9_delivered_b26 (x + 1095) (nI v) p2 (nI kk) M13) = some (if p2 = 0 then zDA m (vo r v) 26 else zDA m (vo r v) kk - vo r v kk, N') := by
    intro N kk hk hN
    obtain ⟨N1, a1, a2, a3, a4⟩ := aside_m hN
    refine ⟨N1, a3, fun p2 => ?_⟩
    have am := all_m (N := N1) (mo := x + 1095) (v := v) (r := r) a2.1.2 hv m lfuel n (vo r v) (by unfold lfuel; omega) (by omega) hm hB h38
    rw [a2.eq v] at am
    have o1 : f_X9_of (x + 1095) (nI v) (nI kk) N1 = some (vo r v kk) := by
      have o := of_v (M := N1) (mo := x + 1095) (v := v) (r := r) (w := vo r v) (p := nI kk) rfl hv hk
      rw [a2.eq v] at o
      exact o
    have o2 : f_X9_of (x + 1095) (nI v) (nI kk) (sA N1 (x + 1095 + 1) (pv v r (zDA m (vo r v)))) = some (zDA m (vo r v) kk) := of_v rfl hv hk
    have bk := a4 (pv v r (zDA m (vo r v))) fun i hi => pv_hi hv hi
    have am' : f_X9_deliverAll (x + 1095) (nI v) N1 = _ := am
    rw [a1, vb_s]
    unfold f_X9_delivered_b26 f_X9_delivered_b63
    rw [o1, vb_s, am', vb_s]
    by_cases hp : p2 = 0
    · rw [if_pos hp, if_pos hp, of_l 26 hv (by decide), vb_s, bk, vb_s]
    · rw [if_neg hp, if_neg hp, o2, vb_s, bk, vb_s]
  unfold f_X8_tellIfAllCame f_X9_delivered
  rw [e1, vb_s]
  match j, hj with
  | 0, _ =>
    refine ⟨_, _, if_pos (by decide), lk1.trans Lk.sHr, fun N hN => ?_⟩
    obtain ⟨N', l1, l2⟩ := md N 32 (by decide) hN
    refine ⟨N', ?_, l1⟩
    simp only [show ¬ nI 0 = 1 by decide, show ¬ nI 0 = 2 by decide, if_false]
    rw [rH0]
    exact (l2 (nI 0)).trans (by rw [if_pos (show nI 0 = 0 by decide)])
  | 1, _ =>
    refine ⟨_, _, by rw [if_neg (by decide), if_pos (by decide), far, ear 6 (by decide) (by decide), r6], lk1.trans Lk.sHr, fun N hN => ?_⟩
    obtain ⟨N', l1, l2⟩ := md N 33 (by decide) hN
    refine ⟨N', ?_, l1⟩
    simp only [show nI 1 = 1 by decide, if_true]
    exact (l2 1).trans (by rw [if_neg (by decide)]; rfl)
  | 2, _ =>
    refine ⟨_, _, by rw [if_neg (by decide), if_neg (by decide), if_pos (by decide), far, ear 3 (by decide) (by decide), r3], lk1.trans Lk.sHr, fun N hN => ?_⟩
    obtain ⟨N', l1, l2⟩ := md N 30 (by decide) hN
    refine ⟨N', ?_, l1⟩
    simp only [show ¬ nI 2 = 1 by decide, show nI 2 = 2 by decide, if_true, if_false, show ¬ (2 : Int32) = 1 by decide]
    exact (l2 2).trans (by rw [if_neg (by decide)]; rfl)
  | 3, _ =>
    refine ⟨_, _, by rw [if_neg (by decide), if_neg (by decide), if_neg (by decide), far, ear 5 (by decide) (by decide), r5], lk1.trans Lk.sHr, fun N hN => ?_⟩
    obtain ⟨N', l1, l2⟩ := md N 32 (by decide) hN
    refine ⟨N', ?_, l1⟩
    simp only [show ¬ nI 3 = 1 by decide, show ¬ nI 3 = 2 by decide, if_false]
    exact (l2 (nI 3)).trans (by rw [if_neg (by decide)]; rfl)
/-! why -/
theorem rea_go {qq : Nat} {x4 : Int32} (hT : mI N (mo + 5) = cSTEPS) (hv : v < 3) (hq : qq ≤ 8) (h4 : w 4 = nI qq) (hi : ∃ m, m < 25 ∧ w 27 = nI m) : ∀ (d j n : Nat), j + d = qq → d < n → f_X9_reason_b74 mo (nI v) n x4 (nI j) (sA N (mo + 1) (pv v r (upd (upd w 26 (zFl (fun k => w (5 + k)) j (w 26, w 27)).1) 27 (zFl (fun k => w (5 + k)) j (w 26, w 27)).2))) = f_X9_reason_b74 mo (nI v) 1 x4 (nI qq) (sA N (mo + 1) (pv v r (upd (upd w 26 (zFl (fun k => w (5 + k)) qq (w 26, w 27)).1) 27 (zFl (fun k => w (5 + k)) qq (w 26, w 27)).2))) := by
  intro d
  induction d with
  | zero =>
    intro j n hj hn
    obtain ⟨n, rfl⟩ : ∃ k, n = k + 1 := ⟨n - 1, by omega⟩
    have hj : j = qq := by omega
    subst hj
    rw [f_X9_reason_b74, f_X9_reason_b74, of_l 4 hv (by decide), vb_s, vb_s, upd_ne (by decide), upd_ne (by decide), h4, if_pos (nI_le (Nat.le_refl _) (by omega)), if_pos (nI_le (Nat.le_refl _) (by omega))]
  | succ d ih =>
    intro j n hj hn
    obtain ⟨n, rfl⟩ : ∃ k, n = k + 1 := ⟨n - 1, by omega⟩
    obtain ⟨m, hm1, hm2⟩ := zFl_i (f := fun k => w (5 + k)) (k := j) (q := (w 26, w 27)) hi
    have hfo := follow_v (M := N) (mo := mo) (v := v) (r := r) (n := m) (p := 26) (c := w (5 + j)) (w := upd (upd w 26 (zFl (fun k => w (5 + k)) j (w 26, w 27)).1) 27 (zFl (fun k => w (5 + k)) j (w 26, w 27)).2) (e := 26) rfl hv (by decide) (by rw [upd_eq]; exact hm2) hm1
    rw [f_X9_reason_b74, of_l 4 hv (by decide), vb_s, upd_ne (by decide), upd_ne (by decide), h4, if_neg (nI_ge (by omega) (by omega)), of_v (p := 5 + nI j) (k := 5 + j) (zA (a := 5)) hv (by omega), vb_s, upd_ne (by omega), upd_ne (by omega), hfo, vb_s, nb_s, ← nI_succ, hT]
    have ez : zF cSTEPS (upd (upd w 26 (zFl (fun k => w (5 + k)) j (w 26, w 27)).1) 27 (zFl (fun k => w (5 + k)) j (w 26, w 27)).2) 26 (w (5 + j)) = upd (upd w 26 (zFl (fun k => w (5 + k)) (j + 1) (w 26, w 27)).1) 27 (zFl (fun k => w (5 + k)) (j + 1) (w 26, w 27)).2 := by
      unfold zF
      rw [upd_eq, upd_ne (show 26 ≠ 27 by decide), upd_eq]
      show upd (upd (upd (upd w 26 _) 27 _) 26 _) 27 _ = _
      rw [upd_cm (k := 27) (j := 26) (by decide), upd_upd, upd_upd]
      rfl
    rw [ez]
    exact ih (j + 1) n (by omega) (by omega)
theorem why_T (h : CI x M n r q b g c t l) (hv : v < 3) (hn : n < 9990) : ∃ y M', f_X8_tellWhy x (x + 5 + 44 * v) M = some (y, M') ∧ Lk x M M' ∧ ∀ N, MI (x + 1095) N r q b g c t l → ∃ N', f_X9_reason (x + 1095) (nI v) N = some (y, N') ∧ LkM (x + 1095) N N' := by
  obtain ⟨hV, hW, hB, hS, hR⟩ := h.rv hv
  obtain ⟨m, hm, h38, -⟩ := hB.2.2
  obtain ⟨M1, e1, lk1⟩ := come_c h hv h38 hm hn
  obtain ⟨hV1, -⟩ := (h.lk lk1).rv hv
  obtain ⟨aB, aL, ⟨Z, Z', z1, z2, z3, z4⟩, L, L', l1, l2, l3, l4⟩ := all_B m n (vo r v) (by omega) hm hB h38
  have ear := hV1.ear.2.2
  obtain ⟨w0, w1, -⟩ := hV1.cells
  have k21 := hV1.cnt.2.1
  obtain ⟨⟨⟨qq, q1, q2, q3, -, q7, -⟩, -⟩, -⟩ := hV1
  generalize hW' : zDA m (vo r v) = W' at *
  generalize hM3 : sHr M1 (x + 277) W' = M3 at *
  have far : ∀ b, b ≠ x + 277 → b ≠ x + 278 → mI M3 b = mI M1 b := fun b h1 h2 => by rw [← hM3]; exact mI_sHn h1 h2
  have fz : zFl (mI M3 (x + 5 + 44 * v + 1 + 2 + 1)) qq (W' 26, W' 27) = zFl (fun k => vo r v (5 + k)) qq (W' 26, W' 27) := zFl_congr fun j hj => by
    rw [far _ (by omega) (by omega)]
    exact (q7 j hj).1
  generalize hz : zFl (fun k => vo r v (5 + k)) qq (W' 26, W' 27) = zz at *
  have n276 : x + 5 + 44 * v + 1 + 2 ≠ x + 276 := by omega
  have n276' : x + 5 + 44 * v + 1 + 2 + 1 ≠ x + 276 := by omega
  have fa : f_X0_followAll (x + 276) (x + 5 + 44 * v + 1 + 2) (sE M3 (x + 276) (W' 26, W' 27)) = some (sE M3 (x + 276) zz) := by
    rw [all_c (q := qq) n276 n276' q1 (by rw [mI_sEn n276, far _ (by omega) (by omega)]; exact q3) (by rw [mI_sE1]; exact aB.2), sE_sE, mI_sEn n276', mI_sE0, mI_sE1]
    show some (sE M3 (x + 276) (zFl (mI M3 (x + 5 + 44 * v + 1 + 2 + 1)) qq (W' 26, W' 27))) = _
    rw [fz]
  have wa : f_X8_wouldAgree x (x + 5 + 44 * v) M3 = some (if zz.1 = vo r v 0 ∧ zz.2 = vo r v 1 then 1 else 0, sE M3 (x + 276) zz) := by
    unfold f_X8_wouldAgree
    have g0 : mI M3 (x + 277 + 1) 0 = W' 26 := by rw [← hM3]; exact rH0
    have g1 : mI M3 (x + 277 + 1) 1 = W' 27 := by rw [← hM3]; exact rH1
    rw [ecopy_c, vb_s, g0, g1, fa, vb_s, isAt_c, vb_s, mI_sE0, mI_sE1, mI_sEn (show x + 5 + 44 * v + 1 + 1 ≠ x + 276 by omega), far _ (show x + 5 + 44 * v + 1 + 1 ≠ x + 277 by omega) (by omega)]
    have w0' : mI M1 (x + 5 + 44 * v + 1 + 1) 0 = vo r v 0 := w0
    have w1' : mI M1 (x + 5 + 44 * v + 1 + 1) 1 = vo r v 1 := w1
    rw [w0', w1']
    refine gd_s ?_
    split
    · exact Or.inr rfl
    · exact Or.inl rfl
  have lk3 : Lk x M (sE M3 (x + 276) zz) := (lk1.trans (by rw [← hM3]; exact Lk.sHr)).trans Lk.sE
  have c4 : mI (sE M3 (x + 276) zz) (x + 277) 4 = W' 31 := by rw [mI_sEn (by omega), ← hM3]; exact r4
  have c3 : mI (sE M3 (x + 276) zz) (x + 277) 3 = W' 30 := by rw [mI_sEn (by omega), ← hM3]; exact r3
  have c1 : mI (sE M3 (x + 276) zz) (x + 277) 1 = W' 28 := by rw [mI_sEn (by omega), ← hM3]; exact r1
  have d4 : mI (sE M3 (x + 276) zz) (x + 5 + 44 * v + 9) 4 = vo r v 31 := by rw [mI_sEn (by omega), far _ (by omega) (by omega)]; exact ear 4 (by decide) (by decide)
  have d3 : mI (sE M3 (x + 276) zz) (x + 5 + 44 * v + 9) 3 = vo r v 30 := by rw [mI_sEn (by omega), far _ (by omega) (by omega)]; exact ear 3 (by decide) (by decide)
  have d5 : mI (sE M3 (x + 276) zz) (x + 5 + 44 * v + 1) 5 = vo r v 21 := by rw [mI_sEn (by omega), far _ (by omega) (by omega)]; exact k21
  refine ⟨if zz.1 = vo r v 0 ∧ zz.2 = vo r v 1 then 0 else if W' 31 = vo r v 31 ∧ W' 30 = vo r v 30 ∧ W' 28 = vo r v 21 then 2 else 1, sE M3 (x + 276) zz, ?_, lk3, fun N hN => ?_⟩
  · unfold f_X8_tellWhy f_X8_tellWhy_b71 f_X8_tellWhy_b70 f_X8_tellWhy_b71
    rw [e1, vb_s, wa, cb_s, c4, c3, c1, d4, d3, d5]
    by_cases ag : zz.1 = vo r v 0 ∧ zz.2 = vo r v 1
    · rw [if_pos ag, if_neg (by decide), if_pos ag]
    · rw [if_neg ag, if_pos rfl, if_neg ag]
      by_cases h1 : W' 31 = vo r v 31
      · rw [if_pos h1]
        by_cases h2 : W' 30 = vo r v 30
        · rw [if_pos h2]
          by_cases h3 : W' 28 = vo r v 21
          · rw [if_pos h3, if_neg (by decide), if_pos ⟨h1, h2, h3⟩]
          · rw [if_neg h3, if_pos rfl, if_neg (fun z => h3 z.2.2)]
        · rw [if_neg h2, if_pos rfl, if_neg (fun z => h2 z.2.1)]
      · rw [if_neg h1, if_pos rfl, if_neg (fun z => h1 z.1)]
  · obtain ⟨N1, a1, a2, a3, a4⟩ := aside_m hN
    refine ⟨N1, ?_, a3⟩
    have am := all_m (N := N1) (mo := x + 1095) (v := v) (r := r) a2.1.2 hv m lfuel n (vo r v) (by unfold lfuel; omega) (by omega) hm hB h38
    rw [a2.eq v, hW'] at am
    have am' : f_X9_deliverAll (x + 1095) (nI v) N1 = some (sA N1 (x + 1095 + 1) (pv v r W')) := am
    have W4 : W' 4 = nI qq := (aL 4 (by decide)).trans q2
    have fz2 : zFl (fun k => W' (5 + k)) qq (W' 26, W' 27) = zz := by
      rw [← hz]
      exact zFl_congr fun j hj => aL (5 + j) (by omega)
    have tail : ∀ x4 : Int32, f_X9_reason_b69 (x + 1095) (nI v) x4 (sA N1 (x + 1095 + 1) (pv v r W')) = some (if zz.1 = vo r v 0 ∧ zz.2 = vo r v 1 then 0 else if x4 = 0 then 2 else 1, N1) := by
      intro x4
      have go := rea_go (N := N1) (mo := x + 1095) (v := v) (r := r) (w := W') (x4 := x4) a2.1.2 hv q1 W4 aB.2 qq 0 lfuel (by omega) (by unfold lfuel; omega)
      have s0 : upd (upd W' 26 (zFl (fun k => W' (5 + k)) 0 (W' 26, W' 27)).1) 27 (zFl (fun k => W' (5 + k)) 0 (W' 26, W' 27)).2 = W' := by
        show upd (upd W' 26 (W' 26)) 27 (W' 27) = W'
        rw [upd_self, upd_self]
      rw [s0, fz2] at go
      have bk := a4 (pv v r (upd (upd W' 26 zz.1) 27 zz.2)) fun i hi => pv_hi hv hi
      unfold f_X9_reason_b69
      refine Eq.trans go ?_
      unfold f_X9_reason_b74 f_X9_reason_b143 f_X9_reason_b144
      rw [of_l 4 hv (by decide), vb_s, upd_ne (by decide), upd_ne (by decide), W4, if_pos (nI_le (Nat.le_refl _) (by omega)), of_l 26 hv (by decide), vb_s, upd_ne (show 26 ≠ 27 by decide), upd_eq, of_l 0 hv (by decide), vb_s, upd_ne (show 0 ≠ 27 by decide), upd_ne (show 0 ≠ 26 by decide), aL 0 (by decide), of_l 27 hv (by decide), vb_s, upd_eq, of_l 1 hv (by decide), vb_s, upd_ne (show 1 ≠ 27 by decide), upd_ne (show 1 ≠ 26 by decide), aL 1 (by decide), bk, vb_s, vb_s]
      by_cases g0 : zz.1 = vo r v 0
      · rw [if_pos g0]
        by_cases g1 : zz.2 = vo r v 1
        · rw [if_pos g1, if_neg (show ¬ (1 : Int32) = 0 by decide), if_pos ⟨g0, g1⟩]
        · rw [if_neg g1, if_pos (show (0 : Int32) = 0 from rfl), if_neg (show ¬ (zz.1 = vo r v 0 ∧ zz.2 = vo r v 1) from fun z => g1 z.2)]
          split <;> rfl
      · rw [if_neg g0, if_pos (show (0 : Int32) = 0 from rfl), if_neg (show ¬ (zz.1 = vo r v 0 ∧ zz.2 = vo r v 1) from fun z => g0 z.1)]
        split <;> rfl
    unfold f_X9_reason f_X9_reason_b64
    rw [a1, vb_s, of_m 31 a2 hv (by decide), vb_s, of_m 30 a2 hv (by decide), vb_s, am', vb_s, of_l 31 hv (by decide), vb_s, of_l 30 hv (by decide), vb_s, of_l 28 hv (by decide), vb_s, of_l 21 hv (by decide), vb_s, aL 21 (by decide), tail, tail]
    by_cases ag : zz.1 = vo r v 0 ∧ zz.2 = vo r v 1
    · simp only [if_pos ag]
      split
      · rfl
      · split
        · rfl
        · split <;> rfl
    · simp only [if_neg ag]
      by_cases h1 : vo r v 31 < W' 31
      · rw [if_pos h1, if_neg (by decide), if_neg (fun z => by rw [z.1] at h1; exact absurd h1 (by simp))]
      · have e1 : W' 31 = vo r v 31 := by
          rw [l1, l2] at h1 ⊢
          have h2 : ¬ L < L' := fun z => h1 ((nI_ltI (by omega) (by omega)).mpr z)
          rw [show L' = L by omega]
        rw [if_neg h1]
        by_cases h3 : vo r v 30 < W' 30
        · rw [if_pos h3, if_neg (by decide), if_neg (fun z => by rw [z.2.1] at h3; exact absurd h3 (by simp))]
        · have e3 : W' 30 = vo r v 30 := by
            rw [z1, z2] at h3 ⊢
            have h2 : ¬ Z < Z' := fun z => h3 ((nI_ltI (by omega) (by omega)).mpr z)
            rw [show Z' = Z by omega]
          rw [if_neg h3]
          by_cases h5 : W' 28 = vo r v 21
          · rw [if_pos h5, if_pos (show W' 31 = vo r v 31 ∧ W' 30 = vo r v 30 ∧ W' 28 = vo r v 21 from ⟨e1, e3, h5⟩)]
            rfl
          · rw [if_neg h5, if_neg (by decide), if_neg (fun z => h5 z.2.2)]
end WOULD
