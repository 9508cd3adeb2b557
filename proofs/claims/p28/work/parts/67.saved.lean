/-! THE CLASS. Saved states, the snapshot, sums -/
def svG (g : Nat → Nat → Int32) (c : Nat) (r : Nat → Int32) : Nat → Nat → Int32 := if c = 6 then (fun j => if j = 5 then r else g (j + 1)) else fun j => if j = c then r else g j
def svC (c : Nat) : Nat := if c = 6 then 6 else c + 1
section CSAVED
variable {M M1 M' : Mem} {x a s d n m c l v e : Nat} {r q r' w t : Nat → Int32} {g : Nat → Nat → Int32} {b : Bool} {y p : Int32}
theorem WS.of (h : WS M s) (h2 : M'.2 = M.2) (hE : StEq M' d M s) (hd : WS M d) : WS M' d := fun v hv => (h v hv).of h2 (hE.1 v hv) (hd v hv)
theorem old_go {q1 : Nat} : ∀ (d j n : Nat) (M : Mem), j + d = 5 → d < n → ∃ M', f_X8_dropOldestSaved_b9 x n q1 (nI (j + 1)) M = some M' ∧ (∀ b k, mI M' b k = if b = x ∧ k = 4 then 5 else mI M b k) ∧ (∀ b, b ≠ x + 273 → mR M' b = mR M b) ∧ (∀ i, i < j → mR M' (x + 273) i = mR M (x + 273) i) ∧ (∀ i, j ≤ i → i < 5 → mR M' (x + 273) i = mR M (x + 273) (i + 1)) ∧ mR M' (x + 273) 5 = q1 ∧ M'.2.2 = M.2.2 := by
  intro d
  induction d with
  | zero =>
    intro j n M hj hn
    obtain ⟨n, rfl⟩ : ∃ k, n = k + 1 := ⟨n - 1, by omega⟩
    have hj : j = 5 := by omega
    subst hj
    have e5 : ((6 : Int32) - 1).toNatClampNeg = 5 := by decide
    refine ⟨sI (sR M (x + 273) 5 q1) x 4 5, ?_, fun b k => ?_, fun b hb => ?_, fun i hi => ?_, fun i h1 h2 => by omega, ?_, rfl⟩
    · rw [f_X8_dropOldestSaved_b9, if_pos (show (6 : Int32) ≤ nI (5 + 1) by decide), gd_s (by decide), nb_s, e5, nb_s]
      rfl
    · rw [mI_sI]
      rfl
    · funext j
      show mR (sR M (x + 273) 5 q1) b j = mR M b j
      rw [mR_sR, if_neg (fun z => hb z.1)]
    · show mR (sR M (x + 273) 5 q1) (x + 273) i = _
      rw [mR_sR, if_neg (by omega)]
    · show mR (sR M (x + 273) 5 q1) (x + 273) 5 = _
      rw [mR_sR, if_pos ⟨rfl, rfl⟩]
  | succ d ih =>
    intro j n M hj hn
    obtain ⟨n, rfl⟩ : ∃ k, n = k + 1 := ⟨n - 1, by omega⟩
    obtain ⟨M', e, g1, g2, g3, g4, g5, g6⟩ := ih (j + 1) n (sR M (x + 273) j (mR M (x + 273) (j + 1))) (by omega) (by omega)
    refine ⟨M', ?_, fun b k => g1 b k, fun b hb => ?_, fun i hi => ?_, fun i h1 h2 => ?_, g5, g6⟩
    · rw [f_X8_dropOldestSaved_b9, if_neg (show ¬ (6 : Int32) ≤ nI (j + 1) from nI_ge (b := 6) (by omega) (by decide)), gd_s (nI_ix (by omega) (by decide)), nb_s, nI_pred, gd_s (nI_ix (by omega) (by decide)), nb_s, nI_clamp (by omega), nI_clamp (by omega), nb_s, ← nI_succ]
      exact e
    · rw [g2 b hb]
      funext j2
      rw [mR_sR, if_neg (fun z => hb z.1)]
    · rw [g3 i (by omega), mR_sR, if_neg (by omega)]
    · by_cases hij : i = j
      · subst hij
        rw [g3 i (by omega), mR_sR, if_pos ⟨rfl, rfl⟩]
      · rw [g4 i (by omega) h2, mR_sR, if_neg (by omega)]
theorem old_s (h : CI x M n r q b g 6 t l) : ∃ M', f_X8_dropOldestSaved x M = some M' ∧ CI x M' n r q b (fun j => g (j + 1)) 5 t l ∧ Out x M M' := by
  obtain ⟨M', e, g1, g2, -, g4, g5, g6⟩ := old_go (x := x) (q1 := mR M (x + 273) 0) 5 0 lfuel M rfl (by decide)
  obtain ⟨a1, ⟨a2, a3⟩, ⟨a4, a5, a6⟩, ⟨a7, a8⟩, ⟨a9, a10, a11⟩, a12, a13, a14⟩ := h
  have same : ∀ b, b ≠ x → mI M' b = mI M b := fun b hb => by funext k; rw [g1, if_neg (fun z => hb z.1)]
  have rot : ∀ j, j < 6 → ∃ i, i < 6 ∧ (j < 5 ∧ i = j + 1 ∨ j = 5 ∧ i = 0) ∧ mR M' (x + 273) j = mR M (x + 273) i := fun j hj => by
    by_cases h : j < 5
    · exact ⟨j + 1, by omega, by omega, g4 j (by omega) h⟩
    · have : j = 5 := by omega
      subst this
      exact ⟨0, by omega, by omega, g5⟩
  refine ⟨M', ?_, ⟨a1.fr a9 (fun b _ _ => same b (by omega)) (fun b _ _ => g2 b (by omega)), ⟨by rw [g1, if_neg (by omega)]; exact a2, fun hbt => (a3 hbt).fr a10 (fun b _ _ => same b (by omega)) (fun b _ _ => g2 b (by omega))⟩, ⟨by rw [g1, if_pos ⟨rfl, rfl⟩]; rfl, by decide, fun j hj => ?_⟩, ⟨fun j hj => ?_, fun i j hi hj he => ?_⟩, ⟨a9.fr (fun b _ _ => same b (by omega)) (fun b _ _ => g2 b (by omega)), a10.fr (fun b _ _ => same b (by omega)) (fun b _ _ => g2 b (by omega)), fun i hi => (a11 i hi).fr (fun b _ _ => same b (by omega)) (fun b _ _ => g2 b (by omega))⟩, by rw [same _ (by omega)]; exact a12, a13, fun i hi => by rw [same _ (by omega)]; exact a14 i hi⟩, ⟨fun b hb => same b (by omega), fun b hb => g2 b (by omega), g6⟩⟩
  · unfold f_X8_dropOldestSaved
    rw [gd_s (by decide), nb_s, n00]
    exact e
  · obtain ⟨i, hi, ei⟩ := a7 (j + 1) (by omega)
    rw [g4 j (by omega) hj]
    have hw := a11 i hi
    rw [← ei] at hw
    exact (a6 (j + 1) (by omega)).fr hw (fun b _ _ => same b (by omega)) (fun b _ _ => g2 b (by omega))
  · obtain ⟨i, hi, -, e2⟩ := rot j hj
    rw [e2]
    exact a7 i hi
  · obtain ⟨i2, hi2, hc1, e2⟩ := rot i hi
    obtain ⟨j2, hj2, hc2, e3⟩ := rot j hj
    rw [e2, e3] at he
    have := a8 i2 j2 hi2 hj2 he
    omega
theorem save_1 (h : CI x M n r q b g c t l) (hc : c < 6) : ∃ M', f_X8_saveLive_b16 x M = some M' ∧ CI x M' n r q b (fun j => if j = c then r else g j) (c + 1) t l ∧ Out x M M' := by
  obtain ⟨a1, ⟨a2, a3⟩, ⟨a4, a5, a6⟩, ⟨a7, a8⟩, ⟨a9, a10, a11⟩, a12, a13, a14⟩ := h
  obtain ⟨i, hi, ei⟩ := a7 c hc
  obtain ⟨M1, e1, h1, h2, h3⟩ := scopy (M := M) (d := x + 279 + 136 * i) (s := x + 1) (by omega) (a11 i hi) a9
  have hR : ∀ b, mR M1 b = mR M b := fun b => mR_of2 h3
  have c4 : mI M1 x 4 = nI c := by rw [h2 x (by omega)]; exact a4
  have same : ∀ b, b ≠ x → b < x + 279 + 136 * i ∨ x + 279 + 136 * i + 136 ≤ b → mI (sI M1 x 4 (nI (c + 1))) b = mI M b := fun b hb hb2 => by rw [mI_sn hb, h2 b hb2]
  have hR' : ∀ b, mR (sI M1 x 4 (nI (c + 1))) b = mR M b := hR
  have hd : RS (sI M1 x 4 (nI (c + 1))) (x + 279 + 136 * i) n r := (a1.tr h1).fr (WS.of a9 h3 h1 (a11 i hi)) (fun b _ _ => mI_sn (by omega)) (fun b _ _ => rfl)
  refine ⟨sI M1 x 4 (nI (c + 1)), ?_, ⟨a1.fr a9 (fun b _ _ => same b (by omega) (by omega)) (fun b _ _ => hR' b), ⟨?_, fun hbt => (a3 hbt).fr a10 (fun b _ _ => same b (by omega) (by omega)) (fun b _ _ => hR' b)⟩, ⟨mI_ss, by omega, fun j hj => ?_⟩, ⟨fun j hj => by rw [hR']; exact a7 j hj, fun i j hi hj => by rw [hR']; exact a8 i j hi hj⟩, ⟨a9.fr (fun b _ _ => same b (by omega) (by omega)) (fun b _ _ => hR' b), a10.fr (fun b _ _ => same b (by omega) (by omega)) (fun b _ _ => hR' b), fun j hj => ?_⟩, by rw [same _ (by omega) (by omega)]; exact a12, a13, fun j hj => by rw [same _ (by omega) (by omega)]; exact a14 j hj⟩, ⟨fun b hb => same b (by omega) (by omega), fun b _ => hR' b, by show M1.2.2 = M.2.2; rw [h3]⟩⟩
  · unfold f_X8_saveLive_b16
    rw [a4, if_neg (nI_pos (by omega)), if_pos (show nI c < (6 : Int32) from nI_lt (b := 6) hc (by decide)), gd_s (nI_ix hc (by decide)), nb_s, nI_clamp (by omega), ei, e1, vb_s, nb_s, c4, nI_succ]
  · rw [mI_sk (by decide), h2 x (by omega)]; exact a2
  · rw [hR']
    show RS _ _ n (if j = c then r else g j)
    by_cases hjc : j = c
    · subst hjc
      rw [if_pos rfl, ei]
      exact hd
    · rw [if_neg hjc]
      obtain ⟨i2, hi2, ei2⟩ := a7 j (by omega)
      have hne : i2 ≠ i := fun z => hjc (a8 j c (by omega) hc (by rw [ei, ei2, z]))
      have hw := a11 i2 hi2
      rw [← ei2] at hw
      exact (a6 j (by omega)).fr hw (fun b _ _ => same b (by omega) (by omega)) (fun b _ _ => hR' b)
  · by_cases hji : j = i
    · subst hji
      exact (WS.of a9 h3 h1 (a11 j hj)).fr (fun b _ _ => mI_sn (by omega)) (fun b _ _ => rfl)
    · exact (a11 j hj).fr (fun b _ _ => same b (by omega) (by omega)) (fun b _ _ => hR' b)
theorem save_c (h : CI x M n r q b g c t l) : ∃ M', f_X8_saveLive x M = some M' ∧ CI x M' n r q b (svG g c r) (svC c) t l ∧ Out x M M' := by
  have h4 := h.2.2.1.1
  have h5 := h.2.2.1.2.1
  unfold f_X8_saveLive svG svC
  rw [h4]
  by_cases hc : c = 6
  · subst hc
    rw [if_neg (show ¬ nI 6 < 6 by decide), if_pos rfl, if_pos rfl]
    obtain ⟨M1, e1, h1, o1⟩ := old_s h
    obtain ⟨M2, e2, h2, o2⟩ := save_1 h1 (by decide)
    rw [e1, vb_s]
    exact ⟨M2, e2, h2, o1.trans o2⟩
  · rw [if_pos (show nI c < (6 : Int32) from nI_lt (b := 6) (by omega) (by decide)), if_neg hc, if_neg hc]
    exact save_1 h (by omega)
theorem sum_c {y0 y1 y2 : Int32} (h0 : f_X7_countedAs (x + 5) p M = some y0) (h1 : f_X7_countedAs (x + 49) p M = some y1) (h2 : f_X7_countedAs (x + 93) p M = some y2) : f_X8_sumOver x p M = some (y0 + y1 + y2) := by
  unfold f_X8_sumOver lfuel
  have z0 : (x + 1) + 1 + 3 + 44 * (0 : Int32).toNatClampNeg = x + 5 := rfl
  have z1 : (x + 1) + 1 + 3 + 44 * (0 + 1 : Int32).toNatClampNeg = x + 49 := rfl
  have z2 : (x + 1) + 1 + 3 + 44 * (0 + 1 + 1 : Int32).toNatClampNeg = x + 93 := rfl
  rw [f_X8_sumOver_b4, if_neg (by decide), gd_s (by decide), nb_s, z0, h0, vb_s, nb_s, nb_s, f_X8_sumOver_b4, if_neg (by decide), gd_s (by decide), nb_s, z1, h1, vb_s, nb_s, nb_s, f_X8_sumOver_b4, if_neg (by decide), gd_s (by decide), nb_s, z2, h2, vb_s, nb_s, nb_s, f_X8_sumOver_b4, if_pos (by decide), Int32.zero_add]
theorem said_c (h : CI x M n r q b g c t l) : f_X8_sumOver x 0 M = some (r 4) := by
  rw [← h.1.2.2]
  exact sum_c rfl rfl rfl
theorem RV.cnt (h : RV M a w) : mI M (a + 1) 6 = w 22 ∧ mI M (a + 1) 5 = w 21 ∧ mI M a 3 = w 38 ∧ mI M a 4 = w 36 ∧ mI M (a + 9) 9 = w 37 := by
  obtain ⟨⟨⟨q, q1, q2, q3, ⟨f0, f1, f2, f3, f5, f6⟩, -⟩, -, hE⟩, ⟨g3, g4⟩, -⟩ := h
  exact ⟨f6, f5, g3, g4, hE.2.2 9 (by decide) (by decide)⟩
/-- the sums of the voices -/
def suK (p : Int32) : Nat := if p = 1 then 22 else if p = 2 then 21 else if p = 3 then 38 else if p = 4 then 36 else 37
theorem cnt_c (h : RV M a w) (hp : p ≠ 0) : f_X7_countedAs a p M = some (w (suK p)) := by
  obtain ⟨h1, h2, h3, h4, h5⟩ := h.cnt
  unfold f_X7_countedAs suK
  rw [if_neg hp, h1, h2, h3, h4, h5]
  by_cases p1 : p = 1
  · rw [if_pos p1, if_pos p1]
  rw [if_neg p1, if_neg p1]
  by_cases p2 : p = 2
  · rw [if_pos p2, if_pos p2]
  rw [if_neg p2, if_neg p2]
  by_cases p3 : p = 3
  · rw [if_pos p3, if_pos p3]
  rw [if_neg p3, if_neg p3]
  by_cases p4 : p = 4
  · rw [if_pos p4, if_pos p4]
  rw [if_neg p4, if_neg p4]
def suV (r : Nat → Int32) (k : Nat) : Int32 := vo r 0 k + vo r 1 k + vo r 2 k
theorem sums_c (h : CI x M n r q b g c t l) (hp : p ≠ 0) : f_X8_sumOver x p M = some (suV r (suK p)) := by
  have h0 := (h.rv (v := 0) (by decide)).1
  have h1 := (h.rv (v := 1) (by decide)).1
  have h2 := (h.rv (v := 2) (by decide)).1
  exact sum_c (cnt_c h0 hp) (cnt_c h1 hp) (cnt_c h2 hp)
end CSAVED
