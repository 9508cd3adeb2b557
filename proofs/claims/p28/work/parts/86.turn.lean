/-! THE LAW. One turn -/
theorem Kof_all : (List.range 1101).all (fun o => (Nat.ble 1 (Kof o) && Nat.ble (Kof o) 9) || Nat.ble 1000 (Kof o)) = true := by decide +kernel
theorem Kof_in {o : Nat} (h : o < 1101) : (1 ≤ Kof o ∧ Kof o ≤ 9) ∨ 1000 ≤ Kof o := by
  have e := List.all_eq_true.mp Kof_all o (List.mem_range.mpr h)
  simp only [Bool.or_eq_true, Bool.and_eq_true, Nat.ble_eq] at e
  exact e
theorem fresh_far {G : Gt} {X : Nat} (hk : ∀ a, gK G a = gKof (gB G) a) (h : fresh G X) (hB : gB G ≤ X) : gB G + 1101 ≤ X := by
  by_cases hx : gB G + 1101 ≤ X
  · exact hx
  · refine absurd ?_ h
    rw [hk]
    unfold gKof
    rw [if_neg (by omega)]
    exact Kof_in (by omega)
theorem fresh_gN {G : Gt} {a b N : Nat} (h : fresh (gN G a N) b) : b ≠ a ∧ fresh G b := by
  have hb : b ≠ a := fun e => h (by rw [e, gN_new]; exact Or.inr (by omega))
  exact ⟨hb, fun q => h (by rw [gN_at, if_neg hb]; exact q)⟩
theorem wyR_0 {w : Nat → Int32} : ¬ wyR w < 0 := by
  unfold wyR whyR
  repeat' split
  all_goals decide
section LTURN
variable {M M1 M' N : Mem} {x s d n m c l v j k i u X W L : Nat} {r r' q w w' t f xs : Nat → Int32} {g : Nat → Nat → Int32} {b : Bool} {y p p1 p2 p3 z : Int32}
theorem slaw1_go (h : CI x M n r q b g c t l) (hI : LI x M r) (hn : n ≤ 511) (hv : v < 3) (kd Y p9 : Int32) : ∃ M1 r', f_slaw1_b124 x (x + 1095) (x + 1096) (x + 1097) (x + 1098) (x + 1099) (x + 1100) p9 xs L Y (nI v) kd M = some (Y, nI v, M1) ∧ (∃ q b g c t l, CI x M1 (n + 1) r' q b g c t l) ∧ LI x M1 r' := by
  obtain ⟨M', r', e, ⟨q', b', g', c', t', l', h'⟩, hI'⟩ := acts_l (p6 := kd) (p7 := Y) h hI hv (by omega)
  obtain ⟨M2, e2, lk⟩ := isv_l h' hI' hv (by omega)
  refine ⟨M2, r', ?_, ⟨_, _, _, _, _, _, h'.lk lk⟩, hI'.lk lk⟩
  match v, hv with
  | 0, _ =>
    have e : f_L_acts x (x + 1095) (x + 1096) (x + 1097) (x + 1098) (nI 0) kd Y M = some (1, M') := e
    have e2 : f_L_isVoice x (x + 1095) (x + 1096) (x + 1097) (x + 1098) (nI 0) M' = some (1, M2) := e2
    unfold f_slaw1_b124
    rw [if_pos (show nI 0 = 0 from rfl)]
    unfold f_slaw1_b154
    rw [e, cb_s, gd_s (by decide), if_pos (show nI 0 = 0 from rfl)]
    unfold f_slaw1_b194
    rw [e2, cb_s, gd_s (by decide)]
  | 1, _ =>
    have e : f_L_acts x (x + 1095) (x + 1096) (x + 1097) (x + 1099) (nI 1) kd Y M = some (1, M') := e
    have e2 : f_L_isVoice x (x + 1095) (x + 1096) (x + 1097) (x + 1099) (nI 1) M' = some (1, M2) := e2
    unfold f_slaw1_b124
    rw [if_neg (show ¬ nI 1 = 0 by decide), if_pos (show nI 1 = 1 from rfl)]
    unfold f_slaw1_b154
    rw [e, cb_s, gd_s (by decide), if_neg (show ¬ nI 1 = 0 by decide), if_pos (show nI 1 = 1 from rfl)]
    unfold f_slaw1_b194
    rw [e2, cb_s, gd_s (by decide)]
  | 2, _ =>
    have e : f_L_acts x (x + 1095) (x + 1096) (x + 1097) (x + 1100) (nI 2) kd Y M = some (1, M') := e
    have e2 : f_L_isVoice x (x + 1095) (x + 1096) (x + 1097) (x + 1100) (nI 2) M' = some (1, M2) := e2
    unfold f_slaw1_b124
    rw [if_neg (show ¬ nI 2 = 0 by decide), if_neg (show ¬ nI 2 = 1 by decide)]
    unfold f_slaw1_b154
    rw [e, cb_s, gd_s (by decide), if_neg (show ¬ nI 2 = 0 by decide), if_neg (show ¬ nI 2 = 1 by decide)]
    unfold f_slaw1_b194
    rw [e2, cb_s, gd_s (by decide)]
theorem slaw1_l (h : CI x M n r q b g c t l) (hI : LI x M r) (hn : n ≤ 511) (hk : k < 60) : ∃ v M1 r', v < 3 ∧ f_slaw1 x (x + 1095) (x + 1096) (x + 1097) (x + 1098) (x + 1099) (x + 1100) (nI k) xs L M = some (cellv xs L (nI k), nI v, M1) ∧ (∃ q b g c t l, CI x M1 (n + 1) r' q b g c t l) ∧ LI x M1 r' := by
  generalize hY : cellv xs L (nI k) = Y
  obtain ⟨k1, hk1, e1⟩ := low_v (p := Y >>> ((19 : Int32) &&& 31)) (n := 4) (M := M) (by decide) (by decide)
  obtain ⟨k2, hk2, e2⟩ := low_v (p := Y >>> ((21 : Int32) &&& 31)) (n := 16) (M := M) (by decide) (by decide)
  have e1 : f_L_low (Y >>> ((19 : Int32) &&& 31)) 4 M = some (nI k1) := e1
  have e2 : f_L_low (Y >>> ((21 : Int32) &&& 31)) 16 M = some (nI k2) := e2
  have em : nI k1 - nI k1 / 3 * 3 = nI (k1 % 3) := nI_rem (a := k1) (b := 3) (by omega) (by decide)
  have hv : k1 % 3 < 3 := Nat.mod_lt _ (by decide)
  unfold f_slaw1
  rw [gd_s (nI_pos' (by omega)), nb_s, hY, e1, vb_s, nb_s, em]
  by_cases h6 : (6 : Int32) ≤ nI k
  · rw [if_pos h6, e2, vb_s]
    obtain ⟨M1, r', z⟩ := slaw1_go (xs := xs) (L := L) h hI hn hv (nI k2) Y (nI k)
    exact ⟨k1 % 3, M1, r', hv, z⟩
  · rw [if_neg h6]
    obtain ⟨M1, r', z⟩ := slaw1_go (xs := xs) (L := L) h hI hn hv 9 Y (nI k)
    exact ⟨k1 % 3, M1, r', hv, z⟩
theorem slaw2_l {p4 : Int32} {pa qa ra : Nat} (h : CI x M n r q b g c t l) (hI : LI x M r) (hn : n ≤ 512) : ∃ M', f_slaw2 x (x + 1095) (x + 1096) (x + 1097) pa qa ra 1 p4 (wyR (vo r 0)) (wyR (vo r 1)) (wyR (vo r 2)) xs L M = some (1, M') ∧ Lk x M M' := by
  obtain ⟨M', e, lk⟩ := cnts_l h hI hn
  refine ⟨M', ?_, lk⟩
  have fin : ∀ (s0 s1 : Int32), s1 + s0 = agR r → f_slaw2_b316 x (x + 1095) (x + 1096) (x + 1097) pa qa ra p4 (wyR (vo r 0)) (wyR (vo r 1)) (wyR (vo r 2)) xs L s0 s1 (x + 1096) (x + 1095) x M = some (1, M') := by
    intro s0 s1 hs
    unfold f_slaw2_b316
    rw [hs, e, cb_s, gd_s (by decide)]
  unfold f_slaw2
  rw [gd_s (by decide), gd_s wyR_0, gd_s wyR_0, gd_s wyR_0]
  unfold f_slaw2_b295 f_slaw2_b305
  unfold agR at fin
  by_cases h0 : wyR (vo r 0) = 0
  · by_cases h1 : wyR (vo r 1) = 0
    · by_cases h2 : wyR (vo r 2) = 0
      · rw [if_pos h0, if_pos h1, if_pos h2]
        exact fin _ _ (by rw [if_pos h0, if_pos h1, if_pos h2]; decide)
      · rw [if_pos h0, if_pos h1, if_neg h2]
        exact fin _ _ (by rw [if_pos h0, if_pos h1, if_neg h2]; decide)
    · by_cases h2 : wyR (vo r 2) = 0
      · rw [if_pos h0, if_neg h1, if_pos h2]
        exact fin _ _ (by rw [if_pos h0, if_neg h1, if_pos h2]; decide)
      · rw [if_pos h0, if_neg h1, if_neg h2]
        exact fin _ _ (by rw [if_pos h0, if_neg h1, if_neg h2]; decide)
  · by_cases h1 : wyR (vo r 1) = 0
    · by_cases h2 : wyR (vo r 2) = 0
      · rw [if_neg h0, if_pos h1, if_pos h2]
        exact fin _ _ (by rw [if_neg h0, if_pos h1, if_pos h2]; decide)
      · rw [if_neg h0, if_pos h1, if_neg h2]
        exact fin _ _ (by rw [if_neg h0, if_pos h1, if_neg h2]; decide)
    · by_cases h2 : wyR (vo r 2) = 0
      · rw [if_neg h0, if_neg h1, if_pos h2]
        exact fin _ _ (by rw [if_neg h0, if_neg h1, if_pos h2]; decide)
      · rw [if_neg h0, if_neg h1, if_neg h2]
        exact fin _ _ (by rw [if_neg h0, if_neg h1, if_neg h2]; decide)
/-- what holds between the turns of the law -/
def LInv (x k : Nat) (M : Mem) : Prop := ∃ r q b g c t l, CI x M k r q b g c t l ∧ LI x M r
theorem turn_l {G : Gt} (hk : ∀ a, gK G a = gKof (gB G) a) (hx : gB G = x) (k : Nat) (M : Mem) (h60 : k < 60) (hI : LInv x k M) : Turn G x (x + 1095) (x + 1096) (x + 1097) (x + 1098) (x + 1099) (x + 1100) xs L k M (LInv x (k + 1)) := by
  subst hx
  obtain ⟨r, q, b, g, c, t, l, hc, hl⟩ := hI
  obtain ⟨v, M1, r', hv, e1, ⟨q', b', g', c', t', l', hc1⟩, hl1⟩ := slaw1_l (xs := xs) (L := L) hc hl (by omega) h60
  have hr : ∀ v, v < 3 → ∀ N, (CI (gB G) N (k + 1) r' q' b' g' c' t' l' ∧ LI (gB G) N r') → HR G (gB G) (gB G + 1095) (gB G + 1096) (gB G + 1097) (gB G + 1098 + v) (nI v) (wyR (vo r' v)) N (fun N => CI (gB G) N (k + 1) r' q' b' g' c' t' l' ∧ LI (gB G) N r') := by
    intro v hv N hN X Y Z hX hXB hY hYB hZ hZB
    obtain ⟨y1, y2⟩ := fresh_gN hY
    obtain ⟨z1, z2⟩ := fresh_gN hZ
    obtain ⟨z3, z4⟩ := fresh_gN z2
    exact reason_l hN.1 hN.2 hv (by omega) (fresh_far hk hX hXB) (fresh_far hk y2 hYB) (fresh_far hk z4 hZB) y1 z3 z1
  refine ⟨cellv xs L (nI k), nI v, M1, fun N => CI (gB G) N (k + 1) r' q' b' g' c' t' l' ∧ LI (gB G) N r', wyR (vo r' 0), wyR (vo r' 1), wyR (vo r' 2), e1, ⟨hc1, hl1⟩, fun N hN => ?_, hr 0 (by decide), hr 1 (by decide), hr 2 (by decide), fun N hN => ?_⟩
  · obtain ⟨o4, o5, o6, o9, M2, e2, f2⟩ := would_l (z := cellv xs L (nI k) >>> ((3 : Int32) &&& 31)) hN.1 hN.2 hv
    exact ⟨o4, o5, o6, o9, M2, e2, fun X hX hXB => f2 X (fresh_far hk hX hXB)⟩
  · obtain ⟨N', e3, lk⟩ := slaw2_l (xs := xs) (L := L) (p4 := nI k) (pa := gB G + 1098) (qa := gB G + 1099) (ra := gB G + 1100) hN.1 hN.2 (by omega)
    exact ⟨N', e3, r', q', b', g', c', t', l', hN.1.lk lk, hN.2.lk lk⟩
end LTURN
