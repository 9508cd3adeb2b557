/-! THE LAW. What holds ahead of each turn; the turns of the deeds -/
def Inv (x k : Nat) (M : Mem) : Prop := ∃ r q b g c t l, l ≤ k ∧ CI x M (k - l) r q b g c t l ∧ MI (x + 1095) M r q b g c t l
def lawF (mo o : Nat) (fm : Mem → Option (Int32 × Mem)) : Int32 → Mem → Option Mem := fun r4 M5 => cb (fm M5) fun r9 M10 => vb (f_X9_thrown mo M10) fun r12 => if r12 = r4 then (if r4 = 0 then (gd (ix 0 1) <| if (lg_cmp (mJ M10 o) r9.toInt64) = 0 then (some M10) else (none)) else (some M10)) else (none)
section LAWS
variable {M M1 M' : Mem} {x a s d n n' m c c' l l' v e k L : Nat} {r r' q q' w t t' f : Nat → Int32} {g g' : Nat → Nat → Int32} {b b' : Bool} {y p p1 p2 z : Int32} {xs : Nat → Int32} {oC : Option (Nat × Int32 × Mem)} {hs : Nat → Nat} {fm : Mem → Option (Int32 × Mem)}
theorem cmp_0 {z : Int64} : lg_cmp z z = 0 := by
  unfold lg_cmp
  rw [if_neg (fun h => absurd h (by simp)), if_pos rfl]
theorem CI.after (h : CI x M n r q b g c t l) (hO : OutM (x + 1095) M M') : CI x M' n r q b g c t l := h.fr (fun b _ h2 _ _ _ _ => hO.1 b (by omega)) (fun b _ _ => by show M'.2.1 b = M.2.1 b; rw [hO.2.1]) (by rw [hO.1 _ (by omega)])
theorem law_ret (hI : MI (x + 1095) M r q b g c t l) (hC : CR x M oC 0 y n' r' q' b' g' c' t' l') (hM : ∀ N, MI (x + 1095) N r q b g c t l → ∃ r2 q2, MR (x + 1095) N (fm N) 0 y r2 q2 b' g' c' t' l' ∧ (∀ i, i < 626 → r' i = r2 i) ∧ (b' = true → ∀ i, i < 626 → q' i = q2 i)) (hl : l' ≤ k + 1) (hn : n' ≤ k + 1 - l') : ∃ M', cb (wb oC hs (fun r N => sJ N (x + 1105) r.toInt64)) (lawF (x + 1095) (x + 1105) fm) = some M' ∧ Inv x (k + 1) M' := by
  obtain ⟨M1, e1, h1, o1⟩ := hC
  have hN : MI (x + 1095) (sJ M1 (x + 1105) y.toInt64) r q b g c t l := hI.out fun b hb => o1.1 b (by omega)
  obtain ⟨r2, q2, ⟨M2, e2, h2, o2, k2⟩, hr, hq⟩ := hM _ hN
  refine ⟨M2, ?_, r2, q2, b', g', c', t', l', hl, ?_, h2⟩
  · subst e1
    show lawF (x + 1095) (x + 1105) fm 0 (sJ M1 (x + 1105) y.toInt64) = some M2
    unfold lawF f_X9_thrown
    rw [e2, cb_s, vb_s, k2, if_pos rfl, if_pos rfl, gd_s (by decide), o2.2.2.1 _ (by omega), mJ_sJ, if_pos rfl, cmp_0, if_pos rfl]
  · have h3 : CI x (sJ M1 (x + 1105) y.toInt64) n' r' q' b' g' c' t' l' := h1.fr (fun _ _ _ _ _ _ _ => rfl) (fun _ _ _ => rfl) rfl
    have h4 := (h3.after o2).mono hn
    obtain ⟨a1, ⟨a2, a3⟩, a4⟩ := h4
    exact ⟨a1.congr hr, ⟨a2, fun hb => (a3 hb).congr (hq hb)⟩, a4⟩
theorem law_exc {j u : Nat} (hI : MI (x + 1095) M r q b g c t l) (h : CI x M (k - l) r q b g c t l) (hl : l ≤ k) (hC : oC = some (j, y, M)) (hj : j ≠ 0) (hu : hs j = u) (hu0 : u ≠ 0) (hu9 : u < 9) (hM : MR (x + 1095) M (fm M) (nI u) z r q b g c t l) : ∃ M', cb (wb oC hs (fun r N => sJ N (x + 1105) r.toInt64)) (lawF (x + 1095) (x + 1105) fm) = some M' ∧ Inv x (k + 1) M' := by
  obtain ⟨M2, e2, h2, o2, k2⟩ := hM
  refine ⟨M2, ?_, r, q, b, g, c, t, l, by omega, (h.after o2).mono (by omega), h2⟩
  subst hC
  have ew : wb (some (j, y, M)) hs (fun r N => sJ N (x + 1105) r.toInt64) = some (nI u, M) := by
    show (if j = 0 then _ else if hs j = 0 then none else some (nI (hs j), M)) = _
    rw [if_neg hj, hu, if_neg hu0]
  rw [ew, cb_s]
  unfold lawF f_X9_thrown
  rw [e2, cb_s, vb_s, k2, if_pos rfl, if_neg (nI_ne0 (by omega) (by omega))]
theorem at_ix {j : Nat} (hL : 4 * k + 4 ≤ L) (hL2 : L ≤ 2048) (hj : j < 4) : ix (Int32.ofNat (4 * k) + nI j) L := by
  have e : Int32.ofNat (4 * k) + nI j = nI (4 * k + j) := zA (a := 4 * k) (b := j)
  rw [e]
  exact nI_ix (by omega) (by omega)
theorem w_0 (hL : 4 * k + 4 ≤ L) (hL2 : L ≤ 2048) (h : Inv x k M) : ∃ M', f_law_0 x (x + 1095) (x + 1105) (x + 1106) xs L (Int32.ofNat (4 * k)) M = some M' ∧ Inv x (k + 1) M' := by
  obtain ⟨r, q, b, g, c, t, l, hl, hC, hI⟩ := h
  have a1 : ix (Int32.ofNat (4 * k) + 1) L := at_ix (j := 1) hL hL2 (by decide)
  have a2 : ix (Int32.ofNat (4 * k) + 2) L := at_ix (j := 2) hL hL2 (by decide)
  unfold f_law_0 f_L_say
  simp only [gd_s a1, gd_s a2]
  generalize xs (Int32.ofNat (4 * k) + 1).toNatClampNeg = p1
  generalize xs (Int32.ofNat (4 * k) + 2).toNatClampNeg = p2
  have hc : c ≤ 6 := hC.2.2.1.2.1
  rcases arg_cs p1 2 (by decide) with ⟨v, hv, rfl⟩ | hv
  · have hv : v < 3 := by omega
    obtain ⟨hV, hW, hB, hS, hR⟩ := hC.rv hv
    rcases sam_cs p2 with hx | hx
    · rcases zCS_01 (r := r) (w := vo r v) with hz | hz
      · exact law_exc (fm := fun N => f_X9_say (x + 1095) (nI v) p2 N) (u := 3) hI hC hl (say_3 hC hv hx hz) (by decide) rfl (by decide) (by decide) (say_m3 hI hv hx hz)
      · exact law_ret (fm := fun N => f_X9_say (x + 1095) (nI v) p2 N) hI (say_c hC hv hx hz (by omega)) (fun N hN => ⟨_, _, say_m hN hc hv hB hR hx hz, fun _ _ => rfl, fun _ _ _ => rfl⟩) (by omega) (by omega)
    · exact law_exc (fm := fun N => f_X9_say (x + 1095) (nI v) p2 N) (u := 2) hI hC hl (say_2 hv hx) (by decide) rfl (by decide) (by decide) (say_m2 hI hv hx)
  · exact law_exc (fm := fun N => f_X9_say (x + 1095) p1 p2 N) (u := 1) hI hC hl (say_1 hv) (by decide) rfl (by decide) (by decide) (say_m1 hI hv)
theorem w_1 (hL : 4 * k + 4 ≤ L) (hL2 : L ≤ 2048) (h : Inv x k M) : ∃ M', f_law_1 x (x + 1095) (x + 1105) (x + 1106) xs L (Int32.ofNat (4 * k)) M = some M' ∧ Inv x (k + 1) M' := by
  obtain ⟨r, q, b, g, c, t, l, hl, hC, hI⟩ := h
  have a1 : ix (Int32.ofNat (4 * k) + 1) L := at_ix (j := 1) hL hL2 (by decide)
  unfold f_law_1 f_L_flush
  simp only [gd_s a1]
  generalize xs (Int32.ofNat (4 * k) + 1).toNatClampNeg = p1
  have hc : c ≤ 6 := hC.2.2.1.2.1
  rcases arg_cs p1 2 (by decide) with ⟨v, hv, rfl⟩ | hv
  · have hv : v < 3 := by omega
    obtain ⟨hV, hW, hB, hS, hR⟩ := hC.rv hv
    by_cases hz : vo r v 4 = 0 ∨ vo r v 38 = 8
    · exact law_exc (fm := fun N => f_X9_flush (x + 1095) (nI v) N) (u := 2) hI hC hl (flush_3 hC hv hz) (by decide) rfl (by decide) (by decide) (flush_m2 hI hv hz)
    · have h4 : vo r v 4 ≠ 0 := fun z => hz (Or.inl z)
      have h8 : vo r v 38 ≠ 8 := fun z => hz (Or.inr z)
      exact law_ret (fm := fun N => f_X9_flush (x + 1095) (nI v) N) hI (flush_c hC hv h4 h8 (by omega)) (fun N hN => ⟨_, _, flush_m hN hc hv hB h4 h8, fun _ _ => rfl, fun _ _ _ => rfl⟩) (by omega) (by omega)
  · exact law_exc (fm := fun N => f_X9_flush (x + 1095) p1 N) (u := 1) hI hC hl (flush_1 hv) (by decide) rfl (by decide) (by decide) (flush_m1 hI hv)
theorem w_2 (hL : 4 * k + 4 ≤ L) (hL2 : L ≤ 2048) (h : Inv x k M) : ∃ M', f_law_2 x (x + 1095) (x + 1105) (x + 1106) xs L (Int32.ofNat (4 * k)) M = some M' ∧ Inv x (k + 1) M' := by
  obtain ⟨r, q, b, g, c, t, l, hl, hC, hI⟩ := h
  have a1 : ix (Int32.ofNat (4 * k) + 1) L := at_ix (j := 1) hL hL2 (by decide)
  unfold f_law_2 f_L_deliver
  simp only [gd_s a1]
  generalize xs (Int32.ofNat (4 * k) + 1).toNatClampNeg = p1
  have hc : c ≤ 6 := hC.2.2.1.2.1
  rcases arg_cs p1 2 (by decide) with ⟨v, hv, rfl⟩ | hv
  · have hv : v < 3 := by omega
    obtain ⟨hV, hW, hB, hS, hR⟩ := hC.rv hv
    obtain ⟨W, w1, w2, w3⟩ := hB.2.2
    cases W with
    | zero => exact law_exc (fm := fun N => f_X9_deliver (x + 1095) (nI v) N) (u := 2) hI hC hl (dlv_3 hC hv w2) (by decide) rfl (by decide) (by decide) (deliver_m2 hI hv w2)
    | succ W => exact law_ret (fm := fun N => f_X9_deliver (x + 1095) (nI v) N) hI (deliver_c hC hv w2 (by omega) (by omega)) (fun N hN => ⟨_, _, deliver_m hN hc hv hB (by omega) w2 (by omega), fun _ _ => rfl, fun _ _ _ => rfl⟩) (by omega) (by omega)
  · exact law_exc (fm := fun N => f_X9_deliver (x + 1095) p1 N) (u := 1) hI hC hl (dlv_1 hv) (by decide) rfl (by decide) (by decide) (deliver_m1 hI hv)
theorem w_3 (hL : 4 * k + 4 ≤ L) (hL2 : L ≤ 2048) (h : Inv x k M) : ∃ M', f_law_3 x (x + 1095) (x + 1105) (x + 1106) xs L (Int32.ofNat (4 * k)) M = some M' ∧ Inv x (k + 1) M' := by
  obtain ⟨r, q, b, g, c, t, l, hl, hC, hI⟩ := h
  have a1 : ix (Int32.ofNat (4 * k) + 1) L := at_ix (j := 1) hL hL2 (by decide)
  unfold f_law_3 f_L_lose
  simp only [gd_s a1]
  generalize xs (Int32.ofNat (4 * k) + 1).toNatClampNeg = p1
  have hc : c ≤ 6 := hC.2.2.1.2.1
  rcases arg_cs p1 2 (by decide) with ⟨v, hv, rfl⟩ | hv
  · have hv : v < 3 := by omega
    obtain ⟨hV, hW, hB, hS, hR⟩ := hC.rv hv
    obtain ⟨W, w1, w2, w3⟩ := hB.2.2
    cases W with
    | zero => exact law_exc (fm := fun N => f_X9_lose (x + 1095) (nI v) N) (u := 2) hI hC hl (lose_3 hC hv w2) (by decide) rfl (by decide) (by decide) (lose_m2 hI hv w2)
    | succ W => exact law_ret (fm := fun N => f_X9_lose (x + 1095) (nI v) N) hI (lose_c hC hv w2 (by omega)) (fun N hN => ⟨_, _, lose_m hN hc hv w2 (by omega), fun _ _ => rfl, fun _ _ _ => rfl⟩) (by omega) (by omega)
  · exact law_exc (fm := fun N => f_X9_lose (x + 1095) p1 N) (u := 1) hI hC hl (lose_1 hv) (by decide) rfl (by decide) (by decide) (lose_m1 hI hv)
theorem w_4 (hL : 4 * k + 4 ≤ L) (hL2 : L ≤ 2048) (h : Inv x k M) : ∃ M', f_law_4 x (x + 1095) (x + 1105) (x + 1106) xs L (Int32.ofNat (4 * k)) M = some M' ∧ Inv x (k + 1) M' := by
  obtain ⟨r, q, b, g, c, t, l, hl, hC, hI⟩ := h
  have a1 : ix (Int32.ofNat (4 * k) + 1) L := at_ix (j := 1) hL hL2 (by decide)
  unfold f_law_4 f_L_swap
  simp only [gd_s a1]
  generalize xs (Int32.ofNat (4 * k) + 1).toNatClampNeg = p1
  have hc : c ≤ 6 := hC.2.2.1.2.1
  rcases arg_cs p1 2 (by decide) with ⟨v, hv, rfl⟩ | hv
  · have hv : v < 3 := by omega
    obtain ⟨hV, hW, hB, hS, hR⟩ := hC.rv hv
    obtain ⟨W, w1, w2, w3⟩ := hB.2.2
    by_cases hW2 : W < 2
    · exact law_exc (fm := fun N => f_X9_swap (x + 1095) (nI v) N) (u := 2) hI hC hl (swap_3 hC hv w2 hW2) (by decide) rfl (by decide) (by decide) (swap_m2 hI hv w2 hW2)
    · obtain ⟨W, rfl⟩ : ∃ u, W = u + 2 := ⟨W - 2, by omega⟩
      exact law_ret (fm := fun N => f_X9_swap (x + 1095) (nI v) N) hI (swap_c hC hv w2 w1) (fun N hN => ⟨_, _, swap_m hN hc hv w2 w1, fun _ _ => rfl, fun _ _ _ => rfl⟩) (by omega) (by omega)
  · exact law_exc (fm := fun N => f_X9_swap (x + 1095) p1 N) (u := 1) hI hC hl (swap_1 hv) (by decide) rfl (by decide) (by decide) (swap_m1 hI hv)
theorem w_5 (hL : 4 * k + 4 ≤ L) (hL2 : L ≤ 2048) (h : Inv x k M) : ∃ M', f_law_5 x (x + 1095) (x + 1105) (x + 1106) xs L (Int32.ofNat (4 * k)) M = some M' ∧ Inv x (k + 1) M' := by
  obtain ⟨r, q, b, g, c, t, l, hl, hC, hI⟩ := h
  have a1 : ix (Int32.ofNat (4 * k) + 1) L := at_ix (j := 1) hL hL2 (by decide)
  have a2 : ix (Int32.ofNat (4 * k) + 2) L := at_ix (j := 2) hL hL2 (by decide)
  unfold f_law_5 f_L_set
  simp only [gd_s a1, gd_s a2]
  generalize xs (Int32.ofNat (4 * k) + 1).toNatClampNeg = p1
  generalize xs (Int32.ofNat (4 * k) + 2).toNatClampNeg = p2
  have hc : c ≤ 6 := hC.2.2.1.2.1
  rcases arg_cs p1 3 (by decide) with ⟨v, hv, rfl⟩ | hv
  · have hv : v < 4 := by omega
    have hs99 : seM v < 2 ^ 31 := by unfold seM; split <;> (try split) <;> (try split) <;> omega
    have hs1 : seL v < 2 ^ 31 := by unfold seL; split <;> (try split) <;> omega
    by_cases hp : p2 < nI (seL v) ∨ nI (seM v) < p2
    · exact law_exc (fm := fun N => f_X9_set (x + 1095) (nI v) p2 N) (u := 2) hI hC hl (set_2 hv hp) (by decide) rfl (by decide) (by decide) (set_m2 hI hv hp)
    · have h1 : ¬ p2 < nI (seL v) := fun z => hp (Or.inl z)
      have h2 : ¬ nI (seM v) < p2 := fun z => hp (Or.inr z)
      have h0 : ¬ p2 < 0 := fun z => h1 (Int32.lt_of_lt_of_le z (nI_pos' hs1))
      obtain ⟨u, hu, rfl⟩ := nI_of2 (M := nI (seM v)) (n := seM v) (nI_toInt hs99) h0 (Int32.not_lt.mp h2)
      have hu1 : seL v ≤ u := (nI_leI (by omega) (by omega)).mp (Int32.not_lt.mp h1)
      exact law_ret (fm := fun N => f_X9_set (x + 1095) (nI v) (nI u) N) hI (set_c hC hv hu1 hu) (fun N hN => ⟨_, _, set_m hN hc hv hu1 hu, fun _ _ => rfl, fun _ _ _ => rfl⟩) (by omega) (by omega)
  · exact law_exc (fm := fun N => f_X9_set (x + 1095) p1 p2 N) (u := 1) hI hC hl (set_1 hv) (by decide) rfl (by decide) (by decide) (set_m1 hI hv)
/-! texts; the snapshot; undo -/
theorem chr_n {u : Nat} (hu : u ≤ 126) : ((nI u).toUInt32 % 65536).toInt32 = nI u ∧ vp_nar .char (nI u) = nI u := by
  refine ⟨?_, ?_⟩
  · rw [pk_char]
    have e : (nI u).toBitVec.toNat = u := by
      unfold nI
      rw [Int32.toBitVec_ofNat', BitVec.toNat_ofNat]
      omega
    rw [e, Nat.mod_eq_of_lt (by omega)]
  · unfold vp_nar
    rw [(pk_charN (by omega)).1]
theorem app_c {u : Nat} (h : CI x M n r q b g c t l) (h1 : 33 ≤ u) (h2 : u ≤ 126) (hl : l < 60) : CR x M (f_X8_append x (nI u) M) 0 (nI (l + 1)) n r q b g c (upd t l (nI u)) (l + 1) := by
  obtain ⟨a1, ⟨a2, a3⟩, ⟨a4, a5, a6⟩, ⟨a7, a8⟩, ⟨a9, a10, a11⟩, a12, a13, a14⟩ := h
  obtain ⟨c1, c2⟩ := chr_n h2
  have same : ∀ b, b ≠ x + 274 → b ≠ x + 275 → mI (sI (sI M (x + 275) l (nI u)) (x + 274) 1 (nI (l + 1))) b = mI M b := fun b h1 h2 => by rw [mI_sn h1, mI_sn h2]
  refine ⟨sI (sI M (x + 275) l (nI u)) (x + 274) 1 (nI (l + 1)), ?_, ⟨a1.fr a9 (fun b _ _ => same b (by omega) (by omega)) (fun _ _ _ => rfl), ⟨by rw [same _ (by omega) (by omega)]; exact a2, fun hb => (a3 hb).fr a10 (fun b _ _ => same b (by omega) (by omega)) (fun _ _ _ => rfl)⟩, ⟨by rw [same _ (by omega) (by omega)]; exact a4, a5, fun j hj => ?_⟩, ⟨a7, a8⟩, ⟨a9.fr (fun b _ _ => same b (by omega) (by omega)) (fun _ _ _ => rfl), a10.fr (fun b _ _ => same b (by omega) (by omega)) (fun _ _ _ => rfl), fun i hi => (a11 i hi).fr (fun b _ _ => same b (by omega) (by omega)) (fun _ _ _ => rfl)⟩, mI_ss, by omega, fun i hi => ?_⟩, ⟨fun b hb => same b (by omega) (by omega), fun _ _ => rfl, rfl⟩⟩
  · have ef : f_X6_isFull (x + 274) M = some 0 := by
      unfold f_X6_isFull
      rw [a12, if_pos (show nI l < (60 : Int32) from nI_lt (b := 60) hl (by decide))]
    have ea : f_X6_add (x + 274) (nI u) M = some (sI (sI M (x + 275) l (nI u)) (x + 274) 1 (nI (l + 1))) := by
      unfold f_X6_add
      rw [a12, if_neg (nI_pos (by omega)), if_neg (show ¬ (60 : Int32) ≤ nI l from nI_ge (b := 60) hl (by decide)), gd_s (nI_ix hl (by decide)), nb_s, nI_clamp (by omega), c2, mI_sn (by omega), a12, nb_s, nI_succ]
    unfold f_X8_append
    rw [if_neg (show ¬ nI u < (33 : Int32) from nI_nlt (b := 33) h1 (by omega)), if_pos (show nI u ≤ (126 : Int32) from nI_le (b := 126) h2 (by decide)), ef, vb_s, if_pos rfl, c1, ea, vb_s, mI_ss]
  · obtain ⟨i, hi, ei⟩ := a7 j (by omega)
    have hw := a11 i hi
    rw [← ei] at hw
    exact (a6 j hj).fr hw (fun b _ _ => same b (by omega) (by omega)) (fun _ _ _ => rfl)
  · rw [mI_sn (by omega), mI_up]
    unfold upd
    by_cases hil : i = l
    · rw [if_pos hil]
      exact ⟨(if_pos hil).symm, u, h1, h2, if_pos hil⟩
    · rw [if_neg hil]
      obtain ⟨z1, z2, z3, z4, z5⟩ := a14 i (by omega)
      exact ⟨z1.trans (if_neg hil).symm, z2, z3, z4, (if_neg hil).trans z5⟩
theorem app_3 {u : Nat} (h : CI x M n r q b g c t 60) (h1 : 33 ≤ u) (h2 : u ≤ 126) : f_X8_append x (nI u) M = some (3, 0, M) := by
  have ef : f_X6_isFull (x + 274) M = some 1 := by
    unfold f_X6_isFull
    rw [h.2.2.2.2.2.1, if_neg (show ¬ nI 60 < (60 : Int32) by decide)]
  unfold f_X8_append
  rw [if_neg (show ¬ nI u < (33 : Int32) from nI_nlt (b := 33) h1 (by omega)), if_pos (show nI u ≤ (126 : Int32) from nI_le (b := 126) h2 (by decide)), ef, vb_s, if_neg (by decide)]
theorem app_2 (hp : p < nI 33 ∨ nI 126 < p) : f_X8_append x p M = some (2, 0, M) := by
  unfold f_X8_append f_X8_append_b12
  by_cases hz : p < nI 33
  · rw [if_pos (show p < (33 : Int32) from hz)]
  · rw [if_neg (show ¬ p < (33 : Int32) from hz), if_neg (show ¬ p ≤ (126 : Int32) from Int32.not_le.mpr (hp.resolve_left hz))]
theorem w_6 (hL : 4 * k + 4 ≤ L) (hL2 : L ≤ 2048) (h : Inv x k M) : ∃ M', f_law_6 x (x + 1095) (x + 1105) (x + 1106) xs L (Int32.ofNat (4 * k)) M = some M' ∧ Inv x (k + 1) M' := by
  obtain ⟨r, q, b, g, c, t, l, hl, hC, hI⟩ := h
  have a1 : ix (Int32.ofNat (4 * k) + 1) L := at_ix (j := 1) hL hL2 (by decide)
  unfold f_law_6 f_L_append
  simp only [gd_s a1]
  generalize xs (Int32.ofNat (4 * k) + 1).toNatClampNeg = p
  have hl60 := hC.2.2.2.2.2.2.1
  by_cases hp : p < nI 33 ∨ nI 126 < p
  · exact law_exc (fm := fun N => f_X9_append (x + 1095) p N) (u := 1) hI hC hl (app_2 hp) (by decide) rfl (by decide) (by decide) (app_m1 hI hp)
  · have h1 : ¬ p < nI 33 := fun z => hp (Or.inl z)
    have h2 : ¬ nI 126 < p := fun z => hp (Or.inr z)
    have h0 : ¬ p < 0 := fun z => h1 (Int32.lt_of_lt_of_le z (nI_pos' (by decide)))
    obtain ⟨u, hu, rfl⟩ := nI_of2 (M := nI 126) (n := 126) (nI_toInt (by decide)) h0 (Int32.not_lt.mp h2)
    have hu1 : 33 ≤ u := (nI_leI (by decide) (by omega)).mp (Int32.not_lt.mp h1)
    by_cases h60 : l = 60
    · subst h60
      exact law_exc (fm := fun N => f_X9_append (x + 1095) (nI u) N) (u := 2) hI hC hl (app_3 hC hu1 hu) (by decide) rfl (by decide) (by decide) (app_m2 hI hu1 hu)
    · exact law_ret (fm := fun N => f_X9_append (x + 1095) (nI u) N) hI (app_c hC hu1 hu (by omega)) (fun N hN => ⟨_, _, app_m hN hu1 hu (by omega), fun _ _ => rfl, fun _ _ _ => rfl⟩) (by omega) (by omega)
/-- the calls that never throw -/
theorem law_pl {oD : Option (Int32 × Mem)} (hI : MI (x + 1095) M r q b g c t l) (hC : ∃ M1, oD = some (y, M1) ∧ CI x M1 n' r' q' b' g' c' t' l' ∧ Out x M M1) (hM : ∀ N, MI (x + 1095) N r q b g c t l → MR (x + 1095) N (fm N) z y r' q' b' g' c' t' l') (hl : l' ≤ k + 1) (hn : n' ≤ k + 1 - l') : ∃ M', (cb oD fun r2 M3 => cb (fm M3) fun r5 M6 => if r2 = r5 then (some M6) else (none)) = some M' ∧ Inv x (k + 1) M' := by
  obtain ⟨M1, e1, h1, o1⟩ := hC
  obtain ⟨M2, e2, h2, o2, k2⟩ := hM M1 (hI.out fun b hb => o1.1 b (by omega))
  refine ⟨M2, ?_, r', q', b', g', c', t', l', hl, (h1.after o2).mono hn, h2⟩
  rw [e1, cb_s, e2, cb_s, if_pos rfl]
theorem clr_c (h : CI x M n r q b g c t l) : ∃ M1, f_X8_clearBuffer x M = some (nI l, M1) ∧ CI x M1 n r q b g c t 0 ∧ Out x M M1 := by
  obtain ⟨a1, ⟨a2, a3⟩, ⟨a4, a5, a6⟩, ⟨a7, a8⟩, ⟨a9, a10, a11⟩, a12, a13, a14⟩ := h
  have same : ∀ b, b ≠ x + 274 → mI (sI M (x + 274) 1 0) b = mI M b := fun b h1 => mI_sn h1
  refine ⟨sI M (x + 274) 1 0, ?_, ⟨a1.fr a9 (fun b _ _ => same b (by omega)) (fun _ _ _ => rfl), ⟨by rw [same _ (by omega)]; exact a2, fun hb => (a3 hb).fr a10 (fun b _ _ => same b (by omega)) (fun _ _ _ => rfl)⟩, ⟨by rw [same _ (by omega)]; exact a4, a5, fun j hj => ?_⟩, ⟨a7, a8⟩, ⟨a9.fr (fun b _ _ => same b (by omega)) (fun _ _ _ => rfl), a10.fr (fun b _ _ => same b (by omega)) (fun _ _ _ => rfl), fun i hi => (a11 i hi).fr (fun b _ _ => same b (by omega)) (fun _ _ _ => rfl)⟩, mI_ss, by decide, fun i hi => by omega⟩, ⟨fun b hb => same b (by omega), fun _ _ => rfl, rfl⟩⟩
  · unfold f_X8_clearBuffer f_X6_clear
    rw [a12, nb_s, nb_s, vb_s]
  · obtain ⟨i, hi, ei⟩ := a7 j (by omega)
    have hw := a11 i hi
    rw [← ei] at hw
    exact (a6 j hj).fr hw (fun b _ _ => same b (by omega)) (fun _ _ _ => rfl)
theorem w_7 (h : Inv x k M) : ∃ M', f_law_7 x (x + 1095) (x + 1105) (x + 1106) xs L (Int32.ofNat (4 * k)) M = some M' ∧ Inv x (k + 1) M' := by
  obtain ⟨r, q, b, g, c, t, l, hl, hC, hI⟩ := h
  exact law_pl (fm := fun N => f_X9_clearBuffer (x + 1095) N) hI (clr_c hC) (fun N hN => clr_m hN) (by omega) (by omega)
theorem w_10 (h : Inv x k M) : ∃ M', f_law_10 x (x + 1095) (x + 1105) (x + 1106) xs L (Int32.ofNat (4 * k)) M = some M' ∧ Inv x (k + 1) M' := by
  obtain ⟨r, q, b, g, c, t, l, hl, hC, hI⟩ := h
  exact law_pl (fm := fun N => f_X9_keep (x + 1095) N) hI (keep_c hC) (fun N hN => keep_m hN) (by omega) (by omega)
theorem w_11 (h : Inv x k M) : ∃ M', f_law_11 x (x + 1095) (x + 1105) (x + 1106) xs L (Int32.ofNat (4 * k)) M = some M' ∧ Inv x (k + 1) M' := by
  obtain ⟨r, q, b, g, c, t, l, hl, hC, hI⟩ := h
  have hc : c ≤ 6 := hC.2.2.1.2.1
  unfold f_law_11 f_L_goBack
  cases b with
  | false => exact law_exc (fm := fun N => f_X9_goBack (x + 1095) N) (u := 1) hI hC hl (nback_c hC) (by decide) rfl (by decide) (by decide) (nback_m hI)
  | true => exact law_ret (fm := fun N => f_X9_goBack (x + 1095) N) hI (back_c hC) (fun N hN => ⟨_, _, back_m hN hc, fun i hi => (if_pos hi).symm, fun _ _ _ => rfl⟩) (by omega) (by omega)
theorem w_12 (h : Inv x k M) : ∃ M', f_law_12 x (x + 1095) (x + 1105) (x + 1106) xs L (Int32.ofNat (4 * k)) M = some M' ∧ Inv x (k + 1) M' := by
  obtain ⟨r, q, b, g, c, t, l, hl, hC, hI⟩ := h
  have hc : c ≤ 6 := hC.2.2.1.2.1
  unfold f_law_12 f_L_undo
  cases c with
  | zero => exact law_exc (fm := fun N => f_X9_undo (x + 1095) N) (u := 1) hI hC hl (nundo_c hC) (by decide) rfl (by decide) (by decide) (nundo_m hI)
  | succ c => exact law_ret (fm := fun N => f_X9_undo (x + 1095) N) hI (undo_c hC) (fun N hN => ⟨_, _, undo_m hN (by omega), fun i hi => (if_pos hi).symm, fun _ _ _ => rfl⟩) (by omega) (by omega)
end LAWS
