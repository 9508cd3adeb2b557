/-! THE REFERENCE. Its deeds as they are called -/
section MPUB
variable {M M1 M' : Mem} {mo a s d n m c l v e k : Nat} {r q r' w t f : Nat → Int32} {g : Nat → Nat → Int32} {b : Bool} {x y p p1 p2 : Int32}
theorem can_m (h : MI mo M r q b g c t l) (hv : v < 3) : f_X9_canSay mo (nI v) M = some (zCS r (vo r v)) := by
  have e := can_v (M := M) (mo := mo) (v := v) (r := r) (w := vo r v) hv
  rw [h.eq v] at e
  exact e
theorem of_m (k : Nat) (h : MI mo M r q b g c t l) (hv : v < 3) (hk : k < 207) : f_X9_of mo (nI v) (OfNat.ofNat k) M = some (vo r v k) := by
  have e := of_l (M := M) (mo := mo) (v := v) (r := r) (w := vo r v) k hv hk
  rw [h.eq v] at e
  exact e
theorem zCl_said : zCl (zSaid r) w = zCl r w := rfl
theorem fail_x {z : Int32} (h : MI mo M r q b g c t l) : MR mo M (cb (f_X9_fails mo z (sI M mo 7 0)) fun r2 M3 => some (r2, M3)) z 0 r q b g c t l := by
  obtain ⟨M1, e1, h1, o1, k1⟩ := fail_m (z := z) (h.sl (k := 7) (x := 0) (by decide) (by decide) (by decide))
  rw [e1, cb_s]
  exact ⟨_, rfl, h1, (OutM.sI (by omega) (by omega)).trans o1, k1⟩
/-- save, then a deed on the row -/
theorem deed_m {F : Mem → Option (Int32 × Mem)} (h : MI mo M r q b g c t l) (hc : c ≤ 6) (hF : ∀ N, MI mo N r q b (svG g c r) (svC c) t l → F N = some (y, sA N (mo + 1) r')) : MR mo M (vb (f_X9_save mo (sI M mo 7 0)) F) 0 y r' q b (svG g c r) (svC c) t l := by
  have h0 := h.sl (k := 7) (x := 0) (by decide) (by decide) (by decide)
  obtain ⟨M1, e1, h1, o1, k1⟩ := save_m h0 hc
  rw [e1, vb_s, hF M1 h1]
  refine ⟨_, rfl, h1.row, ((OutM.sI (by omega) (by omega)).trans o1).trans (OutM.sA (by omega) (by omega)), ?_⟩
  rw [mI_sAn (by omega), k1 7 (by decide), mI_ss]
theorem sayN_m (h : MI mo M r q b g c t l) (hv : v < 3) (hB : WB n (vo r v)) (hR : RB r) (hx : B2 x) (hcan : zCS r (vo r v) = 1) : f_X9_sayNow mo (nI v) x M = some (zSayC cSTEPS r (vo r v) x, sA M (mo + 1) (pv v (zSaid r) (zCl r (zSayW cSTEPS r (vo r v) x)))) := by
  have hB0 := hB
  obtain ⟨⟨⟨⟨s0, i, s1, s2⟩, ⟨g', g1, g2, g3, g4⟩, ⟨q', q1, q2⟩, -⟩, -⟩, -, W, w1, w2, w3⟩ := hB
  have e := say_v (M := M) (mo := mo) (v := v) (r := r) (w := vo r v) (x := x) (n := i) (q := W) (q4 := q') hv s2 s1 q2 (by omega) (by rw [g2, ← nI_succ]; exact nI_ne0 (by omega) (by omega)) (fun z => ⟨w2, by
    rw [h.1.2] at z
    obtain ⟨q2, z1, z2⟩ := can_q (T := cSTEPS) hB0 hR hx hcan z
    have := (nI_eq (by omega) (by omega)).mp (w2.symm.trans z2)
    omega⟩)
  rw [h.eq v, h.1.2] at e
  exact e
theorem say_m (h : MI mo M r q b g c t l) (hc : c ≤ 6) (hv : v < 3) (hB : WB n (vo r v)) (hR : RB r) (hx : B2 x) (hcan : zCS r (vo r v) = 1) : MR mo M (f_X9_say mo (nI v) x M) 0 (zSayC cSTEPS r (vo r v) x) (pv v (zSaid r) (zCl r (zSayW cSTEPS r (vo r v) x))) q b (svG g c r) (svC c) t l := by
  have h0 := h.sl (k := 7) (x := 0) (by decide) (by decide) (by decide)
  unfold f_X9_say
  rw [nb_s, isV_ok hv, vb_s, if_neg (by decide), isS_ok hx, vb_s, if_neg (by decide), can_m h0 hv, vb_s, hcan, if_neg (by decide)]
  exact deed_m h hc fun N hN => by rw [sayN_m hN hv hB hR hx hcan, cb_s]
theorem say_m3 (h : MI mo M r q b g c t l) (hv : v < 3) (hx : B2 x) (hcan : zCS r (vo r v) = 0) : MR mo M (f_X9_say mo (nI v) x M) 3 0 r q b g c t l := by
  have h0 := h.sl (k := 7) (x := 0) (by decide) (by decide) (by decide)
  unfold f_X9_say
  rw [nb_s, isV_ok hv, vb_s, if_neg (by decide), isS_ok hx, vb_s, if_neg (by decide), can_m h0 hv, vb_s, hcan, if_pos rfl]
  exact fail_x h
theorem say_m2 (h : MI mo M r q b g c t l) (hv : v < 3) (hx : x < -2000 ∨ 2000 < x) : MR mo M (f_X9_say mo (nI v) x M) 2 0 r q b g c t l := by
  unfold f_X9_say
  rw [nb_s, isV_ok hv, vb_s, if_neg (by decide), isS_no hx, vb_s, if_pos rfl]
  exact fail_x h
theorem say_m1 (h : MI mo M r q b g c t l) (hv : p1 < 0 ∨ nI 2 < p1) : MR mo M (f_X9_say mo p1 x M) 1 0 r q b g c t l := by
  unfold f_X9_say
  rw [nb_s, isV_no hv, vb_s, if_pos rfl]
  exact fail_x h
theorem flush_m (h : MI mo M r q b g c t l) (hc : c ≤ 6) (hv : v < 3) (hB : WB n (vo r v)) (h4 : vo r v 4 ≠ 0) (h38 : vo r v 38 ≠ 8) : MR mo M (f_X9_flush mo (nI v) M) 0 (vo r v 4) (pv v r (zMP r (vo r v))) q b (svG g c r) (svC c) t l := by
  have h0 := h.sl (k := 7) (x := 0) (by decide) (by decide) (by decide)
  obtain ⟨W, w1, w2, w3⟩ := hB.2.2
  have hW8 : W < 8 := by
    have : W ≠ 8 := fun z => h38 (by rw [w2, z]; rfl)
    omega
  unfold f_X9_flush
  rw [nb_s, isV_ok hv, vb_s, if_neg (by decide), of_m 4 h0 hv (by decide), vb_s, if_neg h4, of_m 38 h0 hv (by decide), vb_s, if_neg h38]
  refine deed_m h hc fun N hN => ?_
  have e := packet_v (M := N) (mo := mo) (v := v) (r := r) (w := vo r v) hv w2 hW8
  rw [hN.eq v] at e
  rw [of_m 4 hN hv (by decide), vb_s, e, vb_s]
theorem flush_m2 (h : MI mo M r q b g c t l) (hv : v < 3) (h4 : vo r v 4 = 0 ∨ vo r v 38 = 8) : MR mo M (f_X9_flush mo (nI v) M) 2 0 r q b g c t l := by
  have h0 := h.sl (k := 7) (x := 0) (by decide) (by decide) (by decide)
  unfold f_X9_flush f_X9_flush_b39
  rw [nb_s, isV_ok hv, vb_s, if_neg (by decide), of_m 4 h0 hv (by decide), vb_s]
  by_cases hz : vo r v 4 = 0
  · rw [if_pos hz]
    exact fail_x h
  · rw [if_neg hz, of_m 38 h0 hv (by decide), vb_s, if_pos (h4.resolve_left hz)]
    exact fail_x h
theorem flush_m1 (h : MI mo M r q b g c t l) (hv : p1 < 0 ∨ nI 2 < p1) : MR mo M (f_X9_flush mo p1 M) 1 0 r q b g c t l := by
  unfold f_X9_flush
  rw [nb_s, isV_no hv, vb_s, if_pos rfl]
  exact fail_x h
theorem dlvN_m (h : MI mo M r q b g c t l) (hv : v < 3) (hB : WB n (vo r v)) (hn : n < 9999) (h38 : vo r v 38 = nI (k + 1)) (hk : k < 8) : f_X9_deliverNow mo (nI v) M = some (zDa (vo r v), sA M (mo + 1) (pv v r (zDv cSTEPS (vo r v)))) := by
  obtain ⟨-, hgap, ⟨kk, hk8, h40⟩, h41, -⟩ := WB.dv (T := cSTEPS) hB h38 hk hn
  have e := deliver_v (M := M) (mo := mo) (v := v) (r := r) (w := vo r v) (q := k) hv hk8 h40 hB.1.2.2 h41 h38 hk hgap
  rw [h.eq v, h.1.2] at e
  exact e
theorem deliver_m (h : MI mo M r q b g c t l) (hc : c ≤ 6) (hv : v < 3) (hB : WB n (vo r v)) (hn : n < 9999) (h38 : vo r v 38 = nI (k + 1)) (hk : k < 8) : MR mo M (f_X9_deliver mo (nI v) M) 0 (zDa (vo r v)) (pv v r (zDv cSTEPS (vo r v))) q b (svG g c r) (svC c) t l := by
  have h0 := h.sl (k := 7) (x := 0) (by decide) (by decide) (by decide)
  unfold f_X9_deliver
  rw [nb_s, isV_ok hv, vb_s, if_neg (by decide), of_m 38 h0 hv (by decide), vb_s, h38, if_neg (nI_ne0 (by omega) (by omega))]
  exact deed_m h hc fun N hN => by rw [dlvN_m hN hv hB hn h38 hk, cb_s]
theorem deliver_m2 (h : MI mo M r q b g c t l) (hv : v < 3) (h38 : vo r v 38 = nI 0) : MR mo M (f_X9_deliver mo (nI v) M) 2 0 r q b g c t l := by
  have h0 := h.sl (k := 7) (x := 0) (by decide) (by decide) (by decide)
  unfold f_X9_deliver
  rw [nb_s, isV_ok hv, vb_s, if_neg (by decide), of_m 38 h0 hv (by decide), vb_s, h38, if_pos (show nI 0 = 0 from rfl)]
  exact fail_x h
theorem deliver_m1 (h : MI mo M r q b g c t l) (hv : p1 < 0 ∨ nI 2 < p1) : MR mo M (f_X9_deliver mo p1 M) 1 0 r q b g c t l := by
  unfold f_X9_deliver
  rw [nb_s, isV_no hv, vb_s, if_pos rfl]
  exact fail_x h
theorem loseN_m (h : MI mo M r q b g c t l) (hv : v < 3) (h38 : vo r v 38 = nI (k + 1)) (hk : k < 8) : f_X9_loseNow mo (nI v) M = some (vo r v 39, sA M (mo + 1) (pv v r (zLo (vo r v)))) := by
  have e := lose_v (M := M) (mo := mo) (v := v) (r := r) (w := vo r v) (q := k) hv h38 hk
  rw [h.eq v] at e
  exact e
theorem lose_m (h : MI mo M r q b g c t l) (hc : c ≤ 6) (hv : v < 3) (h38 : vo r v 38 = nI (k + 1)) (hk : k < 8) : MR mo M (f_X9_lose mo (nI v) M) 0 (vo r v 39) (pv v r (zLo (vo r v))) q b (svG g c r) (svC c) t l := by
  have h0 := h.sl (k := 7) (x := 0) (by decide) (by decide) (by decide)
  unfold f_X9_lose
  rw [nb_s, isV_ok hv, vb_s, if_neg (by decide), of_m 38 h0 hv (by decide), vb_s, h38, if_neg (nI_ne0 (by omega) (by omega))]
  exact deed_m h hc fun N hN => by rw [loseN_m hN hv h38 hk, cb_s]
theorem lose_m2 (h : MI mo M r q b g c t l) (hv : v < 3) (h38 : vo r v 38 = nI 0) : MR mo M (f_X9_lose mo (nI v) M) 2 0 r q b g c t l := by
  have h0 := h.sl (k := 7) (x := 0) (by decide) (by decide) (by decide)
  unfold f_X9_lose
  rw [nb_s, isV_ok hv, vb_s, if_neg (by decide), of_m 38 h0 hv (by decide), vb_s, h38, if_pos (show nI 0 = 0 from rfl)]
  exact fail_x h
theorem lose_m1 (h : MI mo M r q b g c t l) (hv : p1 < 0 ∨ nI 2 < p1) : MR mo M (f_X9_lose mo p1 M) 1 0 r q b g c t l := by
  unfold f_X9_lose
  rw [nb_s, isV_no hv, vb_s, if_pos rfl]
  exact fail_x h
theorem swapN_m (h : MI mo M r q b g c t l) (hv : v < 3) : f_X9_swapNow mo (nI v) M = some (zSw (vo r v) 39 39, sA M (mo + 1) (pv v r (zSw (vo r v) 39))) := by
  have e := swap_v (M := M) (mo := mo) (v := v) (r := r) (w := vo r v) hv
  rw [h.eq v] at e
  exact e
theorem swap_m (h : MI mo M r q b g c t l) (hc : c ≤ 6) (hv : v < 3) (h38 : vo r v 38 = nI (k + 2)) (hk : k + 2 ≤ 8) : MR mo M (f_X9_swap mo (nI v) M) 0 (zSw (vo r v) 39 39) (pv v r (zSw (vo r v) 39)) q b (svG g c r) (svC c) t l := by
  have h0 := h.sl (k := 7) (x := 0) (by decide) (by decide) (by decide)
  unfold f_X9_swap
  rw [nb_s, isV_ok hv, vb_s, if_neg (by decide), of_m 38 h0 hv (by decide), vb_s, h38, if_pos (show (2 : Int32) ≤ nI (k + 2) from nI_le (a := 2) (by omega) (by omega))]
  exact deed_m h hc fun N hN => by rw [swapN_m hN hv, cb_s]
theorem swap_m2 (h : MI mo M r q b g c t l) (hv : v < 3) (h38 : vo r v 38 = nI k) (hk : k < 2) : MR mo M (f_X9_swap mo (nI v) M) 2 0 r q b g c t l := by
  have h0 := h.sl (k := 7) (x := 0) (by decide) (by decide) (by decide)
  unfold f_X9_swap
  rw [nb_s, isV_ok hv, vb_s, if_neg (by decide), of_m 38 h0 hv (by decide), vb_s, h38, if_neg (show ¬ (2 : Int32) ≤ nI k from nI_ge (b := 2) hk (by decide))]
  exact fail_x h
theorem swap_m1 (h : MI mo M r q b g c t l) (hv : p1 < 0 ∨ nI 2 < p1) : MR mo M (f_X9_swap mo p1 M) 1 0 r q b g c t l := by
  unfold f_X9_swap
  rw [nb_s, isV_no hv, vb_s, if_pos rfl]
  exact fail_x h
theorem set_m {u : Nat} (h : MI mo M r q b g c t l) (hc : c ≤ 6) (hv : v < 4) (h1 : seL v ≤ u) (h2 : u ≤ seM v) : MR mo M (f_X9_set mo (nI v) (nI u) M) 0 (r v) (upd r v (nI u)) q b (svG g c r) (svC c) t l := by
  have hu : seM v < 100 := by unfold seM; split <;> (try split) <;> (try split) <;> omega
  unfold f_X9_set
  rw [nb_s, show (3 : Int32) = nI 3 from rfl, in_ok (show v ≤ 3 by omega) (by decide), vb_s, if_neg (by decide), rng_m hv, vb_s, if_neg (nI_nlt h1 (by omega)), if_neg (nI_nlt h2 (by omega)), if_neg (by decide)]
  refine deed_m h hc fun N hN => ?_
  rw [gd_s (nI_ix (by omega) (by decide)), nb_s, gd_s (nI_ix (by omega) (by decide)), nb_s, nI_clamp (by omega), hN.1.1]
  have e : sI N (mo + 1) v (nI u) = sA N (mo + 1) (upd r v (nI u)) := by
    have := sI_sA (M := N) (a := mo + 1) (k := v) (f := r) (x := nI u)
    rw [← hN.1.1, sA_eq, hN.1.1] at this
    exact this
  rw [e]
theorem set_m2 (h : MI mo M r q b g c t l) (hv : v < 4) (hp : p < nI (seL v) ∨ nI (seM v) < p) : MR mo M (f_X9_set mo (nI v) p M) 2 0 r q b g c t l := by
  unfold f_X9_set
  rw [nb_s, show (3 : Int32) = nI 3 from rfl, in_ok (show v ≤ 3 by omega) (by decide), vb_s, if_neg (by decide), rng_m hv, vb_s]
  by_cases hz : p < nI (seL v)
  · rw [if_pos hz, if_pos rfl]
    exact fail_x h
  · rw [if_neg hz, if_pos (hp.resolve_left hz), if_pos rfl]
    exact fail_x h
theorem set_m1 (h : MI mo M r q b g c t l) (hv : p1 < 0 ∨ nI 3 < p1) : MR mo M (f_X9_set mo p1 p M) 1 0 r q b g c t l := by
  unfold f_X9_set
  rw [nb_s, show (3 : Int32) = nI 3 from rfl, in_no hv, vb_s, if_pos rfl]
  exact fail_x h
/-! texts -/
theorem app_m {u : Nat} (h : MI mo M r q b g c t l) (h1 : 33 ≤ u) (h2 : u ≤ 126) (hl : l < 60) : MR mo M (f_X9_append mo (nI u) M) 0 (nI (l + 1)) r q b g c (upd t l (nI u)) (l + 1) := by
  obtain ⟨⟨h3, h4⟩, ⟨h5, h6⟩, ⟨h7, h8⟩, h9, h10⟩ := h
  unfold f_X9_append
  have e9 : mI (sI M mo 7 0) mo 9 = nI l := by rw [mI_sk (by decide)]; exact h9
  rw [nb_s, in_m, vb_s, if_neg (show ¬ nI u < (33 : Int32) from nI_nlt (b := 33) h1 (by omega)), if_neg (show ¬ (126 : Int32) < nI u from nI_nlt (a := 126) h2 (by decide)), if_neg (by decide), e9, if_neg (show ¬ nI l = (60 : Int32) from fun z => by have := (nI_eq (b := 60) (by omega) (by decide)).mp z; omega), gd_s (nI_ix hl (by decide)), nb_s, nI_clamp (by omega), mI_sn (by omega), e9, nb_s, mI_ss, nI_succ]
  refine ⟨_, rfl, ⟨⟨?_, ?_⟩, ⟨?_, ?_⟩, ⟨?_, ?_⟩, by rw [mI_ss, nI_succ], fun i hi => ?_⟩, ((OutM.sI (by omega) (by omega)).trans (OutM.sI (by omega) (by omega))).trans (OutM.sI (by omega) (by omega)), ?_⟩
  · rw [mI_sn (by omega), mI_sn (by omega), mI_sn (by omega)]; exact h3
  · rw [mI_sn (by omega), mI_sn (by omega), mI_sn (by omega)]; exact h4
  · rw [mI_sk (by decide), mI_sn (by omega), mI_sk (by decide)]; exact h5
  · rw [mI_sn (by omega), mI_sn (by omega), mI_sn (by omega)]; exact h6
  · rw [mI_sk (by decide), mI_sn (by omega), mI_sk (by decide)]; exact h7
  · rw [mI_sn (by omega), mI_sn (by omega), mI_sn (by omega)]; exact h8
  · rw [mI_sn (by omega), mI_up, mI_sn (by omega)]
    unfold upd
    split
    · rfl
    · exact h10 i (by omega)
  · rw [mI_sk (by decide), mI_sn (by omega), mI_ss]
theorem app_m2 {u : Nat} (h : MI mo M r q b g c t 60) (h1 : 33 ≤ u) (h2 : u ≤ 126) : MR mo M (f_X9_append mo (nI u) M) 2 0 r q b g c t 60 := by
  have e9 : mI (sI M mo 7 0) mo 9 = nI 60 := by rw [mI_sk (by decide)]; exact h.2.2.2.1
  unfold f_X9_append
  rw [nb_s, in_m, vb_s, if_neg (show ¬ nI u < (33 : Int32) from nI_nlt (b := 33) h1 (by omega)), if_neg (show ¬ (126 : Int32) < nI u from nI_nlt (a := 126) h2 (by decide)), if_neg (by decide), e9, if_pos (show nI 60 = 60 from rfl)]
  exact fail_x h
theorem app_m1 (h : MI mo M r q b g c t l) (hp : p < nI 33 ∨ nI 126 < p) : MR mo M (f_X9_append mo p M) 1 0 r q b g c t l := by
  unfold f_X9_append
  rw [nb_s, in_m, vb_s]
  by_cases hz : p < nI 33
  · rw [if_pos (show p < (33 : Int32) from hz), if_pos rfl]
    exact fail_x h
  · rw [if_neg (show ¬ p < (33 : Int32) from hz), if_pos (show (126 : Int32) < p from hp.resolve_left hz), if_pos rfl]
    exact fail_x h
theorem clr_m (h : MI mo M r q b g c t l) : MR mo M (f_X9_clearBuffer mo M) 0 (nI l) r q b g c t 0 := by
  obtain ⟨⟨h3, h4⟩, ⟨h5, h6⟩, ⟨h7, h8⟩, h9, h10⟩ := h
  unfold f_X9_clearBuffer
  have e9 : mI (sI M mo 7 0) mo 9 = nI l := by rw [mI_sk (by decide)]; exact h9
  rw [nb_s, e9, nb_s, nb_s]
  refine ⟨_, rfl, ⟨⟨?_, ?_⟩, ⟨?_, ?_⟩, ⟨?_, ?_⟩, mI_ss, fun i hi => by omega⟩, (OutM.sI (by omega) (by omega)).trans (OutM.sI (by omega) (by omega)), ?_⟩
  · rw [mI_sn (by omega), mI_sn (by omega)]; exact h3
  · rw [mI_sn (by omega), mI_sn (by omega)]; exact h4
  · rw [mI_sk (by decide), mI_sk (by decide)]; exact h5
  · rw [mI_sn (by omega), mI_sn (by omega)]; exact h6
  · rw [mI_sk (by decide), mI_sk (by decide)]; exact h7
  · rw [mI_sn (by omega), mI_sn (by omega)]; exact h8
  · rw [mI_sk (by decide), mI_ss]
end MPUB
