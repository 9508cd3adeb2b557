/-! THE REFERENCE. Its memory; rows that are saved and come back -/
def MI (mo : Nat) (M : Mem) (r q : Nat → Int32) (b : Bool) (g : Nat → Nat → Int32) (c : Nat) (t : Nat → Int32) (l : Nat) : Prop :=
  (mI M (mo + 1) = r ∧ mI M (mo + 5) = cSTEPS) ∧ (mI M mo 4 = bI b ∧ (b = true → ∀ i, i < 626 → mI M (mo + 3) i = q i)) ∧ (mI M mo 2 = nI c ∧ ∀ j, j < c → ∀ i, i < 626 → mI M (mo + 2) (626 * j + i) = g j i) ∧ mI M mo 9 = nI l ∧ ∀ i, i < l → mI M (mo + 6) i = t i
def OutM (mo : Nat) (M M' : Mem) : Prop := (∀ b, b < mo ∨ mo + 10 ≤ b → mI M' b = mI M b) ∧ M'.2.1 = M.2.1 ∧ (∀ b, b ≠ mo → mJ M' b = mJ M b) ∧ M'.2.2.2 = M.2.2.2
section MSTATE
variable {M M1 M' : Mem} {mo a s d n m c l v e k : Nat} {r q r' w t f : Nat → Int32} {g : Nat → Nat → Int32} {b : Bool} {x y p : Int32}
theorem OutM.rf : OutM mo M M := ⟨fun _ _ => rfl, rfl, fun _ _ => rfl, rfl⟩
theorem OutM.trans (h : OutM mo M M1) (h2 : OutM mo M1 M') : OutM mo M M' := ⟨fun b hb => (h2.1 b hb).trans (h.1 b hb), h2.2.1.trans h.2.1, fun b hb => (h2.2.2.1 b hb).trans (h.2.2.1 b hb), h2.2.2.2.trans h.2.2.2⟩
theorem OutM.sI (h : mo ≤ a) (h2 : a < mo + 10) : OutM mo M (sI M a k x) := ⟨fun b hb => mI_sn (by omega), rfl, fun _ _ => rfl, rfl⟩
theorem OutM.sA (h : mo ≤ a) (h2 : a < mo + 10) : OutM mo M (sA M a f) := ⟨fun b hb => mI_sAn (by omega), rfl, fun _ _ => rfl, rfl⟩
theorem MI.fr (h : MI mo M r q b g c t l) (h1 : mI M' (mo + 1) = mI M (mo + 1)) (h2 : mI M' (mo + 2) = mI M (mo + 2)) (h3 : mI M' (mo + 3) = mI M (mo + 3)) (h5 : mI M' (mo + 5) = mI M (mo + 5)) (h6 : mI M' (mo + 6) = mI M (mo + 6)) (k2 : mI M' mo 2 = mI M mo 2) (k4 : mI M' mo 4 = mI M mo 4) (k9 : mI M' mo 9 = mI M mo 9) : MI mo M' r q b g c t l := by
  unfold MI
  rw [h1, h2, h3, h5, h6, k2, k4, k9]
  exact h
/-- slots of no weight -/
theorem MI.sl (h : MI mo M r q b g c t l) (h2 : k ≠ 2) (h4 : k ≠ 4) (h9 : k ≠ 9) : MI mo (sI M mo k x) r q b g c t l := h.fr (mI_sn (by omega)) (mI_sn (by omega)) (mI_sn (by omega)) (mI_sn (by omega)) (mI_sn (by omega)) (mI_sk (by omega)) (mI_sk (by omega)) (mI_sk (by omega))
theorem MI.out (h : MI mo M r q b g c t l) (hb : ∀ b, mo ≤ b → mI M' b = mI M b) : MI mo M' r q b g c t l := h.fr (hb _ (by omega)) (hb _ (by omega)) (hb _ (by omega)) (hb _ (by omega)) (hb _ (by omega)) (by rw [hb _ (by omega)]) (by rw [hb _ (by omega)]) (by rw [hb _ (by omega)])
theorem MI.row (h : MI mo M r q b g c t l) : MI mo (sA M (mo + 1) r') r' q b g c t l := by
  obtain ⟨⟨h1, h2⟩, ⟨h3, h4⟩, ⟨h5, h6⟩, h7, h8⟩ := h
  refine ⟨⟨mI_sA, by rw [mI_sAn (by omega)]; exact h2⟩, ⟨by rw [mI_sAn (by omega)]; exact h3, fun hb => by rw [mI_sAn (by omega)]; exact h4 hb⟩, ⟨by rw [mI_sAn (by omega)]; exact h5, by rw [mI_sAn (by omega)]; exact h6⟩, by rw [mI_sAn (by omega)]; exact h7, by rw [mI_sAn (by omega)]; exact h8⟩
theorem MI.eq (h : MI mo M r q b g c t l) (v : Nat) : sA M (mo + 1) (pv v r (vo r v)) = M := by
  have h1 := h.1.1
  have e : pv v r (vo r v) = r := pv_id v r
  rw [e, ← h1, sA_eq]
/-- rows put over others -/
def zPt (f r : Nat → Int32) (o j e : Nat) : Nat → Int32 := fun k => if o + j ≤ k ∧ k < o + e then r (k - o) else f k
theorem zPt_e {o : Nat} : zPt f r o e e = f := by
  funext i
  unfold zPt
  rw [if_neg (by omega)]
theorem zPt_step {o j : Nat} (hj : j < e) : zPt (upd f (o + j) (r j)) r o (j + 1) e = zPt f r o j e := by
  funext i
  unfold zPt upd
  by_cases h1 : i = o + j
  · subst h1
    rw [if_neg (by omega), if_pos rfl, if_pos ⟨by omega, by omega⟩, Nat.add_sub_cancel_left]
  · by_cases h2 : o + j ≤ i ∧ i < o + e
    · rw [if_pos (by omega), if_pos h2]
    · rw [if_neg (by omega), if_neg h2, if_neg h1]
def zSh (f : Nat → Int32) (j e : Nat) : Nat → Int32 := fun k => if j ≤ k ∧ k < e then f (k + 626) else f k
theorem zSh_e : zSh f e e = f := by
  funext i
  unfold zSh
  rw [if_neg (by omega)]
theorem zSh_step {j : Nat} (hj : j < e) : zSh (upd f j (f (j + 626))) (j + 1) e = zSh f j e := by
  funext i
  unfold zSh upd
  by_cases h1 : i = j
  · subst h1
    rw [if_neg (by omega), if_pos rfl, if_pos (by omega)]
  · by_cases h2 : j ≤ i ∧ i < e
    · rw [if_pos (by omega), if_pos h2, if_neg (by omega)]
    · rw [if_neg (by omega), if_neg h2, if_neg h1]
theorem save_go (hc : c < 6) : ∀ (d j n : Nat) (M : Mem), j + d = 626 → d < n → mI M mo 2 = nI c → f_X9_save_b52 mo n (nI j) M = some (sI (sA M (mo + 2) (zPt (mI M (mo + 2)) (mI M (mo + 1)) (626 * c) j 626)) mo 2 (nI (c + 1))) := by
  intro d
  induction d with
  | zero =>
    intro j n M hj hn h2
    obtain ⟨n, rfl⟩ : ∃ k, n = k + 1 := ⟨n - 1, by omega⟩
    have hj : j = 626 := by omega
    subst hj
    rw [f_X9_save_b52, if_pos (show (626 : Int32) ≤ nI 626 by decide), nb_s, zPt_e, sA_eq, h2, nI_succ]
  | succ d ih =>
    intro j n M hj hn h2
    obtain ⟨n, rfl⟩ : ∃ k, n = k + 1 := ⟨n - 1, by omega⟩
    have ei : ((626 : Int32) * (mI M mo 2)) + nI j = nI (626 * c + j) := by rw [h2, show (626 : Int32) = nI 626 from rfl, zM, zA]
    rw [f_X9_save_b52, if_neg (show ¬ (626 : Int32) ≤ nI j from nI_ge (b := 626) (by omega) (by decide)), gd_s (nI_ix (by omega) (by decide)), ei, gd_s (nI_ix (by omega) (by decide)), nb_s, nb_s, ← nI_succ, nI_clamp (by omega), nI_clamp (by omega), ih (j + 1) n _ (by omega) (by omega) (by rw [mI_sn (by omega)]; exact h2), mI_up, mI_sn (by omega), sA_sI, zPt_step (by omega)]
theorem shift_go (h6 : mI M mo 2 = nI 6) : ∀ (d j n : Nat) (f : Nat → Int32), j + d = 3130 → d < n → f_X9_save_b11 mo n (nI j) (sA M (mo + 2) f) = f_X9_save_b50 mo (sI (sA M (mo + 2) (zSh f j 3130)) mo 2 (nI 5)) := by
  intro d
  induction d with
  | zero =>
    intro j n f hj hn
    obtain ⟨n, rfl⟩ : ∃ k, n = k + 1 := ⟨n - 1, by omega⟩
    have hj : j = 3130 := by omega
    subst hj
    rw [f_X9_save_b11, if_pos (show (3130 : Int32) ≤ nI 3130 by decide), nb_s, zSh_e, mI_sAn (by omega), h6, nI_pred]
  | succ d ih =>
    intro j n f hj hn
    obtain ⟨n, rfl⟩ : ∃ k, n = k + 1 := ⟨n - 1, by omega⟩
    have ei : nI j + 626 = nI (j + 626) := zA (a := j) (b := 626)
    rw [f_X9_save_b11, if_neg (show ¬ (3130 : Int32) ≤ nI j from nI_ge (b := 3130) (by omega) (by decide)), ei, gd_s (nI_ix (by omega) (by decide)), gd_s (nI_ix (by omega) (by decide)), nb_s, nb_s, ← nI_succ, nI_clamp (by omega), nI_clamp (by omega), mI_sA, sI_sA, ih (j + 1) n _ (by omega) (by omega), zSh_step (by omega)]
theorem save_m (h : MI mo M r q b g c t l) (hc : c ≤ 6) : ∃ M', f_X9_save mo M = some M' ∧ MI mo M' r q b (svG g c r) (svC c) t l ∧ OutM mo M M' ∧ ∀ k, k ≠ 2 → mI M' mo k = mI M mo k := by
  obtain ⟨⟨h1, h2⟩, ⟨h3, h4⟩, ⟨h5, h6⟩, h7, h8⟩ := h
  unfold f_X9_save
  rw [h5]
  by_cases hc6 : c = 6
  · subst hc6
    have e0 : sA M (mo + 2) (mI M (mo + 2)) = M := sA_eq M _
    have sh := shift_go (M := M) (mo := mo) h5 3130 0 lfuel (mI M (mo + 2)) rfl (by decide)
    rw [e0] at sh
    have hsg : svG g 6 r = fun j => if j = 5 then r else g (j + 1) := if_pos rfl
    rw [if_pos (show nI 6 = 6 from rfl), show (0 : Int32) = nI 0 from rfl, sh]
    unfold f_X9_save_b50
    rw [show (0 : Int32) = nI 0 from rfl, save_go (c := 5) (by decide) 626 0 lfuel _ rfl (by decide) mI_ss]
    refine ⟨_, rfl, ⟨⟨?_, ?_⟩, ⟨?_, fun hb => ?_⟩, ⟨mI_ss, fun j hj i hi => ?_⟩, ?_, ?_⟩, ((OutM.sA (by omega) (by omega)).trans (OutM.sI (by omega) (by omega))).trans ((OutM.sA (by omega) (by omega)).trans (OutM.sI (by omega) (by omega))), fun k hk => ?_⟩
    · rw [mI_sn (by omega), mI_sAn (by omega), mI_sn (by omega), mI_sAn (by omega)]; exact h1
    · rw [mI_sn (by omega), mI_sAn (by omega), mI_sn (by omega), mI_sAn (by omega)]; exact h2
    · rw [mI_sk (by decide), mI_sAn (by omega), mI_sk (by decide), mI_sAn (by omega)]; exact h3
    · rw [mI_sn (by omega), mI_sAn (by omega), mI_sn (by omega), mI_sAn (by omega)]; exact h4 hb
    · have hj : j < 6 := hj
      rw [mI_sn (by omega), mI_sA, mI_sn (by omega), mI_sA, mI_sn (by omega), mI_sAn (by omega), hsg]
      unfold zPt zSh
      show _ = (if j = 5 then r else g (j + 1)) i
      by_cases hj5 : j = 5
      · rw [if_pos (by omega), if_pos hj5, h1]
        exact congrArg r (by omega)
      · rw [if_neg (by omega), if_pos (by omega), if_neg hj5, ← h6 (j + 1) (by omega) i hi]
        exact congrArg (mI M (mo + 2)) (by omega)
    · rw [mI_sk (by decide), mI_sAn (by omega), mI_sk (by decide), mI_sAn (by omega)]; exact h7
    · rw [mI_sn (by omega), mI_sAn (by omega), mI_sn (by omega), mI_sAn (by omega)]; exact h8
    · rw [mI_sk hk, mI_sAn (by omega), mI_sk hk, mI_sAn (by omega)]
  · have hsg : svG g c r = fun j => if j = c then r else g j := if_neg hc6
    have hsc : svC c = c + 1 := if_neg hc6
    rw [if_neg (show ¬ nI c = (6 : Int32) from fun z => hc6 ((nI_eq (b := 6) (by omega) (by decide)).mp z))]
    unfold f_X9_save_b50
    rw [show (0 : Int32) = nI 0 from rfl, save_go (c := c) (by omega) 626 0 lfuel M rfl (by decide) h5]
    refine ⟨_, rfl, ⟨⟨?_, ?_⟩, ⟨?_, fun hb => ?_⟩, ⟨by rw [hsc]; exact mI_ss, fun j hj i hi => ?_⟩, ?_, ?_⟩, (OutM.sA (by omega) (by omega)).trans (OutM.sI (by omega) (by omega)), fun k hk => ?_⟩
    · rw [mI_sn (by omega), mI_sAn (by omega)]; exact h1
    · rw [mI_sn (by omega), mI_sAn (by omega)]; exact h2
    · rw [mI_sk (by decide), mI_sAn (by omega)]; exact h3
    · rw [mI_sn (by omega), mI_sAn (by omega)]; exact h4 hb
    · rw [hsc] at hj
      rw [mI_sn (by omega), mI_sA, hsg]
      unfold zPt
      show _ = (if j = c then r else g j) i
      by_cases hjc : j = c
      · rw [if_pos (by omega), if_pos hjc, h1]
        exact congrArg r (by omega)
      · rw [if_neg (by omega), if_neg hjc]
        exact h6 j (by omega) i hi
    · rw [mI_sk (by decide), mI_sAn (by omega)]; exact h7
    · rw [mI_sn (by omega), mI_sAn (by omega)]; exact h8
    · rw [mI_sk hk, mI_sAn (by omega)]
theorem keep_go : ∀ (d j n : Nat) (M : Mem), j + d = 626 → d < n → f_X9_keep_b7 mo n (nI j) M = some (mI M (mo + 1) 4, sI (sA M (mo + 3) (zUp (mI M (mo + 3)) (mI M (mo + 1)) j 626)) mo 4 1) := by
  intro d
  induction d with
  | zero =>
    intro j n M hj hn
    obtain ⟨n, rfl⟩ : ∃ k, n = k + 1 := ⟨n - 1, by omega⟩
    have hj : j = 626 := by omega
    subst hj
    rw [f_X9_keep_b7, if_pos (show (626 : Int32) ≤ nI 626 by decide), nb_s, zUp_e, sA_eq, gd_s (by decide), mI_sn (by omega)]
    rfl
  | succ d ih =>
    intro j n M hj hn
    obtain ⟨n, rfl⟩ : ∃ k, n = k + 1 := ⟨n - 1, by omega⟩
    rw [f_X9_keep_b7, if_neg (show ¬ (626 : Int32) ≤ nI j from nI_ge (b := 626) (by omega) (by decide)), gd_s (nI_ix (by omega) (by decide)), gd_s (nI_ix (by omega) (by decide)), nb_s, nb_s, ← nI_succ, nI_clamp (by omega), ih (j + 1) n _ (by omega) (by omega), mI_up, mI_sn (by omega), sA_sI, zUp_step (by omega)]
theorem goB_go : ∀ (d j n : Nat) (M : Mem), j + d = 626 → d < n → f_X9_goBack_b24 mo n (nI j) M = some (zUp (mI M (mo + 1)) (mI M (mo + 3)) j 626 4, sA M (mo + 1) (zUp (mI M (mo + 1)) (mI M (mo + 3)) j 626)) := by
  intro d
  induction d with
  | zero =>
    intro j n M hj hn
    obtain ⟨n, rfl⟩ : ∃ k, n = k + 1 := ⟨n - 1, by omega⟩
    have hj : j = 626 := by omega
    subst hj
    rw [f_X9_goBack_b24, if_pos (show (626 : Int32) ≤ nI 626 by decide), zUp_e, sA_eq, gd_s (by decide)]
    rfl
  | succ d ih =>
    intro j n M hj hn
    obtain ⟨n, rfl⟩ : ∃ k, n = k + 1 := ⟨n - 1, by omega⟩
    rw [f_X9_goBack_b24, if_neg (show ¬ (626 : Int32) ≤ nI j from nI_ge (b := 626) (by omega) (by decide)), gd_s (nI_ix (by omega) (by decide)), gd_s (nI_ix (by omega) (by decide)), nb_s, nb_s, ← nI_succ, nI_clamp (by omega), ih (j + 1) n _ (by omega) (by omega), mI_up, mI_sn (by omega), sA_sI, zUp_step (by omega)]
theorem und_go (h2 : mI M mo 2 = nI c) (hc : c < 6) : ∀ (d j n : Nat) (f : Nat → Int32), j + d = 626 → d < n → f_X9_undo_b30 mo n (nI j) (sA M (mo + 1) f) = some (nI c, sA M (mo + 1) (zUp f (fun i => mI M (mo + 2) (626 * c + i)) j 626)) := by
  intro d
  induction d with
  | zero =>
    intro j n f hj hn
    obtain ⟨n, rfl⟩ : ∃ k, n = k + 1 := ⟨n - 1, by omega⟩
    have hj : j = 626 := by omega
    subst hj
    rw [f_X9_undo_b30, if_pos (show (626 : Int32) ≤ nI 626 by decide), zUp_e, mI_sAn (by omega), h2]
  | succ d ih =>
    intro j n f hj hn
    obtain ⟨n, rfl⟩ : ∃ k, n = k + 1 := ⟨n - 1, by omega⟩
    have ei : ((626 : Int32) * (mI (sA M (mo + 1) f) mo 2)) + nI j = nI (626 * c + j) := by rw [mI_sAn (by omega), h2, show (626 : Int32) = nI 626 from rfl, zM, zA]
    rw [f_X9_undo_b30, if_neg (show ¬ (626 : Int32) ≤ nI j from nI_ge (b := 626) (by omega) (by decide)), ei, gd_s (nI_ix (by omega) (by decide)), gd_s (nI_ix (by omega) (by decide)), nb_s, nb_s, ← nI_succ, nI_clamp (by omega), nI_clamp (by omega), mI_sAn (by omega), sI_sA, ih (j + 1) n _ (by omega) (by omega)]
    have e := zUp_step (s := f) (r := fun i => mI M (mo + 2) (626 * c + i)) (j := j) (e := 626) (by omega)
    rw [← e]
/-- what the reference answers, and its exception -/
def MR (mo : Nat) (M : Mem) (o : Option (Int32 × Mem)) (z y : Int32) (r q : Nat → Int32) (b : Bool) (g : Nat → Nat → Int32) (c : Nat) (t : Nat → Int32) (l : Nat) : Prop := ∃ M', o = some (y, M') ∧ MI mo M' r q b g c t l ∧ OutM mo M M' ∧ mI M' mo 7 = z
theorem fail_m {z : Int32} (h : MI mo M r q b g c t l) : ∃ M', f_X9_fails mo z M = some (0, M') ∧ MI mo M' r q b g c t l ∧ OutM mo M M' ∧ mI M' mo 7 = z := ⟨_, rfl, h.sl (by decide) (by decide) (by decide), OutM.sI (by omega) (by omega), mI_ss⟩
theorem keep_m (h : MI mo M r q b g c t l) : MR mo M (f_X9_keep mo M) 0 (r 4) r r true g c t l := by
  have h0 := h.sl (k := 7) (x := 0) (by decide) (by decide) (by decide)
  obtain ⟨⟨h1, h2⟩, ⟨h3, h4⟩, ⟨h5, h6⟩, h7, h8⟩ := h0
  unfold f_X9_keep
  rw [nb_s, show (0 : Int32) = nI 0 from rfl, keep_go 626 0 lfuel _ rfl (by decide)]
  refine ⟨_, congrArg some (Prod.ext (congrFun h1 4) rfl), ⟨⟨?_, ?_⟩, ⟨mI_ss, fun _ i hi => ?_⟩, ⟨?_, ?_⟩, ?_, ?_⟩, (OutM.sI (by omega) (by omega)).trans ((OutM.sA (by omega) (by omega)).trans (OutM.sI (by omega) (by omega))), ?_⟩
  · rw [mI_sn (by omega), mI_sAn (by omega)]; exact h1
  · rw [mI_sn (by omega), mI_sAn (by omega)]; exact h2
  · rw [mI_sn (by omega), mI_sA]
    unfold zUp
    rw [if_pos ⟨by omega, hi⟩]
    exact congrFun h1 i
  · rw [mI_sk (by decide), mI_sAn (by omega)]; exact h5
  · rw [mI_sn (by omega), mI_sAn (by omega)]; exact h6
  · rw [mI_sk (by decide), mI_sAn (by omega)]; exact h7
  · rw [mI_sn (by omega), mI_sAn (by omega)]; exact h8
  · rw [mI_sk (by decide), mI_sAn (by omega), mI_ss]
/-- the snapshot laid over the row -/
def ovr (r q : Nat → Int32) : Nat → Int32 := fun i => if i < 626 then q i else r i
theorem back_m (h : MI mo M r q true g c t l) (hc : c ≤ 6) : MR mo M (f_X9_goBack mo M) 0 (q 4) (ovr r q) q true (svG g c r) (svC c) t l := by
  have h0 := h.sl (k := 7) (x := 0) (by decide) (by decide) (by decide)
  obtain ⟨M1, e1, h1, o1, k1⟩ := save_m h0 hc
  unfold f_X9_goBack
  rw [nb_s, mI_sk (by decide), h.2.1.1, if_neg (show ¬ bI true = 0 by decide), e1, vb_s, show (0 : Int32) = nI 0 from rfl, goB_go 626 0 lfuel _ rfl (by decide)]
  have ez : zUp (mI M1 (mo + 1)) (mI M1 (mo + 3)) 0 626 = ovr r q := by
    funext i
    unfold zUp ovr
    by_cases hi : i < 626
    · rw [if_pos ⟨by omega, hi⟩, if_pos hi]; exact h1.2.1.2 rfl i hi
    · rw [if_neg (fun z => hi z.2), if_neg hi]; exact congrFun h1.1.1 i
  rw [ez]
  refine ⟨_, rfl, h1.row, ((OutM.sI (by omega) (by omega)).trans o1).trans (OutM.sA (by omega) (by omega)), ?_⟩
  rw [mI_sAn (by omega), k1 7 (by decide), mI_ss]
  rfl
theorem nback_m (h : MI mo M r q false g c t l) : MR mo M (f_X9_goBack mo M) 1 0 r q false g c t l := by
  have h0 := h.sl (k := 7) (x := 0) (by decide) (by decide) (by decide)
  obtain ⟨M1, e1, h1, o1, k1⟩ := fail_m (z := 1) h0
  unfold f_X9_goBack
  rw [nb_s, mI_sk (by decide), h.2.1.1, if_pos (show bI false = 0 by decide), e1, cb_s]
  exact ⟨_, rfl, h1, (OutM.sI (by omega) (by omega)).trans o1, k1⟩
theorem undo_m (h : MI mo M r q b g (c + 1) t l) (hc : c < 6) : MR mo M (f_X9_undo mo M) 0 (nI c) (ovr r (g c)) q b g c t l := by
  have h0 := h.sl (k := 7) (x := 0) (by decide) (by decide) (by decide)
  obtain ⟨⟨h1, h2⟩, ⟨h3, h4⟩, ⟨h5, h6⟩, h7, h8⟩ := h0
  unfold f_X9_undo
  rw [nb_s, h5, if_neg (nI_ne0 (by omega) (by omega)), nb_s, nI_pred]
  generalize hM2 : sI (sI M mo 7 0) mo 2 (nI c) = M2
  have e2 : mI M2 mo 2 = nI c := by rw [← hM2]; exact mI_ss
  have f2 : ∀ b, b ≠ mo → mI M2 b = mI (sI M mo 7 0) b := fun b hb => by rw [← hM2]; exact mI_sn hb
  have g2 : ∀ k, k ≠ 2 → mI M2 mo k = mI (sI M mo 7 0) mo k := fun k hk => by rw [← hM2]; exact mI_sk hk
  have ug := und_go (M := M2) (mo := mo) e2 hc 626 0 lfuel (mI M2 (mo + 1)) rfl (by decide)
  rw [sA_eq] at ug
  rw [show (0 : Int32) = nI 0 from rfl, ug]
  have ez : zUp (mI M2 (mo + 1)) (fun i => mI M2 (mo + 2) (626 * c + i)) 0 626 = ovr r (g c) := by
    funext i
    unfold zUp ovr
    by_cases hi : i < 626
    · rw [if_pos ⟨by omega, hi⟩, if_pos hi, f2 _ (by omega)]; exact h6 c (by omega) i hi
    · rw [if_neg (fun z => hi z.2), if_neg hi, f2 _ (by omega)]; exact congrFun h1 i
  rw [ez]
  refine ⟨_, rfl, MI.row (r := r) ⟨⟨by rw [f2 _ (by omega)]; exact h1, by rw [f2 _ (by omega)]; exact h2⟩, ⟨by rw [g2 4 (by decide)]; exact h3, by rw [f2 _ (by omega)]; exact h4⟩, ⟨e2, fun j hj => by rw [f2 _ (by omega)]; exact h6 j (by omega)⟩, by rw [g2 9 (by decide)]; exact h7, by rw [f2 _ (by omega)]; exact h8⟩, ?_, ?_⟩
  · rw [← hM2]
    exact ((OutM.sI (by omega) (by omega)).trans (OutM.sI (by omega) (by omega))).trans (OutM.sA (by omega) (by omega))
  · rw [mI_sAn (by omega), g2 7 (by decide), mI_ss]
    rfl
theorem nundo_m (h : MI mo M r q b g 0 t l) : MR mo M (f_X9_undo mo M) 1 0 r q b g 0 t l := by
  have h0 := h.sl (k := 7) (x := 0) (by decide) (by decide) (by decide)
  obtain ⟨M1, e1, h1, o1, k1⟩ := fail_m (z := 1) h0
  unfold f_X9_undo
  rw [nb_s, mI_sk (by decide), h.2.2.1.1, if_pos (show nI 0 = 0 from rfl), e1, cb_s]
  exact ⟨_, rfl, h1, (OutM.sI (by omega) (by omega)).trans o1, k1⟩
end MSTATE
