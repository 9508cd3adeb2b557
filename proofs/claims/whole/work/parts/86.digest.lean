/-! THE LAW. Both digests, side by side -/
section DIG
variable {M M1 M' N : Mem} {x n c l v K : Nat} {r q t : Nat → Int32} {g : Nat → Nat → Int32} {b : Bool} {y z p : Int32} {h h' : Int64} {ρ : Type} {wr : Int64 → Mem → ρ}
/-- what the reference holds while it mixes -/
def MH (x : Nat) (N : Mem) (r q : Nat → Int32) (b : Bool) (g : Nat → Nat → Int32) (c : Nat) (t : Nat → Int32) (l : Nat) (h : Int64) : Prop := MI (x + 1095) N r q b g c t l ∧ mJ N (x + 1095) = h
theorem mix_T (z : Int64) (hN : MH x N r q b g c t l h) : ∃ N', f_X9_mix (x + 1095) z N = some N' ∧ MH x N' r q b g c t l (31 * h + z) ∧ OutM (x + 1095) N N' := by
  obtain ⟨h1, h2⟩ := hN
  refine ⟨sJ N (x + 1095) (31 * h + z), ?_, ⟨h1.out fun b hb => rfl, ?_⟩, ?_⟩
  · unfold f_X9_mix
    rw [nb_s, h2]
  · rw [mJ_sJ, if_pos rfl]
  · exact ⟨fun _ _ => rfl, rfl, fun b hb => by rw [mJ_sJ, if_neg hb], rfl⟩
theorem MH.lk {N' : Mem} (hN : MH x N r q b g c t l h) (hk : LkM (x + 1095) N N') : MH x N' r q b g c t l h := ⟨hN.1.lk hk, by
  rw [← hN.2]
  show N'.2.2.1 _ = N.2.2.1 _
  rw [hk.2]⟩
/-- a turn of both -/
def ST (x n : Nat) (r q : Nat → Int32) (b : Bool) (g : Nat → Nat → Int32) (c : Nat) (t : Nat → Int32) (l : Nat) {ρ : Type} (fc : Nat → Int64 → Int32 → Mem → Option (Int64 × Mem)) (fm : Nat → Int32 → Mem → Option ρ) (j : Nat) : Prop :=
  ∀ M h, CI x M n r q b g c t l → ∃ h' M', (∀ k, fc (k + 1) h (nI j) M = fc k h' (nI (j + 1)) M') ∧ Lk x M M' ∧ ∀ N, MH x N r q b g c t l h → ∃ N', (∀ k, fm (k + 1) (nI j) N = fm k (nI (j + 1)) N') ∧ MH x N' r q b g c t l h' ∧ OutM (x + 1095) N N'
/-- both go on to their ends with the same number -/
def SM2 (x n : Nat) (r q : Nat → Int32) (b : Bool) (g : Nat → Nat → Int32) (c : Nat) (t : Nat → Int32) (l : Nat) {ρ : Type} (wr : Int64 → Mem → ρ) (fc : Int64 → Mem → Option (Int64 × Mem)) (fm : Mem → Option ρ) : Prop :=
  ∀ M h, CI x M n r q b g c t l → ∃ h' M', fc h M = some (h', M') ∧ Lk x M M' ∧ ∀ N, MH x N r q b g c t l h → ∃ N', fm N = some (wr h' N') ∧ MH x N' r q b g c t l h' ∧ OutM (x + 1095) N N'
theorem loop_T {fc : Nat → Int64 → Int32 → Mem → Option (Int64 × Mem)} {fm : Nat → Int32 → Mem → Option ρ} {ec : Int64 → Mem → Option (Int64 × Mem)} {em : Mem → Option ρ} (K : Nat) (hc : ∀ k h M, CI x M n r q b g c t l → fc (k + 1) h (nI K) M = ec h M) (hm : ∀ k N h, MH x N r q b g c t l h → fm (k + 1) (nI K) N = em N) (hs : ∀ j, j < K → ST x n r q b g c t l fc fm j) (he : SM2 x n r q b g c t l wr ec em) (hK : K < 10000) : SM2 x n r q b g c t l wr (fun h M => fc lfuel h 0 M) (fun N => fm lfuel 0 N) := by
  have go : ∀ (d j k1 k2 : Nat), j + d = K → d < k1 → d < k2 → SM2 x n r q b g c t l wr (fun h M => fc k1 h (nI j) M) (fun N => fm k2 (nI j) N) := by
    intro d
    induction d with
    | zero =>
      intro j k1 k2 hj h1 h2 M h hC
      obtain ⟨k1, rfl⟩ := Nat.exists_eq_succ_of_ne_zero (show k1 ≠ 0 by omega)
      obtain ⟨k2, rfl⟩ := Nat.exists_eq_succ_of_ne_zero (show k2 ≠ 0 by omega)
      have hj : j = K := by omega
      subst hj
      obtain ⟨h', M', e1, e2, e3⟩ := he M h hC
      refine ⟨h', M', (hc k1 h M hC).trans e1, e2, fun N hN => ?_⟩
      obtain ⟨N', f1, f2, f3⟩ := e3 N hN
      exact ⟨N', (hm k2 N h hN).trans f1, f2, f3⟩
    | succ d ih =>
      intro j k1 k2 hj h1 h2 M h hC
      obtain ⟨k1, rfl⟩ := Nat.exists_eq_succ_of_ne_zero (show k1 ≠ 0 by omega)
      obtain ⟨k2, rfl⟩ := Nat.exists_eq_succ_of_ne_zero (show k2 ≠ 0 by omega)
      obtain ⟨h1', M1, e1, e2, e3⟩ := hs j (by omega) M h hC
      obtain ⟨h', M', f1, f2, f3⟩ := ih (j + 1) k1 k2 (by omega) (by omega) (by omega) M1 h1' (hC.lk e2)
      refine ⟨h', M', (e1 k1).trans f1, e2.trans f2, fun N hN => ?_⟩
      obtain ⟨N1, a1, a2, a3⟩ := e3 N hN
      obtain ⟨N', b1, b2, b3⟩ := f3 N1 a2
      exact ⟨N', (a1 k2).trans b1, b2, a3.trans b3⟩
  exact go K 0 lfuel lfuel (by omega) (by unfold lfuel; omega) (by unfold lfuel; omega)
theorem toL_m {d : UInt64} (hd : DN d) : f_Jxe99ae_doubleToLongBits_ccdee d M = some d.toInt64 := by
  unfold f_Jxe99ae_doubleToLongBits_ccdee f_Jxe99ae_isNaN_b9ae7
  rw [hd.same, cv_eq, if_pos rfl, vb_s, if_pos rfl]
theorem toI_m {d : UInt32} (hd : FN d) : f_Jxf58ca_floatToIntBits_5c35a d M = some d.toInt32 := by
  unfold f_Jxf58ca_floatToIntBits_5c35a f_Jxf58ca_isNaN_12338
  rw [hd.same, cv_eq, if_pos rfl, vb_s, if_pos rfl]
theorem d_173 (hn : n ≤ 512) (hv : v < 3) {h0 : Int64} : SM2 x n r q b g c t l (fun _ N => N) (fun h M => f_X8_withVoice_b173 x h0 (x + 5 + 44 * v) lfuel h 0 M) (fun N => f_X9_mixVoice_b148 (x + 1095) (nI v) lfuel 0 N) := by
  refine loop_T (fc := f_X8_withVoice_b173 x h0 (x + 5 + 44 * v)) (fm := f_X9_mixVoice_b148 (x + 1095) (nI v)) (ec := fun h M => f_X8_withVoice_b173 x h0 (x + 5 + 44 * v) 1 h 4 M) (em := fun N => f_X9_mixVoice_b148 (x + 1095) (nI v) 1 4 N) 4 ?_ ?_ ?_ ?_ (by omega)
  · intro k h M hC
    rw [f_X8_withVoice_b173, f_X8_withVoice_b173, if_pos (by decide), if_pos (by decide)]
  · intro k N h hN
    rw [f_X9_mixVoice_b148, f_X9_mixVoice_b148, if_pos (by decide), if_pos (by decide)]
  · intro j hj M h hC
    obtain ⟨y, M', e, lk, hm⟩ := would_T hC hv (j := j) (by omega) (by omega)
    refine ⟨31 * h + y.toInt64, M', fun k => ?_, lk, fun N hN => ?_⟩
    · rw [f_X8_withVoice_b173, if_neg (show ¬ (3 : Int32) < nI j from nI_nlt (a := 3) (by omega) (by decide)), e, cb_s, f_X8_mixed, vb_s, nb_s, ← nI_succ]
    · obtain ⟨N1, e1, k1⟩ := hm N hN.1
      obtain ⟨N', e2, h2, o2⟩ := mix_T y.toInt64 (hN.lk k1)
      refine ⟨N', fun k => ?_, h2, k1.out.trans o2⟩
      rw [f_X9_mixVoice_b148, if_neg (show ¬ (4 : Int32) ≤ nI j from nI_ge (b := 4) (by omega) (by decide)), e1, cb_s, e2, vb_s, nb_s, ← nI_succ]
  · intro M h hC
    obtain ⟨d, e, hd, hm⟩ := mean_T hC hn hv
    refine ⟨31 * h + d.toInt64, M, ?_, Lk.rf, fun N hN => ?_⟩
    · show f_X8_withVoice_b173 x h0 (x + 5 + 44 * v) 1 h 4 M = _
      rw [f_X8_withVoice_b173, if_pos (by decide), e, vb_s, bD hd, vb_s, f_X8_mixed, vb_s]
    · obtain ⟨N', e2, h2, o2⟩ := mix_T d.toInt64 hN
      refine ⟨N', ?_, h2, o2⟩
      show f_X9_mixVoice_b148 (x + 1095) (nI v) 1 4 N = _
      rw [f_X9_mixVoice_b148, if_pos (by decide), hm N hN.1, vb_s, toL_m hd, vb_s, e2, vb_s]
theorem d_123 (hn : n ≤ 512) (hv : v < 3) {h0 : Int64} : SM2 x n r q b g c t l (fun _ N => N) (fun h M => f_X8_withVoice_b123 x h0 (x + 5 + 44 * v) lfuel h 0 M) (fun N => f_X9_mixVoice_b107 (x + 1095) (nI v) lfuel 0 N) := by
  refine loop_T (fc := f_X8_withVoice_b123 x h0 (x + 5 + 44 * v)) (fm := f_X9_mixVoice_b107 (x + 1095) (nI v)) (ec := fun h M => f_X8_withVoice_b123 x h0 (x + 5 + 44 * v) 1 h 5 M) (em := fun N => f_X9_mixVoice_b107 (x + 1095) (nI v) 1 5 N) 5 ?_ ?_ ?_ ?_ (by omega)
  · intro k h M hC
    rw [f_X8_withVoice_b123, f_X8_withVoice_b123, if_pos (by decide), if_pos (by decide)]
  · intro k N h hN
    rw [f_X9_mixVoice_b107, f_X9_mixVoice_b107, if_pos (by decide), if_pos (by decide)]
  · intro j hj M h hC
    obtain ⟨y, M', e, lk, hm⟩ := code_T (p := 100) hC hv (by unfold B2; decide) (j := j) (by omega)
    refine ⟨31 * h + y.toInt64, M', fun k => ?_, lk, fun N hN => ?_⟩
    · rw [f_X8_withVoice_b123, if_neg (show ¬ (4 : Int32) < nI j from nI_nlt (a := 4) (by omega) (by decide)), e, cb_s, f_X8_mixed, vb_s, nb_s, ← nI_succ]
    · obtain ⟨N', e2, h2, o2⟩ := mix_T y.toInt64 hN
      refine ⟨N', fun k => ?_, h2, o2⟩
      rw [f_X9_mixVoice_b107, if_neg (show ¬ (5 : Int32) ≤ nI j from nI_ge (b := 5) (by omega) (by decide)), hm N hN.1, vb_s, e2, vb_s, nb_s, ← nI_succ]
  · intro M h hC
    obtain ⟨y, M1, e, lk, hm⟩ := settle_T (p := -500) (z := 50) hC hv (by unfold B2; decide)
    obtain ⟨h', M', e1, l1, m1⟩ := d_173 hn hv (h0 := h0) M1 (31 * h + y.toInt64) (hC.lk lk)
    refine ⟨h', M', ?_, lk.trans l1, fun N hN => ?_⟩
    · show f_X8_withVoice_b123 x h0 (x + 5 + 44 * v) 1 h 5 M = _
      rw [f_X8_withVoice_b123, if_pos (by decide), e, cb_s, f_X8_mixed, vb_s]
      exact e1
    · obtain ⟨N1, e2, h2, o2⟩ := mix_T y.toInt64 hN
      obtain ⟨N', e3, h3, o3⟩ := m1 N1 h2
      refine ⟨N', ?_, h3, o2.trans o3⟩
      show f_X9_mixVoice_b107 (x + 1095) (nI v) 1 5 N = _
      rw [f_X9_mixVoice_b107, if_pos (by decide), hm N hN.1, vb_s, e2, vb_s]
      exact e3
theorem pk_T {j : Nat} (hC : CI x M n r q b g c t l) (hv : v < 3) {W : Nat} (h38 : vo r v 38 = nI W) (hW : W ≤ 8) (hj : j < W) (h : Int64) : ∃ h', f_X8_withPacket h (mR M (x + 5 + 44 * v + 11) j) M = some h' ∧ ∀ N, MH x N r q b g c t l h → ∃ N', (∀ kf : Int32 → Mem → Option Mem, f_X9_mixVoice_b65 (x + 1095) (nI v) kf lfuel (nI j) 0 N = kf (nI (j + 1)) N') ∧ MH x N' r q b g c t l h' ∧ OutM (x + 1095) N N' := by
  have go : ∀ (d i k1 k2 : Nat) (hp h : Int64), i + d = 6 → d < k1 → d < k2 → ∃ h', f_X8_withPacket_b5 hp (mR M (x + 5 + 44 * v + 11) j) k1 h (nI i) M = some h' ∧ ∀ N, MH x N r q b g c t l h → ∃ N', (∀ kf : Int32 → Mem → Option Mem, f_X9_mixVoice_b65 (x + 1095) (nI v) kf k2 (nI j) (nI i) N = kf (nI (j + 1)) N') ∧ MH x N' r q b g c t l h' ∧ OutM (x + 1095) N N' := by
    intro d
    induction d with
    | zero =>
      intro i k1 k2 hp h hi h1 h2
      obtain ⟨k1, rfl⟩ := Nat.exists_eq_succ_of_ne_zero (show k1 ≠ 0 by omega)
      obtain ⟨k2, rfl⟩ := Nat.exists_eq_succ_of_ne_zero (show k2 ≠ 0 by omega)
      have hi : i = 6 := by omega
      subst hi
      refine ⟨h, ?_, fun N hN => ⟨N, fun kf => ?_, hN, OutM.rf⟩⟩
      · rw [f_X8_withPacket_b5, if_pos (by decide)]
      · rw [f_X9_mixVoice_b65, if_pos (by decide), nb_s, ← nI_succ]
    | succ d ih =>
      intro i k1 k2 hp h hi h1 h2
      obtain ⟨k1, rfl⟩ := Nat.exists_eq_succ_of_ne_zero (show k1 ≠ 0 by omega)
      obtain ⟨k2, rfl⟩ := Nat.exists_eq_succ_of_ne_zero (show k2 ≠ 0 by omega)
      obtain ⟨y, e, hm⟩ := packet_T hC hv h38 hW hj (j := i) (by omega)
      obtain ⟨h', a1, a2⟩ := ih (i + 1) k1 k2 hp (31 * h + y.toInt64) (by omega) (by omega) (by omega)
      refine ⟨h', ?_, fun N hN => ?_⟩
      · rw [f_X8_withPacket_b5, if_neg (show ¬ (5 : Int32) < nI i from nI_nlt (a := 5) (by omega) (by decide)), e, vb_s, f_X8_mixed, vb_s, nb_s, ← nI_succ]
        exact a1
      · obtain ⟨N1, e2, h2, o2⟩ := mix_T y.toInt64 hN
        obtain ⟨N', b1, b2, b3⟩ := a2 N1 h2
        refine ⟨N', fun kf => ?_, b2, o2.trans b3⟩
        rw [f_X9_mixVoice_b65, if_neg (show ¬ (6 : Int32) ≤ nI i from nI_ge (b := 6) (by omega) (by decide)), hm N hN.1, vb_s, e2, vb_s, nb_s, ← nI_succ]
        exact b1 kf
  exact go 6 0 lfuel lfuel h h (by omega) (by unfold lfuel; omega) (by unfold lfuel; omega)
end DIG
