/-! LOOKS. What the class tells, by the row -/
theorem n9 : (9 : Int32) = nI 9 := rfl
theorem n11 : (11 : Int32) = nI 11 := rfl
theorem n5 : (5 : Int32) = nI 5 := rfl
theorem n7 : (7 : Int32) = nI 7 := rfl
theorem n4 : (4 : Int32) = nI 4 := rfl
theorem n3 : (3 : Int32) = nI 3 := rfl
def sayR (w : Nat → Int32) (j : Nat) : Int32 := match j with
  | 0 => w 0
  | 1 => w 1
  | 2 => cSTEPS (w 1).toNatClampNeg
  | 3 => w 2
  | 4 => w 3
  | 5 => w 4
  | 6 => w 21
  | 7 => w 22
  | 8 => w 0
  | _ => w 38
def hearR (w : Nat → Int32) (j : Nat) : Int32 := match j with
  | 0 => w 26
  | 1 => w 27
  | 2 => cSTEPS (w 27).toNatClampNeg
  | 3 => w 28
  | 4 => w 29
  | 5 => w 30
  | 6 => w 31
  | 7 => w 32
  | 8 => w 33
  | 9 => w 34
  | 10 => w 35
  | _ => w 36
section LOOK2
variable {M M1 M' N : Mem} {x a e s d n m c l v j k i : Nat} {r q w t f u : Nat → Int32} {g : Nat → Nat → Int32} {b : Bool} {y p p1 p2 p3 z : Int32}
theorem saying_T (h : CI x M n r q b g c t l) (hv : v < 3) (hj : j ≤ 9) : ∃ M', f_X8_saying x (nI v) (nI j) M = some (0, sayR (vo r v) j, M') ∧ Lk x M M' := by
  obtain ⟨hV, hW, hB, hS, hR⟩ := h.rv hv
  obtain ⟨w0, w1, w2, w3, w4⟩ := hV.cells
  obtain ⟨k22, k21, k38, k36, k37⟩ := hV.cnt
  obtain ⟨i, hi, ei⟩ := hB.1.1.1.2
  have st : f_X0_step (x + 5 + 44 * v + 1 + 1) M = some (cSTEPS i) := step_c (e := x + 5 + 44 * v + 2) (w1.trans ei) hi
  have ej : (vo r v 1).toNatClampNeg = i := by rw [ei, nI_clamp (by omega)]
  have main : ∃ M', f_X8_tellSaying x (x + 5 + 44 * v) (nI j) M = some (sayR (vo r v) j, M') ∧ Lk x M M' := by
    unfold f_X8_tellSaying
    match j, hj with
    | 0, _ => exact ⟨M, by rw [if_pos (show nI 0 = 0 from rfl)]; exact congrArg (fun z => some (z, M)) w0, Lk.rf⟩
    | 1, _ => exact ⟨M, by rw [if_neg (by decide), if_pos (by decide)]; exact congrArg (fun z => some (z, M)) w1, Lk.rf⟩
    | 2, _ =>
      refine ⟨M, ?_, Lk.rf⟩
      rw [if_neg (by decide), if_neg (by decide), if_pos (by decide), st, vb_s]
      show _ = some (cSTEPS (vo r v 1).toNatClampNeg, M)
      rw [ej]
    | 3, _ => exact ⟨M, by rw [if_neg (by decide), if_neg (by decide), if_neg (by decide), if_pos (by decide)]; exact congrArg (fun z => some (z, M)) w2, Lk.rf⟩
    | 4, _ => exact ⟨M, by rw [if_neg (by decide), if_neg (by decide), if_neg (by decide), if_neg (by decide), if_pos (by decide)]; exact congrArg (fun z => some (z, M)) w3, Lk.rf⟩
    | 5, _ => exact ⟨M, by rw [if_neg (by decide), if_neg (by decide), if_neg (by decide), if_neg (by decide), if_neg (by decide), if_pos (by decide)]; exact congrArg (fun z => some (z, M)) w4, Lk.rf⟩
    | 6, _ => exact ⟨M, by rw [if_neg (by decide), if_neg (by decide), if_neg (by decide), if_neg (by decide), if_neg (by decide), if_neg (by decide), if_pos (by decide)]; exact congrArg (fun z => some (z, M)) k21, Lk.rf⟩
    | 7, _ => exact ⟨M, by rw [if_neg (by decide), if_neg (by decide), if_neg (by decide), if_neg (by decide), if_neg (by decide), if_neg (by decide), if_neg (by decide), if_pos (by decide)]; exact congrArg (fun z => some (z, M)) k22, Lk.rf⟩
    | 8, _ => exact ⟨_, by rw [if_neg (by decide), if_neg (by decide), if_neg (by decide), if_neg (by decide), if_neg (by decide), if_neg (by decide), if_neg (by decide), if_neg (by decide), if_pos (by decide), since_c hV hB.1.1 (by omega), cb_s]; rfl, Lk.sE⟩
    | 9, _ => exact ⟨M, by rw [if_neg (by decide), if_neg (by decide), if_neg (by decide), if_neg (by decide), if_neg (by decide), if_neg (by decide), if_neg (by decide), if_neg (by decide), if_neg (by decide)]; exact congrArg (fun z => some (z, M)) k38, Lk.rf⟩
  obtain ⟨M', e, lk⟩ := main
  refine ⟨M', ?_, lk⟩
  unfold f_X8_saying
  rw [voice_ok hv, xb_s, n9, reqW_ok hj (by decide), xb_s, e, cb_s]
theorem hearing_T (h : CI x M n r q b g c t l) (hv : v < 3) (hj : j ≤ 11) : f_X8_hearing x (nI v) (nI j) M = some (0, hearR (vo r v) j, M) := by
  obtain ⟨hV, hW, hB, hS, hR⟩ := h.rv hv
  obtain ⟨w26, w27, wk⟩ := hV.ear
  obtain ⟨k22, k21, k38, k36, k37⟩ := hV.cnt
  obtain ⟨i, hi, ei⟩ := hB.1.2.2
  have st : f_X0_step (x + 5 + 44 * v + 9 + 1) M = some (cSTEPS i) := step_c (e := x + 5 + 44 * v + 10) (w27.trans ei) hi
  have ej : (vo r v 27).toNatClampNeg = i := by rw [ei, nI_clamp (by omega)]
  have main : f_X8_tellHearing x (x + 5 + 44 * v) (nI j) M = some (hearR (vo r v) j) := by
    unfold f_X8_tellHearing f_X1_tell
    match j, hj with
    | 0, _ => rw [if_neg (by decide), if_pos (by decide), vb_s]; exact congrArg some w26
    | 1, _ => rw [if_neg (by decide), if_neg (by decide), if_pos (by decide), vb_s]; exact congrArg some w27
    | 2, _ =>
      rw [if_neg (by decide), if_neg (by decide), if_neg (by decide), if_pos (by decide), st, vb_s, vb_s]
      show _ = some (cSTEPS (vo r v 27).toNatClampNeg)
      rw [ej]
    | 3, _ => rw [if_neg (by decide), if_neg (by decide), if_neg (by decide), if_neg (by decide), if_pos (by decide), vb_s]; exact congrArg some (wk 1 (by decide) (by decide))
    | 4, _ => rw [if_neg (by decide), if_neg (by decide), if_neg (by decide), if_neg (by decide), if_neg (by decide), if_pos (by decide), vb_s]; exact congrArg some (wk 2 (by decide) (by decide))
    | 5, _ => rw [if_neg (by decide), if_neg (by decide), if_neg (by decide), if_neg (by decide), if_neg (by decide), if_neg (by decide), if_pos (by decide), vb_s]; exact congrArg some (wk 3 (by decide) (by decide))
    | 6, _ => rw [if_neg (by decide), if_neg (by decide), if_neg (by decide), if_neg (by decide), if_neg (by decide), if_neg (by decide), if_neg (by decide), if_pos (by decide), vb_s]; exact congrArg some (wk 4 (by decide) (by decide))
    | 7, _ => rw [if_neg (by decide), if_neg (by decide), if_neg (by decide), if_neg (by decide), if_neg (by decide), if_neg (by decide), if_neg (by decide), if_neg (by decide), if_pos (by decide), vb_s]; exact congrArg some (wk 5 (by decide) (by decide))
    | 8, _ => rw [if_neg (by decide), if_neg (by decide), if_neg (by decide), if_neg (by decide), if_neg (by decide), if_neg (by decide), if_neg (by decide), if_neg (by decide), if_neg (by decide), if_pos (by decide), vb_s]; exact congrArg some (wk 6 (by decide) (by decide))
    | 9, _ => rw [if_neg (by decide), if_neg (by decide), if_neg (by decide), if_neg (by decide), if_neg (by decide), if_neg (by decide), if_neg (by decide), if_neg (by decide), if_neg (by decide), if_neg (by decide), if_pos (by decide), vb_s]; exact congrArg some (wk 7 (by decide) (by decide))
    | 10, _ => rw [if_neg (by decide), if_neg (by decide), if_neg (by decide), if_neg (by decide), if_neg (by decide), if_neg (by decide), if_neg (by decide), if_neg (by decide), if_neg (by decide), if_neg (by decide), if_neg (by decide), vb_s]; exact congrArg some (wk 8 (by decide) (by decide))
    | 11, _ => rw [if_pos (by decide)]; exact congrArg some k36
  unfold f_X8_hearing
  rw [voice_ok hv, xb_s, n11, reqW_ok hj (by decide), xb_s, main, vb_s]
def pkR (u : Nat → Int32) (qq j : Nat) : Int32 := match j with
  | 0 => u 0
  | 1 => u 1
  | 2 => u 2
  | 3 => u 3
  | 4 => u 4
  | _ => zOne u qq 0 0
theorem packet_T {qq : Nat} (h : CI x M n r q b g c t l) (hv : v < 3) (h38 : vo r v 38 = nI m) (hm : m ≤ 8) (hi : i < m) (hj : j ≤ 5) (hq : vo r v (39 + 21 * i + 1) = nI qq) (hq8 : qq ≤ 8) : f_X8_packet x (nI v) (nI i) (nI j) M = some (0, pkR (fun k => vo r v (39 + 21 * i + k)) qq j, M) := by
  obtain ⟨hV, hW, hB, hS, hR⟩ := h.rv hv
  have h3 : mI M (x + 5 + 44 * v) 3 = nI m := hV.2.1.1.trans h38
  have ep : f_X7_packetAt (x + 5 + 44 * v) (nI i) M = some (some (mR M (x + 5 + 44 * v + 11) i)) := by
    unfold f_X7_packetAt
    rw [if_neg (nI_pos (by omega)), h3, if_neg (nI_ge hi (by omega)), if_neg (show ¬ (8 : Int32) ≤ nI i from nI_ge (b := 8) (by omega) (by decide)), gd_s (nI_ix (by omega) (by decide)), nb_s, nI_clamp (by omega)]
  obtain ⟨-, -, W, hW8, w38, hP⟩ := hV
  have eW : W = m := (nI_eq (by omega) (by omega)).mp (w38.symm.trans h38)
  subst eW
  have hp := hP i hi
  unfold f_X8_packet
  rw [voice_ok hv, xb_s, ep, vb_s, ob_s, n5, reqW_ok hj (by decide), xb_s]
  generalize mR M (x + 5 + 44 * v + 11) i = p at hp
  obtain ⟨qq', q8, u1, p2, p3, p4, ph, pc⟩ := hp
  have eq : qq' = qq := (nI_eq (by omega) (by omega)).mp (u1.symm.trans hq)
  subst eq
  replace u1 : vo r v (39 + 21 * i + 1) = nI qq' := u1
  replace p3 : mI M p 3 = vo r v (39 + 21 * i) := p3
  replace p4 : mI M p 4 = vo r v (39 + 21 * i + 2) := p4
  replace ph : vo r v (39 + 21 * i + 2) = 0 ∧ vo r v (39 + 21 * i + 3) = -10000 ∧ vo r v (39 + 21 * i + 4) = -10000 ∨ vo r v (39 + 21 * i + 2) = 1 ∧ mI M (p + 3) 0 = vo r v (39 + 21 * i + 3) ∧ mI M (p + 3) 1 = vo r v (39 + 21 * i + 4) := ph
  have main : f_X2_tell p (nI j) M = some (pkR (fun k => vo r v (39 + 21 * i + k)) qq' j) := by
    unfold f_X2_tell
    match j, hj with
    | 0, _ => rw [if_pos (by decide)]; exact congrArg some p3
    | 1, _ => rw [if_neg (by decide), if_pos (by decide)]; exact congrArg some (p2.trans u1.symm)
    | 2, _ =>
      rw [if_neg (by decide), if_neg (by decide), if_pos (by decide), p4]
      show _ = some (vo r v (39 + 21 * i + 2))
      rcases ph with ⟨z, -⟩ | ⟨z, -⟩
      · rw [z, if_pos rfl]
      · rw [z, if_neg (by decide)]
    | 3, _ =>
      rw [if_neg (by decide), if_neg (by decide), if_neg (by decide), if_pos (by decide), p4]
      show _ = some (vo r v (39 + 21 * i + 3))
      rcases ph with ⟨z, z2, -⟩ | ⟨z, z2, -⟩
      · rw [z, if_pos rfl, z2]
      · rw [z, if_neg (by decide), z2]
    | 4, _ =>
      rw [if_neg (by decide), if_neg (by decide), if_neg (by decide), if_neg (by decide), if_pos (by decide), p4]
      show _ = some (vo r v (39 + 21 * i + 4))
      rcases ph with ⟨z, -, z2⟩ | ⟨z, -, z2⟩
      · rw [z, if_pos rfl, z2]
      · rw [z, if_neg (by decide), z2]
    | 5, _ =>
      rw [if_neg (by decide), if_neg (by decide), if_neg (by decide), if_neg (by decide), if_neg (by decide)]
      unfold f_X2_codesAsOne
      rw [show f_X2_codesAsOne_b4 p lfuel 0 0 M = f_X2_codesAsOne_b4 p lfuel 0 (nI 0) M from rfl, one_c (u := fun k => vo r v (39 + 21 * i + k)) q8 p2 (fun j hj => (pc j hj).1) qq' 0 lfuel 0 (by omega) (by unfold lfuel; omega), vb_s]
      rfl
  rw [main, vb_s]
def codeR (w : Nat → Int32) (p : Int32) (j : Nat) : Int32 := match j with
  | 0 => zK p (w 0) (cSTEPS (w 1).toNatClampNeg)
  | 1 => zG (w 0) (cSTEPS (w 1).toNatClampNeg) (zK p (w 0) (cSTEPS (w 1).toNatClampNeg))
  | 2 => zI (w 1) (zK p (w 0) (cSTEPS (w 1).toNatClampNeg))
  | 3 => nI (zNr (zFar (w 0) (cSTEPS (w 1).toNatClampNeg) p) 15 1 0)
  | _ => zG (w 0) (cSTEPS (w 1).toNatClampNeg) (nI (zNr (zFar (w 0) (cSTEPS (w 1).toNatClampNeg) p) 15 1 0))
theorem code_T (h : CI x M n r q b g c t l) (hv : v < 3) (hx : B2 p) (hj : j ≤ 4) : ∃ M', f_X8_code x (nI v) p (nI j) M = some (0, codeR (vo r v) p j, M') ∧ Lk x M M' := by
  obtain ⟨hV, hW, hB, hS, hR⟩ := h.rv hv
  obtain ⟨w0, w1, -⟩ := hV.cells
  obtain ⟨b0, i, hi, ei⟩ := hB.1.1.1
  have ej : (vo r v 1).toNatClampNeg = i := by rw [ei, nI_clamp (by omega)]
  have cp : f_X0_copyFrom (x + 276) (x + 5 + 44 * v + 1 + 1) M = some (sE M (x + 276) (vo r v 0, vo r v 1)) := by
    rw [ecopy_c]
    show some (sE M (x + 276) (mI M (x + 5 + 44 * v + 2) 0, mI M (x + 5 + 44 * v + 2) 1)) = _
    rw [w0, w1]
  have e0 : mI (sE M (x + 276) (vo r v 0, vo r v 1)) (x + 276) 0 = vo r v 0 := mI_sE0
  have e1 : mI (sE M (x + 276) (vo r v 0, vo r v 1)) (x + 276) 1 = nI i := by rw [mI_sE1]; exact ei
  have cc : f_X0_codeFor (x + 276) p (sE M (x + 276) (vo r v 0, vo r v 1)) = some (zK p (vo r v 0) (cSTEPS i)) := by
    rw [code_c e1 hi hx (by rw [e0]; exact b0), e0]
  have nc : f_X0_nearestCodeFor (x + 276) p (sE M (x + 276) (vo r v 0, vo r v 1)) = some (nI (zNr (zFar (vo r v 0) (cSTEPS i) p) 15 1 0)) := by
    rw [near_c e1 hi hx, e0]
  have fo : ∀ c, f_X0_follow (x + 276) c (sE M (x + 276) (vo r v 0, vo r v 1)) = some (sE M (x + 276) (zG (vo r v 0) (cSTEPS i) c, zI (vo r v 1) c)) := fun c => by
    rw [follow_c e1 hi, sE_sE, e0, e1, ei]
    unfold zSt
    rw [nI_clamp (by omega)]
  have main : ∃ M', f_X8_tellCode x (x + 5 + 44 * v) p (nI j) M = some (codeR (vo r v) p j, M') ∧ Lk x M M' := by
    unfold f_X8_tellCode f_X8_tellCode_b38
    rw [cp, vb_s]
    match j, hj with
    | 0, _ =>
      refine ⟨_, by rw [if_neg (by decide), cc, vb_s, if_pos (by decide), ← ej]; rfl, Lk.sE⟩
    | 1, _ =>
      refine ⟨_, by rw [if_neg (by decide), cc, vb_s, if_neg (by decide), if_neg (by decide), fo, vb_s, if_neg (by decide), mI_sE0, ← ej]; rfl, Lk.sE⟩
    | 2, _ =>
      refine ⟨_, by rw [if_neg (by decide), cc, vb_s, if_neg (by decide), if_neg (by decide), fo, vb_s, if_pos (by decide), mI_sE1, ← ej]; rfl, Lk.sE⟩
    | 3, _ =>
      refine ⟨_, by rw [if_pos (by decide), nc, vb_s, if_neg (by decide), if_pos (by decide), ← ej]; rfl, Lk.sE⟩
    | 4, _ =>
      refine ⟨_, by rw [if_pos (by decide), nc, vb_s, if_neg (by decide), if_neg (by decide), fo, vb_s, if_neg (by decide), mI_sE0, ← ej]; rfl, Lk.sE⟩
  obtain ⟨M', e, lk⟩ := main
  refine ⟨M', ?_, lk⟩
  unfold f_X8_code
  rw [voice_ok hv, xb_s, reqS_ok hx, xb_s, n4, reqW_ok hj (by decide), xb_s, e, cb_s]
/-- how many codes until the guess is near -/
def zSet (p z : Int32) : Nat → Int32 × Int32 → Nat → Int32
  | 0, _, _ => -10000
  | d + 1, s, j => if zS (s.1 - p) < z then nI j else zSet p z d (zSt s (zK p s.1 (cSTEPS s.2.toNatClampNeg))) (j + 1)
theorem settle_go (hx : B2 p) : ∀ (d j : Nat) (gg : Int32) (i : Nat), j + d = 61 → B2 gg → i < 25 → ∃ zz, ∀ M n, d < n → f_X8_codesToComeNear_b17 x a p z n (nI j) (sE M (x + 276) (gg, nI i)) = some (zSet p z d (gg, nI i) j, sE M (x + 276) zz) := by
  intro d
  induction d with
  | zero =>
    intro j gg i hj hg hi
    have hj : j = 61 := by omega
    subst hj
    refine ⟨(gg, nI i), fun M n hn => ?_⟩
    obtain ⟨n, rfl⟩ : ∃ k, n = k + 1 := ⟨n - 1, by omega⟩
    rw [f_X8_codesToComeNear_b17, if_pos (show (60 : Int32) < nI 61 by decide)]
    rfl
  | succ d ih =>
    intro j gg i hj hg hi
    have hlt : ¬ (60 : Int32) < nI j := nI_nlt (a := 60) (by omega) (by decide)
    by_cases hnear : z ≤ zS (gg - p)
    · obtain ⟨i2, hi2, ei2⟩ := zC_at (t := if 4 ≤ zK p gg (cSTEPS i) &&& 7 then nI i + 2 * ((zK p gg (cSTEPS i) &&& 7) - 3) else nI i - 1)
      have ei2 : zI (nI i) (zK p gg (cSTEPS i)) = nI i2 := ei2
      obtain ⟨zz, g1⟩ := ih (j + 1) (zG gg (cSTEPS i) (zK p gg (cSTEPS i))) i2 (by omega) zG_B2 hi2
      refine ⟨zz, fun M n hn => ?_⟩
      obtain ⟨n, rfl⟩ : ∃ k, n = k + 1 := ⟨n - 1, by omega⟩
      have e1 : mI (sE M (x + 276) (gg, nI i)) (x + 276) 1 = nI i := mI_sE1
      have e2 : zSet p z (d + 1) (gg, nI i) j = zSet p z d (zG gg (cSTEPS i) (zK p gg (cSTEPS i)), nI i2) (j + 1) := by
        show (if zS (gg - p) < z then nI j else zSet p z d (zSt (gg, nI i) (zK p gg (cSTEPS (nI i).toNatClampNeg))) (j + 1)) = _
        rw [if_neg (Int32.not_lt.mpr hnear), nI_clamp (by omega)]
        unfold zSt
        rw [nI_clamp (show i < 2 ^ 31 by omega), ei2]
      rw [f_X8_codesToComeNear_b17, if_neg hlt, mI_sE0, dist_c hg hx, vb_s, if_pos hnear, code_c e1 hi hx (by rw [mI_sE0]; exact hg), vb_s, mI_sE0, follow_c e1 hi, vb_s, nb_s, ← nI_succ, sE_sE, mI_sE0, e1, e2]
      unfold zSt
      rw [nI_clamp (by omega), ei2]
      exact g1 M n (by omega)
    · refine ⟨(gg, nI i), fun M n hn => ?_⟩
      obtain ⟨n, rfl⟩ : ∃ k, n = k + 1 := ⟨n - 1, by omega⟩
      rw [f_X8_codesToComeNear_b17, if_neg hlt, mI_sE0, dist_c hg hx, vb_s, if_neg hnear]
      show _ = some (if zS (gg - p) < z then nI j else _, _)
      rw [if_pos (Int32.not_le.mp hnear)]
theorem settle_T (h : CI x M n r q b g c t l) (hv : v < 3) (hx : B2 p) (hz1 : ¬ z < 1) (hz2 : z ≤ 2000) : ∃ M', f_X8_settles x (nI v) p z M = some (0, zSet p z 61 (vo r v 0, vo r v 1) 0, M') ∧ Lk x M M' := by
  obtain ⟨hV, hW, hB, hS, hR⟩ := h.rv hv
  obtain ⟨w0, w1, -⟩ := hV.cells
  obtain ⟨b0, i, hi, ei⟩ := hB.1.1.1
  obtain ⟨zz, g1⟩ := settle_go (x := x) (a := x + 5 + 44 * v) (z := z) hx 61 0 (vo r v 0) i rfl b0 hi
  refine ⟨_, ?_, Lk.sE (zz := zz)⟩
  have e : f_X8_codesToComeNear x (x + 5 + 44 * v) p z M = some (zSet p z 61 (vo r v 0, vo r v 1) 0, sE M (x + 276) zz) := by
    unfold f_X8_codesToComeNear
    rw [ecopy_c, vb_s]
    show f_X8_codesToComeNear_b17 x (x + 5 + 44 * v) p z lfuel (nI 0) (sE M (x + 276) (mI M (x + 5 + 44 * v + 2) 0, mI M (x + 5 + 44 * v + 2) 1)) = _
    rw [w0, w1, ei]
    exact g1 M lfuel (by decide)
  unfold f_X8_settles
  rw [voice_ok hv, xb_s, reqS_ok hx, xb_s, if_neg hz1, if_pos hz2, e, cb_s]
def ifR (w w' : Nat → Int32) (j : Nat) : Int32 := match j with
  | 0 => w' 26
  | 1 => w' 33 - w 33
  | 2 => w' 30 - w 30
  | _ => w' 32 - w 32
theorem would_T (h : CI x M n r q b g c t l) (hv : v < 3) (hj : j ≤ 3) (hn : n < 9990) (h38 : vo r v 38 = nI m) (hm : m ≤ 8) : ∃ M', f_X8_ifDelivered x (nI v) (nI j) M = some (0, ifR (vo r v) (zDA m (vo r v)) j, M') ∧ Lk x M M' := by
  obtain ⟨hV, hW, hB, hS, hR⟩ := h.rv hv
  obtain ⟨M1, e1, lk1⟩ := come_c h hv h38 hm hn
  have ear := hV.ear.2.2
  have far : ∀ k, mI (sHr M1 (x + 277) (zDA m (vo r v))) (x + 5 + 44 * v + 9) k = mI M (x + 5 + 44 * v + 9) k := fun k => by rw [mI_sHn (by omega) (by omega), lk1.1 _ (by omega) (by omega) (by omega)]
  have main : f_X8_tellIfAllCame x (x + 5 + 44 * v) (nI j) M = some (ifR (vo r v) (zDA m (vo r v)) j, sHr M1 (x + 277) (zDA m (vo r v))) := by
    unfold f_X8_tellIfAllCame
    rw [e1, vb_s]
    match j, hj with
    | 0, _ => rw [if_pos (by decide), rH0]; rfl
    | 1, _ => rw [if_neg (by decide), if_pos (by decide), far, ear 6 (by decide) (by decide), r6]; rfl
    | 2, _ => rw [if_neg (by decide), if_neg (by decide), if_pos (by decide), far, ear 3 (by decide) (by decide), r3]; rfl
    | 3, _ => rw [if_neg (by decide), if_neg (by decide), if_neg (by decide), far, ear 5 (by decide) (by decide), r5]; rfl
  refine ⟨sHr M1 (x + 277) (zDA m (vo r v)), ?_, lk1.trans Lk.sHr⟩
  unfold f_X8_ifDelivered
  rw [voice_ok hv, xb_s, n3, reqW_ok hj (by decide), xb_s, main, cb_s]
/-- why both ends do not agree: of the row w, of W' when all came, of the end zz behind the codes gathered -/
def whyR (w W' : Nat → Int32) (zz : Int32 × Int32) : Int32 := if zz.1 = w 0 ∧ zz.2 = w 1 then 0 else if W' 31 = w 31 ∧ W' 30 = w 30 ∧ W' 28 = w 21 then 2 else 1
def zOp (w W' : Nat → Int32) (qq : Nat) : Int32 × Int32 := zFl (fun k => w (5 + k)) qq (W' 26, W' 27)
theorem why_c {qq : Nat} (h : CI x M n r q b g c t l) (hv : v < 3) (hn : n < 9990) (h38 : vo r v 38 = nI m) (hm : m ≤ 8) (h4 : vo r v 4 = nI qq) (hq8 : qq ≤ 8) : ∃ M', f_X8_tellWhy x (x + 5 + 44 * v) M = some (whyR (vo r v) (zDA m (vo r v)) (zOp (vo r v) (zDA m (vo r v)) qq), M') ∧ Lk x M M' := by
  obtain ⟨hV, hW, hB, hS, hR⟩ := h.rv hv
  obtain ⟨M1, e1, lk1⟩ := come_c h hv h38 hm hn
  obtain ⟨hV1, -⟩ := (h.lk lk1).rv hv
  obtain ⟨aB, aL, ⟨Z, Z', z1, z2, z3, z4⟩, L, L', l1, l2, l3, l4⟩ := all_B m n (vo r v) (by omega) hm hB h38
  have ear := hV1.ear.2.2
  obtain ⟨w0, w1, -⟩ := hV1.cells
  have k21 := hV1.cnt.2.1
  obtain ⟨⟨⟨qq', q1, q2, q3, -, q7, -⟩, -⟩, -⟩ := hV1
  have eqq : qq' = qq := (nI_eq (by omega) (by omega)).mp (q2.symm.trans h4)
  subst eqq
  generalize hW' : zDA m (vo r v) = W' at *
  generalize hM3 : sHr M1 (x + 277) W' = M3 at *
  have far : ∀ b, b ≠ x + 277 → b ≠ x + 278 → mI M3 b = mI M1 b := fun b h1 h2 => by rw [← hM3]; exact mI_sHn h1 h2
  have fz : zFl (mI M3 (x + 5 + 44 * v + 1 + 2 + 1)) qq' (W' 26, W' 27) = zFl (fun k => vo r v (5 + k)) qq' (W' 26, W' 27) := zFl_congr fun j hj => by
    rw [far _ (by omega) (by omega)]
    exact (q7 j hj).1
  unfold zOp
  generalize hz : zFl (fun k => vo r v (5 + k)) qq' (W' 26, W' 27) = zz at *
  have n276 : x + 5 + 44 * v + 1 + 2 ≠ x + 276 := by omega
  have n276' : x + 5 + 44 * v + 1 + 2 + 1 ≠ x + 276 := by omega
  have fa : f_X0_followAll (x + 276) (x + 5 + 44 * v + 1 + 2) (sE M3 (x + 276) (W' 26, W' 27)) = some (sE M3 (x + 276) zz) := by
    rw [all_c (q := qq') n276 n276' q1 (by rw [mI_sEn n276, far _ (by omega) (by omega)]; exact q3) (by rw [mI_sE1]; exact aB.2), sE_sE, mI_sEn n276', mI_sE0, mI_sE1]
    show some (sE M3 (x + 276) (zFl (mI M3 (x + 5 + 44 * v + 1 + 2 + 1)) qq' (W' 26, W' 27))) = _
    rw [fz]
  have wa : f_X8_wouldAgree x (x + 5 + 44 * v) M3 = some (if zz.1 = vo r v 0 ∧ zz.2 = vo r v 1 then 1 else 0, sE M3 (x + 276) zz) := by
    unfold f_X8_wouldAgree
    have g0 : mI M3 (x + 277 + 1) 0 = W' 26 := by rw [← hM3]; exact rH0
    have g1 : mI M3 (x + 277 + 1) 1 = W' 27 := by rw [← hM3]; exact rH1
    rw [ecopy_c, vb_s, g0, g1, fa, vb_s, isAt_c, vb_s, mI_sE0, mI_sE1, mI_sEn (show x + 5 + 44 * v + 1 + 1 ≠ x + 276 by omega), far _ (show x + 5 + 44 * v + 1 + 1 ≠ x + 277 by omega) (by omega)]
    have w0' : mI M1 (x + 5 + 44 * v + 1 + 1) 0 = vo r v 0 := w0
    have w1' : mI M1 (x + 5 + 44 * v + 1 + 1) 1 = vo r v 1 := w1
    rw [w0', w1']
    refine gd_s ?_
    split
    · exact Or.inr rfl
    · exact Or.inl rfl
  have lk3 : Lk x M (sE M3 (x + 276) zz) := (lk1.trans (by rw [← hM3]; exact Lk.sHr)).trans Lk.sE
  have c4 : mI (sE M3 (x + 276) zz) (x + 277) 4 = W' 31 := by rw [mI_sEn (by omega), ← hM3]; exact r4
  have c3 : mI (sE M3 (x + 276) zz) (x + 277) 3 = W' 30 := by rw [mI_sEn (by omega), ← hM3]; exact r3
  have c1 : mI (sE M3 (x + 276) zz) (x + 277) 1 = W' 28 := by rw [mI_sEn (by omega), ← hM3]; exact r1
  have d4 : mI (sE M3 (x + 276) zz) (x + 5 + 44 * v + 9) 4 = vo r v 31 := by rw [mI_sEn (by omega), far _ (by omega) (by omega)]; exact ear 4 (by decide) (by decide)
  have d3 : mI (sE M3 (x + 276) zz) (x + 5 + 44 * v + 9) 3 = vo r v 30 := by rw [mI_sEn (by omega), far _ (by omega) (by omega)]; exact ear 3 (by decide) (by decide)
  have d5 : mI (sE M3 (x + 276) zz) (x + 5 + 44 * v + 1) 5 = vo r v 21 := by rw [mI_sEn (by omega), far _ (by omega) (by omega)]; exact k21
  refine ⟨sE M3 (x + 276) zz, ?_, lk3⟩
  unfold whyR f_X8_tellWhy f_X8_tellWhy_b71 f_X8_tellWhy_b70 f_X8_tellWhy_b71
  rw [e1, vb_s, wa, cb_s, c4, c3, c1, d4, d3, d5]
  by_cases ag : zz.1 = vo r v 0 ∧ zz.2 = vo r v 1
  · rw [if_pos ag, if_neg (by decide), if_pos ag]
  · rw [if_neg ag, if_pos rfl, if_neg ag]
    by_cases h1 : W' 31 = vo r v 31
    · rw [if_pos h1]
      by_cases h2 : W' 30 = vo r v 30
      · rw [if_pos h2]
        by_cases h3 : W' 28 = vo r v 21
        · rw [if_pos h3, if_neg (by decide), if_pos ⟨h1, h2, h3⟩]
        · rw [if_neg h3, if_pos rfl, if_neg (fun z => h3 z.2.2)]
      · rw [if_neg h2, if_pos rfl, if_neg (fun z => h2 z.2.1)]
    · rw [if_neg h1, if_pos rfl, if_neg (fun z => h1 z.1)]
theorem why_T {qq : Nat} (h : CI x M n r q b g c t l) (hv : v < 3) (hn : n < 9990) (h38 : vo r v 38 = nI m) (hm : m ≤ 8) (h4 : vo r v 4 = nI qq) (hq8 : qq ≤ 8) : ∃ M', f_X8_why x (nI v) M = some (0, whyR (vo r v) (zDA m (vo r v)) (zOp (vo r v) (zDA m (vo r v)) qq), M') ∧ Lk x M M' := by
  obtain ⟨M', e, lk⟩ := why_c h hv hn h38 hm h4 hq8
  refine ⟨M', ?_, lk⟩
  unfold f_X8_why
  rw [voice_ok hv, xb_s, e, cb_s]
theorem agree_T {y0 y1 y2 : Int32} (h : CI x M n r q b g c t l) (h0 : ∀ N, CI x N n r q b g c t l → ∃ N', f_X8_tellWhy x (x + 5 + 44 * 0) N = some (y0, N') ∧ Lk x N N') (h1 : ∀ N, CI x N n r q b g c t l → ∃ N', f_X8_tellWhy x (x + 5 + 44 * 1) N = some (y1, N') ∧ Lk x N N') (h2 : ∀ N, CI x N n r q b g c t l → ∃ N', f_X8_tellWhy x (x + 5 + 44 * 2) N = some (y2, N') ∧ Lk x N N') : ∃ M', f_X8_count x 6 M = some (0, (if y2 = 0 then 1 else 0) + ((if y1 = 0 then 1 else 0) + ((if y0 = 0 then 1 else 0) + 0)), M') ∧ Lk x M M' := by
  obtain ⟨M0, e0, lk0⟩ := h0 M h
  obtain ⟨M1, e1, lk1⟩ := h1 M0 (h.lk lk0)
  obtain ⟨M2, e2, lk2⟩ := h2 M1 ((h.lk lk0).lk lk1)
  refine ⟨M2, ?_, (lk0.trans lk1).trans lk2⟩
  have z0 : (x + 1) + 1 + 3 + 44 * (0 : Int32).toNatClampNeg = x + 5 + 44 * 0 := rfl
  have z1 : (x + 1) + 1 + 3 + 44 * (0 + 1 : Int32).toNatClampNeg = x + 5 + 44 * 1 := rfl
  have z2 : (x + 1) + 1 + 3 + 44 * (0 + 1 + 1 : Int32).toNatClampNeg = x + 5 + 44 * 2 := rfl
  unfold f_X8_count f_X8_tellCount
  rw [show (7 : Int32) = nI 7 from rfl, show (6 : Int32) = nI 6 from rfl, reqW_ok (by decide) (by decide), xb_s, if_neg (by decide), if_pos (Int32.le_refl _)]
  unfold lfuel
  rw [f_X8_tellCount_b27, if_neg (by decide), gd_s (by decide), nb_s, z0, e0, cb_s]
  unfold f_X8_tellCount_b58
  simp only [nb_s]
  have st0 : (if y0 = 0 then f_X8_tellCount_b27 x (nI 6) 9999 (0 + 1) (0 + 1) M0 else f_X8_tellCount_b27 x (nI 6) 9999 0 (0 + 1) M0) = f_X8_tellCount_b27 x (nI 6) 9999 ((if y0 = 0 then 1 else 0) + 0) (0 + 1) M0 := by split <;> rfl
  rw [st0]
  generalize ((if y0 = 0 then 1 else 0) + 0 : Int32) = s0
  rw [f_X8_tellCount_b27, if_neg (by decide), gd_s (by decide), nb_s, z1, e1, cb_s]
  unfold f_X8_tellCount_b58
  simp only [nb_s]
  have st1 : (if y1 = 0 then f_X8_tellCount_b27 x (nI 6) 9998 (s0 + 1) (0 + 1 + 1) M1 else f_X8_tellCount_b27 x (nI 6) 9998 s0 (0 + 1 + 1) M1) = f_X8_tellCount_b27 x (nI 6) 9998 ((if y1 = 0 then 1 else 0) + s0) (0 + 1 + 1) M1 := by
    split
    · rw [Int32.add_comm]
    · rw [Int32.zero_add s0]
  rw [st1]
  generalize ((if y1 = 0 then 1 else 0) + s0 : Int32) = s1
  rw [f_X8_tellCount_b27, if_neg (by decide), gd_s (by decide), nb_s, z2, e2, cb_s]
  unfold f_X8_tellCount_b58
  simp only [nb_s]
  have st2 : (if y2 = 0 then f_X8_tellCount_b27 x (nI 6) 9997 (s1 + 1) (0 + 1 + 1 + 1) M2 else f_X8_tellCount_b27 x (nI 6) 9997 s1 (0 + 1 + 1 + 1) M2) = f_X8_tellCount_b27 x (nI 6) 9997 ((if y2 = 0 then 1 else 0) + s1) (0 + 1 + 1 + 1) M2 := by
    split
    · rw [Int32.add_comm]
    · rw [Int32.zero_add s1]
  rw [st2, f_X8_tellCount_b27, if_pos (by decide), cb_s]
def cntR (r : Nat → Int32) (j : Nat) : Int32 := match j with
  | 0 => r 4
  | 1 => suV r 22
  | 2 => suV r 21
  | 3 => suV r 38
  | 4 => suV r 36
  | _ => suV r 37
theorem count_T (h : CI x M n r q b g c t l) (hj : j ≤ 5) : f_X8_count x (nI j) M = some (0, cntR r j, M) := by
  have main : f_X8_tellCount x (nI j) M = some (cntR r j, M) := by
    unfold f_X8_tellCount
    match j, hj with
    | 0, _ => rw [if_neg (by decide), if_neg (by decide), show nI 0 = 0 from rfl, said_c h, vb_s]; rfl
    | 1, _ => rw [if_neg (by decide), if_neg (by decide), sums_c h (by decide), vb_s]; rfl
    | 2, _ => rw [if_neg (by decide), if_neg (by decide), sums_c h (by decide), vb_s]; rfl
    | 3, _ => rw [if_neg (by decide), if_neg (by decide), sums_c h (by decide), vb_s]; rfl
    | 4, _ => rw [if_neg (by decide), if_neg (by decide), sums_c h (by decide), vb_s]; rfl
    | 5, _ => rw [if_neg (by decide), if_neg (by decide), sums_c h (by decide), vb_s]; rfl
  unfold f_X8_count
  rw [show (7 : Int32) = nI 7 from rfl, reqW_ok (by omega) (by decide), xb_s, main, cb_s]
theorem setting_T (h : CI x M n r q b g c t l) (hj : j < 4) : f_X8_setting x (nI j) M = some (0, r j, M) := by
  obtain ⟨hV, hW, hB, hS, hR⟩ := h.rv (v := 0) (by decide)
  unfold f_X8_setting
  rw [reqT_ok (by omega), xb_s, val_c hS hj, vb_s]
end LOOK2
