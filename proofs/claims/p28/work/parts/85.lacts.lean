/-! THE LAW. The deeds -/
/-- what holds behind a deed -/
def AR (x n : Nat) (o : Option (Int32 × Mem)) : Prop := ∃ M' r', o = some (1, M') ∧ (∃ q b g c t l, CI x M' (n + 1) r' q b g c t l) ∧ LI x M' r'
section LACTS
variable {M M1 M' N : Mem} {x a s d n m c l v j k i u X W : Nat} {r r' q w w' t f : Nat → Int32} {g : Nat → Nat → Int32} {b : Bool} {y p p1 p2 p3 z : Int32} {E F C P E' F' C' P' : Nat → Int32}
theorem LV.congr (h : LV v w E F C P) (hw : ∀ i, i < 207 → w i = w' i) : LV v w' E F C P := by
  have kk : ∀ i, i < 20 → sg i < 207 := by decide
  exact ⟨⟨h.1.1.congr fun i hi => hw _ (kk i hi), h.1.2.congr (hw 35 (by decide)) (hw 36 (by decide)) (hw 37 (by decide))⟩, h.2.1.congr fun i _ h2 => hw i (by omega), h.2.2.congr fun i _ h2 => hw i h2⟩
theorem dd (hv : v < 3) : D4 (x + 1095) (x + 1096) (x + 1097) (x + 1098 + v) := ⟨by omega, by omega, by omega, by omega, by omega, by omega⟩
theorem LI.deed (hI : LI x M r) (hv : v < 3) (hV : LV v w' E' F' C' P') (fe : FE v (mI M (x + 1095)) E') (ff : ∀ i, i < 9 → i ≠ v → i ≠ 3 + v → i ≠ 6 + v → F' i = mI M (x + 1096) i) (fc : FC v (mI M (x + 1097)) C') (hr : ∀ i, i < 4 → F' (9 + i) = r' i) (h13 : F' 13 = r' 4) (hr5 : ∀ i, 5 ≤ i → r' i = r i) : LI x (T4 (x + 1095) (x + 1096) (x + 1097) (x + 1098 + v) M E' F' C' P') (pv v r' w') := by
  have d4 := dd (x := x) hv
  refine ⟨fun u hu => ?_, fun i hi => ?_, ?_⟩
  · rw [T_e d4, T_f d4, T_c d4]
    by_cases huv : u = v
    · subst huv
      rw [T_p]
      exact hV.congr fun i hi => (pv_at hi).symm
    · rw [T_o (by omega) (by omega) (by omega) (by omega)]
      obtain ⟨⟨a1, a2⟩, a3, a4⟩ := hI.1 u hu
      have hw : ∀ i, i < 207 → vo r u i = vo (pv v r' w') u i := fun i hi => by
        unfold vo pv
        rw [if_neg (by omega), hr5 _ (by omega)]
      refine LV.congr ⟨⟨a1.other fe (Ne.symm huv), ?_, ?_, ?_⟩, a3.other fc (Ne.symm huv), a4⟩ hw
      · rw [ff u (by omega) huv (by omega) (by omega)]; exact a2.1
      · rw [ff (3 + u) (by omega) (by omega) (by omega) (by omega)]; exact a2.2.1
      · rw [ff (6 + u) (by omega) (by omega) (by omega) (by omega)]; exact a2.2.2
  · rw [T_f d4, pv_lo (by omega)]
    exact hr i hi
  · rw [T_f d4, pv_lo (by decide)]
    exact h13
theorem CI.t4 (h : CI x M n r q b g c t l) (hv : v < 3) : CI x (T4 (x + 1095) (x + 1096) (x + 1097) (x + 1098 + v) M E' F' C' P') n r q b g c t l := h.law (fun a ha => T_o (by omega) (by omega) (by omega) (by omega)) rfl
theorem flush_l (h : CI x M n r q b g c t l) (hI : LI x M r) (hv : v < 3) (hn : n < 9000) (h4 : vo r v 4 ≠ 0) (h38 : vo r v 38 = nI W) (hW : W ≤ 3) : AR x n (vb (f_L_packs (x + 1095) (x + 1096) (x + 1097) (x + 1098 + v) (nI v) M) fun M45 => zb (f_X8_flush x (nI v) M45) fun r47 M48 => gd (r47 = vo r v 4) <| some (1, M48)) := by
  have d4 := dd (x := x) hv
  obtain ⟨hE, hW1⟩ := (hI.1 v hv).1
  have pk := packs_l (M := M) (E := mI M (x + 1095)) (F := mI M (x + 1096)) (C := mI M (x + 1097)) (P := mI M (x + 1098 + v)) d4 hv ((hE 19 (by decide)).trans h38) hW
  rw [T_id] at pk
  have lv := (hI.1 v hv).packs h38 hW (hI.2.1 3 (by decide))
  have li := hI.deed (r' := r) hv lv pkE_FE (fun _ _ _ _ _ => rfl) (fun _ _ => rfl) hI.2.1 hI.2.2 (fun _ _ => rfl)
  obtain ⟨M2, e2, c2, o2⟩ := flush_c (h.t4 (E' := pkE v W (mI M (x + 1095)) (hdL v (mI M (x + 1095)) (mI M (x + 1096)))) (F' := mI M (x + 1096)) (C' := mI M (x + 1097)) (P' := pkC v W 8 (mI M (x + 1097)) (pkH v W (mI M (x + 1095)) (mI M (x + 1098 + v)) (hdL v (mI M (x + 1095)) (mI M (x + 1096))))) hv) hv h4 (by rw [h38]; exact fun z => by have := (nI_eq (b := 8) (by omega) (by decide)).mp z; omega) (by omega)
  refine ⟨M2, _, ?_, ⟨_, _, _, _, _, _, c2⟩, li.out o2⟩
  rw [pk, vb_s, e2, zb_s, gd_s rfl]
theorem lose_l (h : CI x M n r q b g c t l) (hI : LI x M r) (hv : v < 3) (hn : n < 9000) (h38 : vo r v 38 = nI (k + 1)) (hk : k ≤ 3) : AR x n (vb (f_L_moves (x + 1095) (x + 1098 + v) (nI v) M) fun M55 => nb (sI M55 (x + 1096) (3 + v) ((mI M55 (x + 1096) (3 + v)) + 1)) fun M58 => zb (f_X8_lose x (nI v) M58) fun r60 M61 => gd (r60 = mI M (x + 1098 + v) 0) <| some (1, M61)) := by
  have d4 := dd (x := x) hv
  obtain ⟨⟨hE, hW1, hW2, hW3⟩, hC, hQ⟩ := hI.1 v hv
  have mv := moves_l (M := M) (E := mI M (x + 1095)) (F := mI M (x + 1096)) (C := mI M (x + 1097)) (P := mI M (x + 1098 + v)) d4 hv ((hE 19 (by decide)).trans h38) hk
  rw [T_id] at mv
  have p0 : mI M (x + 1098 + v) 0 = vo r v 39 := by
    obtain ⟨Wn, hWn, w38, hP⟩ := hQ
    have e1 : Wn = k + 1 := (nI_eq (by omega) (by omega)).mp (w38.symm.trans h38)
    exact (hP 0 (by omega)).1.1
  have lo : ∀ i, i < 38 → i ≠ 36 → zLo (vo r v) i = vo r v i := fun i h1 h2 => by
    unfold zLo
    rw [upd_ne h2, zTk_lo h1]
  have lv : LV v (zLo (vo r v)) (upd (mI M (x + 1095)) (20 * v + 19) (nI k)) (upd (mI M (x + 1096)) (3 + v) (mI M (x + 1096) (3 + v) + 1)) (mI M (x + 1097)) (shP (mI M (x + 1098 + v)) (16 * k)) := by
    have kk : ∀ i, i < 20 → sg i ≠ 36 := by decide
    refine ⟨⟨(hE.tk h38).congr fun i hi => ?_, ?_, ?_, ?_⟩, hC.congr fun i h1 h2 => (lo i (by omega) (by omega)).symm, (hQ.tk h38 hk (w' := vo r v) fun _ _ _ => rfl).congr fun i h1 _ => ?_⟩
    · unfold zLo
      rw [upd_ne (kk i hi)]
    · rw [upd_ne (by omega), lo 35 (by decide) (by decide)]; exact hW1
    · rw [upd_eq, hW2]
      unfold zLo
      rw [upd_eq, zTk_lo (by decide)]
    · rw [upd_ne (by omega), lo 37 (by decide) (by decide)]; exact hW3
    · unfold zLo
      rw [upd_ne (by omega)]
  have li := hI.deed (r' := r) hv lv (FE.rf.up (by decide)) (fun i _ _ h3 _ => upd_ne h3) (fun _ _ => rfl) (fun i hi => (upd_ne (by omega)).trans (hI.2.1 i hi)) ((upd_ne (by omega)).trans hI.2.2) (fun _ _ => rfl)
  obtain ⟨M2, e2, c2, o2⟩ := lose_c (h.t4 (E' := upd (mI M (x + 1095)) (20 * v + 19) (nI k)) (F' := upd (mI M (x + 1096)) (3 + v) (mI M (x + 1096) (3 + v) + 1)) (C' := mI M (x + 1097)) (P' := shP (mI M (x + 1098 + v)) (16 * k)) hv) hv h38 (by omega)
  refine ⟨M2, _, ?_, ⟨_, _, _, _, _, _, c2⟩, li.out o2⟩
  rw [mv, vb_s, nb_s, T_f d4, S_f d4, e2, zb_s, gd_s p0.symm]
def swP (P : Nat → Int32) (j : Nat) : Nat → Int32 := fun i => if i < j then P (16 + i) else if 16 ≤ i ∧ i < 16 + j then P (i - 16) else P i
theorem swap_go {a0 a1 a2 a3 pa : Nat} {p5 p6 p7 : Int32} : ∀ (d j fu : Nat) (P : Nat → Int32), j + d = 16 → d < fu → f_L_acts_b222 a0 a1 a2 a3 pa p5 p6 p7 fu (nI j) (sA M pa (swP P j)) = f_L_acts_b222 a0 a1 a2 a3 pa p5 p6 p7 1 16 (sA M pa (swP P 16)) := by
  intro d
  induction d with
  | zero =>
    intro j fu P hj hfu
    obtain ⟨fu, rfl⟩ : ∃ k, fu = k + 1 := ⟨fu - 1, by omega⟩
    have hj : j = 16 := by omega
    subst hj
    rw [f_L_acts_b222, f_L_acts_b222, if_pos (by decide), if_pos (by decide)]
  | succ d ih =>
    intro j fu P hj hfu
    obtain ⟨fu, rfl⟩ : ∃ k, fu = k + 1 := ⟨fu - 1, by omega⟩
    rw [f_L_acts_b222, if_neg (show ¬ (16 : Int32) ≤ nI j from nI_ge (b := 16) (by omega) (by decide))]
    simp (disch := omega) only [nb_s, gdi, nI_clamp, iA_1, iA_2, iA_3, iA_4, iA_5, iA_6, iA_7, iA_8, iA_9, iA_10, iA_11, iA_12, iA_13, iA_14, iA_15, iA_16, iA_17, iA_18, iA_19, iA_20, Ai_1, Ai_2, Ai_3, Ai_5, Ai_6, Ai_9, Ai_16, Mi_8, Mi_16, Mi_20, gl_0, gl_1, gl_2, gl_3, gl_4, gl_5, gl_6, gl_7, gl_8, gl_9, gl_10, gl_11, gl_12, gl_13, cl_0, cl_1, cl_2, cl_3, cl_4, cl_5, cl_6, cl_7, cl_8, cl_9, cl_10, cl_11, cl_12, cl_13, sI_sA, mI_sA]
    have e1 : upd (upd (swP P j) j (swP P j (16 + j))) (16 + j) (swP P j j) = swP P (j + 1) := by
      funext i
      unfold upd swP
      by_cases h1 : i = 16 + j
      · rw [if_pos h1, if_neg (by omega), if_neg (by omega), if_neg (by omega), if_pos (by omega)]
        congr 1
        omega
      · rw [if_neg h1]
        by_cases h2 : i = j
        · rw [if_pos h2, if_neg (by omega), if_neg (by omega), if_pos (by omega)]
          congr 1
          omega
        · rw [if_neg h2]
          by_cases h3 : i < j
          · rw [if_pos h3, if_pos (by omega)]
          · rw [if_neg h3, if_neg (show ¬ i < j + 1 by omega)]
            by_cases h4 : 16 ≤ i ∧ i < 16 + j
            · rw [if_pos h4, if_pos (by omega)]
            · rw [if_neg h4, if_neg (by omega)]
    rw [e1]
    exact ih (j + 1) fu P (by omega) (by omega)
theorem swap_l {p6 p7 : Int32} (h : CI x M n r q b g c t l) (hI : LI x M r) (hv : v < 3) (hn : n < 9000) (h38 : vo r v 38 = nI (k + 2)) (hk : k ≤ 2) : AR x n (f_L_acts_b222 x (x + 1095) (x + 1096) (x + 1097) (x + 1098 + v) (nI v) p6 p7 lfuel 0 M) := by
  have d4 := dd (x := x) hv
  obtain ⟨⟨hE, hW1, hW2, hW3⟩, hC, hQ⟩ := hI.1 v hv
  have go := swap_go (M := M) (a0 := x) (a1 := x + 1095) (a2 := x + 1096) (a3 := x + 1097) (pa := x + 1098 + v) (p5 := nI v) (p6 := p6) (p7 := p7) 16 0 lfuel (mI M (x + 1098 + v)) rfl (by decide)
  have e0 : swP (mI M (x + 1098 + v)) 0 = mI M (x + 1098 + v) := by
    funext i
    unfold swP
    rw [if_neg (by omega), if_neg (by omega)]
  rw [e0, sA_eq] at go
  have et : sA M (x + 1098 + v) (swP (mI M (x + 1098 + v)) 16) = T4 (x + 1095) (x + 1096) (x + 1097) (x + 1098 + v) M (mI M (x + 1095)) (mI M (x + 1096)) (mI M (x + 1097)) (swP (mI M (x + 1098 + v)) 16) := by
    unfold T4
    rw [sA_eq, sA_eq, sA_eq]
  rw [et] at go
  have lo : ∀ i, i < 39 → zSw (vo r v) 39 i = vo r v i := fun i hi => zSw_lo hi
  have kk : ∀ i, i < 20 → sg i < 39 := by decide
  have lv : LV v (zSw (vo r v) 39) (mI M (x + 1095)) (mI M (x + 1096)) (mI M (x + 1097)) (swP (mI M (x + 1098 + v)) 16) := by
    refine ⟨⟨hE.congr fun i hi => (lo _ (kk i hi)).symm, hW1.trans (lo 35 (by decide)).symm, hW2.trans (lo 36 (by decide)).symm, hW3.trans (lo 37 (by decide)).symm⟩, hC.congr fun i h1 h2 => (lo i (by omega)).symm, ?_⟩
    obtain ⟨Wn, hWn, w38, hP⟩ := hQ
    have e1 : Wn = k + 2 := (nI_eq (by omega) (by omega)).mp (w38.symm.trans h38)
    refine ⟨Wn, hWn, (lo 38 (by decide)).trans w38, fun j hj => ?_⟩
    have hs : (if j = 0 then 1 else if j = 1 then 0 else j) < Wn := by
      split
      · omega
      · split <;> omega
    refine (hP _ hs).congr (fun i hi => (zSw_w hi).symm) fun i hi => ?_
    unfold swP
    by_cases j0 : j = 0
    · subst j0
      rw [if_pos (by omega)]
      exact congrArg (mI M (x + 1098 + v)) (show 16 + (16 * 0 + i) = 16 * (if (0 : Nat) = 0 then 1 else if (0 : Nat) = 1 then 0 else 0) + i by rw [if_pos rfl]; omega)
    · by_cases j1 : j = 1
      · subst j1
        rw [if_neg (by omega), if_pos (by omega)]
        rw [if_neg (by decide), if_pos rfl]
        exact congrArg (mI M (x + 1098 + v)) (by omega)
      · rw [if_neg (by omega), if_neg (by omega), if_neg j0, if_neg j1]
  have li := hI.deed (r' := r) hv lv FE.rf (fun _ _ _ _ _ => rfl) (fun _ _ => rfl) hI.2.1 hI.2.2 (fun _ _ => rfl)
  obtain ⟨M2, e2, c2, o2⟩ := swap_c (h.t4 (E' := mI M (x + 1095)) (F' := mI M (x + 1096)) (C' := mI M (x + 1097)) (P' := swP (mI M (x + 1098 + v)) 16) hv) hv h38 (by omega)
  refine ⟨M2, _, ?_, ⟨_, _, _, _, _, _, c2.mono (by omega)⟩, li.out o2⟩
  have go : f_L_acts_b222 x (x + 1095) (x + 1096) (x + 1097) (x + 1098 + v) (nI v) p6 p7 lfuel 0 M = _ := go
  have p16 : mI M2 (x + 1098 + v) 0 = zSw (vo r v) 39 39 := by
    rw [o2.1 _ (by omega), T_p]
    obtain ⟨Wn, hWn, w38, hP⟩ := hQ
    have e1 : Wn = k + 2 := (nI_eq (by omega) (by omega)).mp (w38.symm.trans h38)
    have z : zSw (vo r v) 39 (39 + 21 * 0 + 0) = vo r v (39 + 21 * (if 0 = 0 then 1 else if 0 = 1 then 0 else 0) + 0) := zSw_w (by decide)
    exact (hP 1 (by omega)).1.1.trans z.symm
  rw [go, f_L_acts_b222, if_pos (by decide), e2, zb_s]
  simp (disch := omega) only [nb_s, gdi, nI_clamp, iA_1, iA_2, iA_3, iA_4, iA_5, iA_6, iA_7, iA_8, iA_9, iA_10, iA_11, iA_12, iA_13, iA_14, iA_15, iA_16, iA_17, iA_18, iA_19, iA_20, Ai_1, Ai_2, Ai_3, Ai_5, Ai_6, Ai_9, Ai_16, Mi_8, Mi_16, Mi_20, gl_0, gl_1, gl_2, gl_3, gl_4, gl_5, gl_6, gl_7, gl_8, gl_9, gl_10, gl_11, gl_12, gl_13, cl_0, cl_1, cl_2, cl_3, cl_4, cl_5, cl_6, cl_7, cl_8, cl_9, cl_10, cl_11, cl_12, cl_13]
  rw [gd_s p16.symm]
theorem set_l {p5 p6 p7 : Int32} {pa : Nat} (h : CI x M n r q b g c t l) (hI : LI x M r) (hk : k < 4) (h1 : seL k ≤ u) (h2 : u ≤ seM k) : AR x n (f_L_acts_b374 x (x + 1095) (x + 1096) (x + 1097) pa p5 p6 p7 (nI k) (mI M (x + 1096) (9 + k)) (nI u) (nI (9 + k)) (x + 1096) M) := by
  have same : ∀ a, a ≠ x + 1096 → mI (sI M (x + 1096) (9 + k) (nI u)) a = mI M a := fun a ha => mI_sn ha
  have c1 : CI x (sI M (x + 1096) (9 + k) (nI u)) n r q b g c t l := h.law (fun a ha => same a (by omega)) rfl
  obtain ⟨M2, e2, c2, o2⟩ := set_c c1 hk h1 h2
  refine ⟨M2, _, ?_, ⟨_, _, _, _, _, _, c2.mono (by omega)⟩, LI.out (M := sI M (x + 1096) (9 + k) (nI u)) ?_ o2⟩
  · unfold f_L_acts_b374
    simp (disch := omega) only [nb_s, gdi, nI_clamp, iA_1, iA_2, iA_3, iA_4, iA_5, iA_6, iA_7, iA_8, iA_9, iA_10, iA_11, iA_12, iA_13, iA_14, iA_15, iA_16, iA_17, iA_18, iA_19, iA_20, Ai_1, Ai_2, Ai_3, Ai_5, Ai_6, Ai_9, Ai_16, Mi_8, Mi_16, Mi_20, gl_0, gl_1, gl_2, gl_3, gl_4, gl_5, gl_6, gl_7, gl_8, gl_9, gl_10, gl_11, gl_12, gl_13, cl_0, cl_1, cl_2, cl_3, cl_4, cl_5, cl_6, cl_7, cl_8, cl_9, cl_10, cl_11, cl_12, cl_13]
    have e3 : mI (sI M (x + 1096) (9 + k) (nI u)) (x + 1096) (9 + k) = nI u := by rw [mI_up, upd_eq]
    rw [e3, e2, zb_s, gd_s (hI.2.1 k hk).symm]
  · have hF : mI (sI M (x + 1096) (9 + k) (nI u)) (x + 1096) = upd (mI M (x + 1096)) (9 + k) (nI u) := mI_up
    refine ⟨fun v hv => ?_, fun i hi => ?_, ?_⟩
    · rw [same _ (by omega), hF, same _ (by omega), same _ (by omega)]
      obtain ⟨⟨a1, a2, a3, a4⟩, a5, a6⟩ := hI.1 v hv
      have hw : ∀ i, i < 207 → vo r v i = vo (upd r k (nI u)) v i := fun i hi => by
        unfold vo
        rw [upd_ne (by omega)]
      exact LV.congr ⟨⟨a1, (upd_ne (by omega)).trans a2, (upd_ne (by omega)).trans a3, (upd_ne (by omega)).trans a4⟩, a5, a6⟩ hw
    · rw [hF]
      by_cases hik : i = k
      · rw [hik, upd_eq, upd_eq]
      · rw [upd_ne (by omega), upd_ne hik]
        exact hI.2.1 i hi
    · rw [hF, upd_ne (by omega), upd_ne (by omega)]
      exact hI.2.2
theorem dlv_l (h : CI x M n r q b g c t l) (hI : LI x M r) (hv : v < 3) (hn : n < 9000) (h38 : vo r v 38 = nI (k + 1)) (hk : k ≤ 3) : AR x n (zb (f_X8_deliver x (nI v) M) fun r92 M93 => cb (f_L_comes (x + 1095) (x + 1096) (x + 1098 + v) (nI v) M93) fun r95 M96 => gd (r92 = r95) <| some (1, M96)) := by
  have d4 := dd (x := x) hv
  obtain ⟨M1, e1, c1, o1⟩ := deliver_c h hv h38 (by omega) (by omega)
  have hI1 := hI.out o1
  obtain ⟨⟨hE, hW⟩, hC, hQ⟩ := hI1.1 v hv
  obtain ⟨-, -, hB, -, -⟩ := h.rv hv
  obtain ⟨E', F', P', e2, ⟨hE', hW', hQ'⟩, fe, ff⟩ := comes_l (M := M1) (C := mI M1 (x + 1097)) d4 hv hE hW hQ hB h38 hk (by omega)
  rw [T_id] at e2
  have ci : ∀ i, 4 ≤ i → i < 21 → vo r v i = zDv cSTEPS (vo r v) i := fun i h1 h2 => (zDv_lo (T := cSTEPS) (Or.inl (by omega))).symm
  have li := hI1.deed (r' := r) (C' := mI M1 (x + 1097)) hv ⟨⟨hE', hW'⟩, hC.congr ci, hQ'⟩ fe (fun i _ h1 h2 h3 => ff i h1 h2 h3) (fun _ _ => rfl) (fun i hi => (ff _ (by omega) (by omega) (by omega)).trans (hI1.2.1 i hi)) ((ff _ (by omega) (by omega) (by omega)).trans hI1.2.2) (fun _ _ => rfl)
  refine ⟨_, _, ?_, ⟨_, _, _, _, _, _, c1.t4 (E' := E') (F' := F') (C' := mI M1 (x + 1097)) (P' := P') hv⟩, li⟩
  rw [e1, zb_s, e2, cb_s, gd_s rfl]
theorem say_l {p6 p7 x9 : Int32} (h : CI x M n r q b g c t l) (hI : LI x M r) (hv : v < 3) (hn : n < 9000) (h38 : vo r v 38 = nI W) (hW4 : W ≤ 4) (hx : x9 = nI W) (hz : B2 z) : AR x n (f_L_acts_b470 x (x + 1095) (x + 1096) (x + 1097) (x + 1098 + v) (nI v) p6 p7 x9 z M) := by
  have d4 := dd (x := x) hv
  subst hx
  unfold f_L_acts_b470
  by_cases h4 : nI W = (4 : Int32)
  · rw [if_pos h4]
    exact ⟨M, r, rfl, ⟨_, _, _, _, _, _, h.mono (by omega)⟩, hI⟩
  · rw [if_neg h4]
    have hW : W ≤ 3 := by
      have : W ≠ 4 := fun e => h4 (by rw [e]; rfl)
      omega
    have hcan : zCS r (vo r v) = 1 := by
      unfold zCS
      rw [h38, if_pos (show nI W < (8 : Int32) from nI_lt (b := 8) (by omega) (by decide))]
    obtain ⟨M1, e1, c1, o1⟩ := say_c h hv hz hcan (by omega)
    have hI1 := hI.out o1
    obtain ⟨-, -, hB, -, hR⟩ := h.rv hv
    obtain ⟨E', C', P', e2, lv, fe, fc⟩ := says_l (M := M1) d4 hv (hI1.1 v hv) hB.1.1 hR hI1.2.1 hz h38 hW
    rw [T_id] at e2
    have li := hI1.deed (r' := zSaid r) hv (LV.congr lv fun _ _ => rfl) fe (fun i h9 _ _ _ => upd_ne (by omega)) fc (fun i hi => by
      rw [upd_ne (by omega)]
      unfold zSaid
      rw [upd_ne (by omega)]
      exact hI1.2.1 i hi) (by
      rw [upd_eq, hI1.2.2]
      unfold zSaid
      rw [upd_eq]) (fun i hi => by
      unfold zSaid
      rw [upd_ne (by omega)])
    refine ⟨_, _, ?_, ⟨_, _, _, _, _, _, c1.t4 (E' := E') (F' := upd (mI M1 (x + 1096)) 13 (mI M1 (x + 1096) 13 + 1)) (C' := C') (P' := P') hv⟩, li⟩
    rw [e1, zb_s, e2, cb_s, gd_s rfl]
theorem acts_l {p6 p7 : Int32} (h : CI x M n r q b g c t l) (hI : LI x M r) (hv : v < 3) (hn : n < 9000) : AR x n (f_L_acts x (x + 1095) (x + 1096) (x + 1097) (x + 1098 + v) (nI v) p6 p7 M) := by
  obtain ⟨⟨hE, -⟩, -, W, hW4, w38, hP⟩ := hI.1 v hv
  have e19 : mI M (x + 1095) (20 * v + 19) = nI W := (hE 19 (by decide)).trans w38
  have e4 : mI M (x + 1095) (20 * v + 4) = vo r v 4 := hE 4 (by decide)
  obtain ⟨M9, s9, k9⟩ := saying_T h hv (j := 9) (by decide)
  have s9 : f_X8_saying x (nI v) 9 M = some (0, vo r v 38, M9) := s9
  obtain ⟨M5, s5, k5⟩ := saying_T h hv (j := 5) (by decide)
  have s5 : f_X8_saying x (nI v) 5 M = some (0, vo r v 4, M5) := s5
  have v5 : mI M5 (x + 1095) = mI M (x + 1095) := k5.1 _ (by omega) (by omega) (by omega)
  have no : ∀ {N : Mem}, Lk x M N → ∃ M' r', some ((1 : Int32), N) = some (1, M') ∧ (∃ q b g c t l, CI x M' (n + 1) r' q b g c t l) ∧ LI x M' r' := fun {N} hk => ⟨N, r, rfl, ⟨_, _, _, _, _, _, (h.lk hk).mono (by omega)⟩, hI.lk hk⟩
  have b75 : AR x n (f_L_acts_b75 x (x + 1095) (x + 1096) (x + 1097) (x + 1098 + v) (nI v) p6 p7 (nI (20 * v)) M) := by
    unfold f_L_acts_b75
    rw [s5, zb_s]
    simp (disch := omega) only [nb_s, gdi, nI_clamp, iA_1, iA_2, iA_3, iA_4, iA_5, iA_6, iA_7, iA_8, iA_9, iA_10, iA_11, iA_12, iA_13, iA_14, iA_15, iA_16, iA_17, iA_18, iA_19, iA_20, Ai_1, Ai_2, Ai_3, Ai_5, Ai_6, Ai_9, Ai_16, Mi_8, Mi_16, Mi_20, gl_0, gl_1, gl_2, gl_3, gl_4, gl_5, gl_6, gl_7, gl_8, gl_9, gl_10, gl_11, gl_12, gl_13, cl_0, cl_1, cl_2, cl_3, cl_4, cl_5, cl_6, cl_7, cl_8, cl_9, cl_10, cl_11, cl_12, cl_13, v5, e4]
    exact no k5
  unfold f_L_acts
  rw [nb_s, Mi_20, iA_19, gdi (by omega) (by decide), nI_clamp (by omega), nb_s, e19]
  by_cases h0 : p6 = 0
  · rw [if_pos h0]
    simp (disch := omega) only [nb_s, gdi, nI_clamp, iA_1, iA_2, iA_3, iA_4, iA_5, iA_6, iA_7, iA_8, iA_9, iA_10, iA_11, iA_12, iA_13, iA_14, iA_15, iA_16, iA_17, iA_18, iA_19, iA_20, Ai_1, Ai_2, Ai_3, Ai_5, Ai_6, Ai_9, Ai_16, Mi_8, Mi_16, Mi_20, gl_0, gl_1, gl_2, gl_3, gl_4, gl_5, gl_6, gl_7, gl_8, gl_9, gl_10, gl_11, gl_12, gl_13, cl_0, cl_1, cl_2, cl_3, cl_4, cl_5, cl_6, cl_7, cl_8, cl_9, cl_10, cl_11, cl_12, cl_13, e4]
    by_cases z4 : vo r v 4 = 0
    · rw [if_pos z4]; exact b75
    · rw [if_neg z4]
      by_cases w4 : nI W = (4 : Int32)
      · rw [if_pos w4]; exact b75
      · rw [if_neg w4]
        have hW : W ≤ 3 := by
          have : W ≠ 4 := fun e => w4 (by rw [e]; rfl)
          omega
        exact flush_l h hI hv hn z4 w38 hW
  rw [if_neg h0]
  by_cases h1 : p6 = 1
  · rw [if_pos h1]
    by_cases w0 : nI W = 0
    · rw [if_pos w0, s9, zb_s, gd_s (by rw [w38]; exact w0)]
      exact no k9
    · rw [if_neg w0]
      simp (disch := omega) only [nb_s, gdi, nI_clamp, iA_1, iA_2, iA_3, iA_4, iA_5, iA_6, iA_7, iA_8, iA_9, iA_10, iA_11, iA_12, iA_13, iA_14, iA_15, iA_16, iA_17, iA_18, iA_19, iA_20, Ai_1, Ai_2, Ai_3, Ai_5, Ai_6, Ai_9, Ai_16, Mi_8, Mi_16, Mi_20, gl_0, gl_1, gl_2, gl_3, gl_4, gl_5, gl_6, gl_7, gl_8, gl_9, gl_10, gl_11, gl_12, gl_13, cl_0, cl_1, cl_2, cl_3, cl_4, cl_5, cl_6, cl_7, cl_8, cl_9, cl_10, cl_11, cl_12, cl_13]
      obtain ⟨k, rfl⟩ : ∃ k, W = k + 1 := ⟨W - 1, by have : W ≠ 0 := fun e => w0 (by rw [e]; rfl); omega⟩
      exact lose_l h hI hv hn w38 (by omega)
  rw [if_neg h1]
  by_cases h2 : p6 = 2
  · rw [if_pos h2]
    by_cases w2 : (2 : Int32) ≤ nI W
    · rw [if_pos w2]
      have hW2 : 2 ≤ W := (nI_leI (a := 2) (by decide) (by omega)).mp w2
      obtain ⟨k, rfl⟩ : ∃ k, W = k + 2 := ⟨W - 2, by omega⟩
      exact swap_l h hI hv hn w38 (by omega)
    · rw [if_neg w2, s9, zb_s, gd_s (by rw [w38]; exact w2)]
      exact no k9
  rw [if_neg h2]
  by_cases h3 : p6 = 3
  · rw [if_pos h3]
    obtain ⟨k, hk, e1⟩ := low_v (p := p7) (n := 4) (M := M) (by decide) (by decide)
    have e1 : f_L_low p7 4 M = some (nI k) := e1
    obtain ⟨k4, hk4, l4⟩ := low_v (p := p7 >>> ((2 : Int32) &&& 31)) (n := 4) (M := M) (by decide) (by decide)
    obtain ⟨k100, hk100, l100⟩ := low_v (p := p7 >>> ((2 : Int32) &&& 31)) (n := 100) (M := M) (by decide) (by decide)
    obtain ⟨k8, hk8, l8⟩ := low_v (p := p7 >>> ((2 : Int32) &&& 31)) (n := 8) (M := M) (by decide) (by decide)
    obtain ⟨k9', hk9, l9⟩ := low_v (p := p7 >>> ((2 : Int32) &&& 31)) (n := 9) (M := M) (by decide) (by decide)
    have l4 : f_L_low (p7 >>> ((2 : Int32) &&& 31)) 4 M = some (nI k4) := l4
    have l100 : f_L_low (p7 >>> ((2 : Int32) &&& 31)) 100 M = some (nI k100) := l100
    have l8 : f_L_low (p7 >>> ((2 : Int32) &&& 31)) 8 M = some (nI k8) := l8
    have l9 : f_L_low (p7 >>> ((2 : Int32) &&& 31)) 9 M = some (nI k9') := l9
    rw [e1, vb_s]
    simp (disch := omega) only [nb_s, gdi, nI_clamp, iA_1, iA_2, iA_3, iA_4, iA_5, iA_6, iA_7, iA_8, iA_9, iA_10, iA_11, iA_12, iA_13, iA_14, iA_15, iA_16, iA_17, iA_18, iA_19, iA_20, Ai_1, Ai_2, Ai_3, Ai_5, Ai_6, Ai_9, Ai_16, Mi_8, Mi_16, Mi_20, gl_0, gl_1, gl_2, gl_3, gl_4, gl_5, gl_6, gl_7, gl_8, gl_9, gl_10, gl_11, gl_12, gl_13, cl_0, cl_1, cl_2, cl_3, cl_4, cl_5, cl_6, cl_7, cl_8, cl_9, cl_10, cl_11, cl_12, cl_13]
    rw [l4, vb_s, l100, vb_s, l8, vb_s, l9, vb_s, Ai_1, Ai_1, Ai_1]
    match k, hk with
    | 0, _ =>
      rw [if_pos (by decide)]
      exact set_l h hI (k := 0) (by decide) (by show 1 ≤ _; omega) (by show _ ≤ 4; omega)
    | 1, _ =>
      rw [if_neg (by decide), if_pos (by decide)]
      exact set_l h hI (k := 1) (by decide) (by show 0 ≤ _; omega) (by show _ ≤ 99; omega)
    | 2, _ =>
      rw [if_neg (by decide), if_neg (by decide), if_pos (by decide)]
      exact set_l h hI (k := 2) (by decide) (by show 1 ≤ _; omega) (by show _ ≤ 8; omega)
    | 3, _ =>
      rw [if_neg (by decide), if_neg (by decide), if_neg (by decide)]
      exact set_l h hI (k := 3) (by decide) (by show 1 ≤ _; omega) (by show _ ≤ 9; omega)
  rw [if_neg h3]
  have dl : AR x n (if nI W = 0 then some (1, M) else zb (f_X8_deliver x (nI v) M) fun r92 M93 => cb (f_L_comes (x + 1095) (x + 1096) (x + 1098 + v) (nI v) M93) fun r95 M96 => gd (r92 = r95) <| some (1, M96)) := by
    by_cases w0 : nI W = 0
    · rw [if_pos w0]
      exact no Lk.rf
    · rw [if_neg w0]
      obtain ⟨k, rfl⟩ : ∃ k, W = k + 1 := ⟨W - 1, by have : W ≠ 0 := fun e => w0 (by rw [e]; rfl); omega⟩
      exact dlv_l h hI hv hn w38 (by omega)
  by_cases h4 : p6 = 4
  · rw [if_pos h4]; exact dl
  rw [if_neg h4]
  by_cases h5 : p6 = 5
  · rw [if_pos h5]; exact dl
  rw [if_neg h5]
  by_cases h6 : p6 = 6
  · rw [if_pos h6]; exact dl
  rw [if_neg h6]
  obtain ⟨k3, hk3, l3⟩ := low_v (p := p7 >>> ((3 : Int32) &&& 31)) (n := 3) (M := M) (by decide) (by decide)
  obtain ⟨ka, hka, la⟩ := low_v (p := p7 >>> ((5 : Int32) &&& 31)) (n := 4001) (M := M) (by decide) (by decide)
  obtain ⟨kb, hkb, lb⟩ := low_v (p := p7 >>> ((5 : Int32) &&& 31)) (n := 300) (M := M) (by decide) (by decide)
  have l3 : f_L_low (p7 >>> ((3 : Int32) &&& 31)) 3 M = some (nI k3) := l3
  have la : f_L_low (p7 >>> ((5 : Int32) &&& 31)) 4001 M = some (nI ka) := la
  have lb : f_L_low (p7 >>> ((5 : Int32) &&& 31)) 300 M = some (nI kb) := lb
  rw [l3, vb_s, la, vb_s, lb, vb_s]
  by_cases h7 : nI k3 = 0
  · rw [if_pos h7]
    exact say_l h hI hv hn w38 hW4 rfl (B2_k (c := 2000) (by decide) (by decide) (by omega) (by omega))
  · rw [if_neg h7]
    exact say_l h hI hv hn w38 hW4 rfl (B2_k (c := 150) (by decide) (by decide) (by omega) (by omega))
end LACTS
