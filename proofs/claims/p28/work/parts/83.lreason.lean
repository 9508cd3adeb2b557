/-! THE LAW. What would be if all came; why both ends do not agree -/
section LREASON
variable {M M1 M' N : Mem} {x a s d n m c l v j k i u X Y Z : Nat} {r q w w' t f : Nat → Int32} {g : Nat → Nat → Int32} {b : Bool} {y p p1 p2 p3 z : Int32} {E F C P E' F' P' : Nat → Int32}
theorem LQ.same (h : LQ w P) (hP : ∀ i, i < 64 → P' i = P i) : LQ w P' := by
  obtain ⟨W, h1, h2, h3⟩ := h
  exact ⟨W, h1, h2, fun j hj => (h3 j hj).congr (fun _ _ => rfl) fun i hi => hP _ (by omega)⟩
/-- all packets come, in rows of the law's own -/
theorem come_all {a1 a2 a3 a4 : Nat} (h : D4 X Y s Z) (hv : v < 3) : ∀ (d nn fu : Nat) (w E F P : Nat → Int32), d ≤ 4 → d < fu → nn + d < 9999 → WB nn w → w 38 = nI d → LE v w E → LW v w F → LQ w P → ∃ E' F' P', f_sreason_b50 a a1 a2 a3 a4 (nI v) X Y Z fu (nI (20 * v)) (T4 X Y s Z M E F C P) = f_sreason_b50 a a1 a2 a3 a4 (nI v) X Y Z 1 (nI (20 * v)) (T4 X Y s Z M E' F' C P') ∧ LE v (zDA d w) E' ∧ E' (20 * v + 19) = nI 0 := by
  intro d
  induction d with
  | zero =>
    intro nn fu w E F P hd hfu hnn hB h38 hE hW hQ
    obtain ⟨fu, rfl⟩ : ∃ k, fu = k + 1 := ⟨fu - 1, by omega⟩
    have e19 : E (20 * v + 19) = nI 0 := (hE 19 (by decide)).trans h38
    refine ⟨E, F, P, ?_, hE, e19⟩
    rw [f_sreason_b50, f_sreason_b50]
    simp (disch := omega) only [nb_s, gdi, nI_clamp, iA_1, iA_2, iA_3, iA_4, iA_5, iA_6, iA_7, iA_8, iA_9, iA_10, iA_11, iA_12, iA_13, iA_14, iA_15, iA_16, iA_17, iA_18, iA_19, iA_20, Ai_1, Ai_2, Ai_3, Ai_5, Ai_6, Ai_9, Ai_16, Mi_8, Mi_16, Mi_20, gl_0, gl_1, gl_2, gl_3, gl_4, gl_5, gl_6, gl_7, gl_8, gl_9, gl_10, gl_11, gl_12, gl_13, cl_0, cl_1, cl_2, cl_3, cl_4, cl_5, cl_6, cl_7, cl_8, cl_9, cl_10, cl_11, cl_12, cl_13, T_e h, T_f h, T_c h, T_p, S_e h, S_f h, S_c h, S_p, e19]
    rw [if_pos (show nI 0 ≤ 0 by decide), if_pos (show nI 0 ≤ 0 by decide)]
  | succ d ih =>
    intro nn fu w E F P hd hfu hnn hB h38 hE hW hQ
    obtain ⟨fu, rfl⟩ : ∃ k, fu = k + 1 := ⟨fu - 1, by omega⟩
    have e19 : E (20 * v + 19) = nI (d + 1) := (hE 19 (by decide)).trans h38
    obtain ⟨E1, F1, P1, e1, ⟨hE1, hW1, hQ1⟩, -, -⟩ := comes_l (M := M) (C := C) h hv hE hW hQ hB h38 (by omega) (by omega)
    obtain ⟨hB1, -⟩ := WB.dv (T := cSTEPS) hB h38 (by omega) (by omega)
    obtain ⟨E', F', P', e2, hE', e0⟩ := ih (nn + 1) fu (zDv cSTEPS w) E1 F1 P1 (by omega) (by omega) (by omega) hB1 (zDv_38 h38) hE1 hW1 hQ1
    refine ⟨E', F', P', ?_, hE', e0⟩
    rw [f_sreason_b50]
    simp (disch := omega) only [nb_s, gdi, nI_clamp, iA_1, iA_2, iA_3, iA_4, iA_5, iA_6, iA_7, iA_8, iA_9, iA_10, iA_11, iA_12, iA_13, iA_14, iA_15, iA_16, iA_17, iA_18, iA_19, iA_20, Ai_1, Ai_2, Ai_3, Ai_5, Ai_6, Ai_9, Ai_16, Mi_8, Mi_16, Mi_20, gl_0, gl_1, gl_2, gl_3, gl_4, gl_5, gl_6, gl_7, gl_8, gl_9, gl_10, gl_11, gl_12, gl_13, cl_0, cl_1, cl_2, cl_3, cl_4, cl_5, cl_6, cl_7, cl_8, cl_9, cl_10, cl_11, cl_12, cl_13, T_e h, T_f h, T_c h, T_p, S_e h, S_f h, S_c h, S_p, e19]
    rw [if_neg (show ¬ nI (d + 1) ≤ 0 from nI_ge (b := d + 1) (a := 0) (by omega) (by omega)), e1, cb_s]
    exact e2
/-- the codes gathered follow -/
theorem open_all {a2 a4 qq : Nat} {x10 x11 : Int32} (h : D4 X Y s Z) (hv : v < 3) (hq : qq ≤ 8) {Ee : Nat → Int32} (heX : a ≠ X) (heY : a ≠ Y) (hes : a ≠ s) (heZ : a ≠ Z) (hM : mI M a = Ee) (h4 : Ee (20 * v + 4) = nI qq) (hc : ∀ j, j < qq → C (8 * v + j) / (65536 : Int32) = w (5 + j) ∧ c16 (w (5 + j))) : ∀ (d j fu : Nat) (E : Nat → Int32) (st : Int32 × Int32), j + d = qq → d < fu → (E (20 * v + 10), E (20 * v + 11)) = zFl (fun k => w (5 + k)) j st → (∃ i, i < 25 ∧ st.2 = nI i) → ∃ E', f_sreason_b244 x a a2 s a4 (nI v) X Y Z fu (nI (20 * v)) x10 x11 (nI j) (T4 X Y s Z M E F C P) = f_sreason_b244 x a a2 s a4 (nI v) X Y Z 1 (nI (20 * v)) x10 x11 (nI qq) (T4 X Y s Z M E' F C P) ∧ (E' (20 * v + 10), E' (20 * v + 11)) = zFl (fun k => w (5 + k)) qq st := by
  intro d
  induction d with
  | zero =>
    intro j fu E st hj hfu hE hi
    obtain ⟨fu, rfl⟩ : ∃ k, fu = k + 1 := ⟨fu - 1, by omega⟩
    have hj : j = qq := by omega
    subst hj
    refine ⟨E, ?_, hE⟩
    rw [f_sreason_b244, f_sreason_b244]
    simp (disch := omega) only [nb_s, gdi, nI_clamp, iA_1, iA_2, iA_3, iA_4, iA_5, iA_6, iA_7, iA_8, iA_9, iA_10, iA_11, iA_12, iA_13, iA_14, iA_15, iA_16, iA_17, iA_18, iA_19, iA_20, Ai_1, Ai_2, Ai_3, Ai_5, Ai_6, Ai_9, Ai_16, Mi_8, Mi_16, Mi_20, gl_0, gl_1, gl_2, gl_3, gl_4, gl_5, gl_6, gl_7, gl_8, gl_9, gl_10, gl_11, gl_12, gl_13, cl_0, cl_1, cl_2, cl_3, cl_4, cl_5, cl_6, cl_7, cl_8, cl_9, cl_10, cl_11, cl_12, cl_13, T_e h, T_f h, T_c h, T_p, S_e h, S_f h, S_c h, S_p, T_o heX heY hes heZ, hM, h4]
    rw [if_pos (nI_le (Nat.le_refl _) (by omega)), if_pos (nI_le (Nat.le_refl _) (by omega))]
  | succ d ih =>
    intro j fu E st hj hfu hE hi
    obtain ⟨fu, rfl⟩ : ∃ k, fu = k + 1 := ⟨fu - 1, by omega⟩
    obtain ⟨ii, hi1, hi2⟩ := zFl_i (f := fun k => w (5 + k)) (k := j) hi
    rw [← hE] at hi2
    have hi2 : E (20 * v + 11) = nI ii := hi2
    obtain ⟨c1, c2⟩ := hc j (by omega)
    have fo := follows_l (N := 60) (k := 20 * v + 10) (a := X) (M := T4 X Y s Z M E F C P) (n := ii) (cc := w (5 + j)) (by omega) (by decide) (by rw [T_e h]; exact hi2) hi1 c2
    have hE2 : ((zF cSTEPS E (20 * v + 10) (w (5 + j))) (20 * v + 10), (zF cSTEPS E (20 * v + 10) (w (5 + j))) (20 * v + 11)) = zFl (fun k => w (5 + k)) (j + 1) st := by
      show _ = zSt (zFl (fun k => w (5 + k)) j st) (w (5 + j))
      rw [← hE]
      unfold zF zSt
      rw [upd_ne (show 20 * v + 10 ≠ 20 * v + 10 + 1 by omega), upd_eq, upd_eq]
    obtain ⟨E', e1, e2⟩ := ih (j + 1) fu (zF cSTEPS E (20 * v + 10) (w (5 + j))) st (by omega) (by omega) hE2 hi
    refine ⟨E', ?_, e2⟩
    rw [f_sreason_b244]
    simp (disch := omega) only [nb_s, gdi, nI_clamp, iA_1, iA_2, iA_3, iA_4, iA_5, iA_6, iA_7, iA_8, iA_9, iA_10, iA_11, iA_12, iA_13, iA_14, iA_15, iA_16, iA_17, iA_18, iA_19, iA_20, Ai_1, Ai_2, Ai_3, Ai_5, Ai_6, Ai_9, Ai_16, Mi_8, Mi_16, Mi_20, gl_0, gl_1, gl_2, gl_3, gl_4, gl_5, gl_6, gl_7, gl_8, gl_9, gl_10, gl_11, gl_12, gl_13, cl_0, cl_1, cl_2, cl_3, cl_4, cl_5, cl_6, cl_7, cl_8, cl_9, cl_10, cl_11, cl_12, cl_13, T_e h, T_f h, T_c h, T_p, S_e h, S_f h, S_c h, S_p, T_o heX heY hes heZ, hM, h4, zA]
    rw [if_neg (nI_ge (by omega) (by omega)), gd_s (by decide), c1, fo, vb_s, T_e h, A_e h]
    exact e1
theorem reason_l (h : CI x M n r q b g c t l) (hI : LI x M r) (hv : v < 3) (hn : n ≤ 512) (hX : x + 1101 ≤ X) (hY : x + 1101 ≤ Y) (hZ : x + 1101 ≤ Z) (hXY : Y ≠ X) (hXZ : Z ≠ X) (hYZ : Z ≠ Y) : ∃ M', f_sreason x (x + 1095) (x + 1096) (x + 1097) (x + 1098 + v) (nI v) X Y Z (sA (sA (sA M X fun _ => 0) Y fun _ => 0) Z fun _ => 0) = some (wyR (vo r v), M') ∧ CI x M' n r q b g c t l ∧ LI x M' r := by
  obtain ⟨⟨hE, hW⟩, ⟨qq, hq8, w4, hC⟩, hQ⟩ := hI.1 v hv
  obtain ⟨hV, hWR, hB, hS, hR⟩ := h.rv hv
  obtain ⟨W, hW4, w38, hPk⟩ := id hQ
  have hmn : ∀ j, j < 8 → B2 (vo r v (13 + j)) := hB.1.1.2.2.2.1
  have d4 : D4 X Y (x + 1097) Z := ⟨Ne.symm hXY, by omega, Ne.symm hXZ, by omega, Ne.symm hYZ, by omega⟩
  -- the three copies
  generalize hM0 : sA (sA (sA M X fun _ => 0) Y fun _ => 0) Z (fun _ => (0 : Int32)) = M0
  have o0 : ∀ a, a < x + 1101 → mI M0 a = mI M a := fun a ha => by
    rw [← hM0, mI_sAn (by omega), mI_sAn (by omega), mI_sAn (by omega)]
  have m0 : M0.2 = M.2 := by rw [← hM0]; rfl
  have c1 := copy_l (M := M0) (a := x + 1095) (b := X) (N := 60) (by omega) (by decide)
  generalize hM1 : sA M0 X (fun i => if i < 60 then mI M0 (x + 1095) i else mI M0 X i) = M1 at c1
  have o1 : ∀ a, a ≠ X → mI M1 a = mI M0 a := fun a ha => by rw [← hM1, mI_sAn ha]
  have X1 : ∀ i, i < 60 → mI M1 X i = mI M (x + 1095) i := fun i hi => by
    rw [← hM1, mI_sA]
    show (if i < 60 then mI M0 (x + 1095) i else mI M0 X i) = _
    rw [if_pos hi, o0 _ (by omega)]
  have c2 := copy_l (M := M1) (a := x + 1096) (b := Y) (N := 14) (by omega) (by decide)
  generalize hM2 : sA M1 Y (fun i => if i < 14 then mI M1 (x + 1096) i else mI M1 Y i) = M2 at c2
  have o2 : ∀ a, a ≠ Y → mI M2 a = mI M1 a := fun a ha => by rw [← hM2, mI_sAn ha]
  have Y2 : ∀ i, i < 14 → mI M2 Y i = mI M (x + 1096) i := fun i hi => by
    rw [← hM2, mI_sA]
    show (if i < 14 then mI M1 (x + 1096) i else mI M1 Y i) = _
    rw [if_pos hi, o1 _ (by omega), o0 _ (by omega)]
  have c3 := copy_l (M := M2) (a := x + 1098 + v) (b := Z) (N := 64) (by omega) (by decide)
  generalize hM3 : sA M2 Z (fun i => if i < 64 then mI M2 (x + 1098 + v) i else mI M2 Z i) = M3 at c3
  have o3 : ∀ a, a ≠ Z → mI M3 a = mI M2 a := fun a ha => by rw [← hM3, mI_sAn ha]
  have Z3 : ∀ i, i < 64 → mI M3 Z i = mI M (x + 1098 + v) i := fun i hi => by
    rw [← hM3, mI_sA]
    show (if i < 64 then mI M2 (x + 1098 + v) i else mI M2 Z i) = _
    rw [if_pos hi, o2 _ (by omega), o1 _ (by omega), o0 _ (by omega)]
  have q2 : M3.2 = M.2 := by rw [← hM3, ← hM2, ← hM1]; exact m0
  have lo : ∀ a, a < x + 1101 → mI M3 a = mI M a := fun a ha => by rw [o3 _ (by omega), o2 _ (by omega), o1 _ (by omega), o0 _ ha]
  have c1' : f_L_copy 60 60 (x + 1095) X 60 M0 = some M1 := c1
  have c2' : f_L_copy 14 14 (x + 1096) Y 14 M1 = some M2 := c2
  have c3' : f_L_copy 64 64 (x + 1098 + v) Z 64 M2 = some M3 := c3
  unfold f_sreason
  rw [nb_s, Mi_20, c1', vb_s, c2', vb_s, c3', vb_s]
  -- all come
  have hEX : LE v (vo r v) (mI M3 X) := fun i hi => by
    rw [o3 _ (by omega), o2 _ (by omega), X1 _ (by omega)]
    exact hE i hi
  have hFY : LW v (vo r v) (mI M3 Y) := by
    refine ⟨?_, ?_, ?_⟩
    · rw [o3 _ (by omega), Y2 _ (by omega)]; exact hW.1
    · rw [o3 _ (by omega), Y2 _ (by omega)]; exact hW.2.1
    · rw [o3 _ (by omega), Y2 _ (by omega)]; exact hW.2.2
  have hPZ : LQ (vo r v) (mI M3 Z) := hQ.same fun i hi => Z3 i hi
  obtain ⟨E1, F1, P1, g1, hE1, e0⟩ := come_all (M := M3) (C := mI M3 (x + 1097)) (a := x) (a1 := x + 1095) (a2 := x + 1096) (a3 := x + 1097) (a4 := x + 1098 + v) d4 hv W n lfuel (vo r v) (mI M3 X) (mI M3 Y) (mI M3 Z) hW4 (by unfold lfuel; omega) (by omega) hB w38 hEX hFY hPZ
  rw [T_id] at g1
  rw [g1]
  generalize hM4 : T4 X Y (x + 1097) Z M3 E1 F1 (mI M3 (x + 1097)) P1 = M4
  have lo4 : ∀ a, a < x + 1101 → mI M4 a = mI M a := fun a ha => by
    by_cases h97 : a = x + 1097
    · rw [h97, ← hM4, T_c d4, lo _ (by omega)]
    · rw [← hM4, T_o (by omega) (by omega) h97 (by omega), lo a ha]
  have X4 : mI M4 X = E1 := by rw [← hM4, T_e d4]
  have q4 : M4.2 = M.2 := by rw [← hM4]; exact q2
  have h4 : CI x M4 n r q b g c t l := h.law (fun a ha => lo4 a (by omega)) q4
  -- the looks
  obtain ⟨N0, s0, k0⟩ := would_T h4 hv (j := 0) (by decide) (by omega) w38 (by omega)
  obtain ⟨N1, s1, k1⟩ := would_T (h4.lk k0) hv (j := 1) (by decide) (by omega) w38 (by omega)
  obtain ⟨N2, s2, k2⟩ := would_T ((h4.lk k0).lk k1) hv (j := 2) (by decide) (by omega) w38 (by omega)
  obtain ⟨N3, s3, k3⟩ := would_T (((h4.lk k0).lk k1).lk k2) hv (j := 3) (by decide) (by omega) w38 (by omega)
  have l1 := k0.trans k1
  have l2 := l1.trans k2
  have l3 := l2.trans k3
  have hi : ∀ {N : Mem}, Lk x M4 N → ∀ a, x + 1095 ≤ a → mI N a = mI M4 a := fun hk a ha => hk.1 a (by omega) (by omega) (by omega)
  have s0 : f_X8_ifDelivered x (nI v) 0 M4 = some (0, zDA W (vo r v) 26, N0) := s0
  have s1 : f_X8_ifDelivered x (nI v) 1 N0 = some (0, zDA W (vo r v) 33 - vo r v 33, N1) := s1
  have s2 : f_X8_ifDelivered x (nI v) 2 N1 = some (0, zDA W (vo r v) 30 - vo r v 30, N2) := s2
  have s3 : f_X8_ifDelivered x (nI v) 3 N2 = some (0, zDA W (vo r v) 32 - vo r v 32, N3) := s3
  obtain ⟨aB, aL, ⟨Zz, Zz', z1, z2, z3, z4⟩, L, L', l1', l2', l3', l4'⟩ := all_B W n (vo r v) (by omega) (by omega) hB w38
  have wy : wyR (vo r v) = whyR (vo r v) (zDA W (vo r v)) (zOp (vo r v) (zDA W (vo r v)) qq) := by
    unfold wyR
    rw [w38, w4, nI_clamp (by omega), nI_clamp (by omega)]
  generalize hA : zDA W (vo r v) = A at *
  have x10 : E1 (20 * v + 10) = A 26 := hE1 10 (by decide)
  have x11 : E1 (20 * v + 11) = A 27 := hE1 11 (by decide)
  have x12 : E1 (20 * v + 12) = A 28 := hE1 12 (by decide)
  have x14 : E1 (20 * v + 14) = A 30 := hE1 14 (by decide)
  have x15 : E1 (20 * v + 15) = A 31 := hE1 15 (by decide)
  have x16 : E1 (20 * v + 16) = A 32 := hE1 16 (by decide)
  have x17 : E1 (20 * v + 17) = A 33 := hE1 17 (by decide)
  have x5 : E1 (20 * v + 5) = vo r v 21 := (hE1 5 (by decide)).trans (aL 21 (by decide))
  have y0 : mI M (x + 1095) (20 * v) = vo r v 0 := hE 0 (by decide)
  have y1 : mI M (x + 1095) (20 * v + 1) = vo r v 1 := hE 1 (by decide)
  have y4 : mI M (x + 1095) (20 * v + 4) = nI qq := (hE 4 (by decide)).trans w4
  have y14 : mI M (x + 1095) (20 * v + 14) = vo r v 30 := hE 14 (by decide)
  have y15 : mI M (x + 1095) (20 * v + 15) = vo r v 31 := hE 15 (by decide)
  have y16 : mI M (x + 1095) (20 * v + 16) = vo r v 32 := hE 16 (by decide)
  have y17 : mI M (x + 1095) (20 * v + 17) = vo r v 33 := hE 17 (by decide)
  have X0 : mI N0 X = E1 := (hi k0 X (by omega)).trans X4
  have X1' : mI N1 X = E1 := (hi l1 X (by omega)).trans X4
  have X2 : mI N2 X = E1 := (hi l2 X (by omega)).trans X4
  have X3 : mI N3 X = E1 := (hi l3 X (by omega)).trans X4
  have v1 : mI N1 (x + 1095) = mI M (x + 1095) := (hi l1 _ (by omega)).trans (lo4 _ (by omega))
  have v2 : mI N2 (x + 1095) = mI M (x + 1095) := (hi l2 _ (by omega)).trans (lo4 _ (by omega))
  have v3 : mI N3 (x + 1095) = mI M (x + 1095) := (hi l3 _ (by omega)).trans (lo4 _ (by omega))
  have vc : mI N3 (x + 1097) = mI M (x + 1097) := (hi l3 _ (by omega)).trans (lo4 _ (by omega))
  have lo5 : ∀ a, x + 1095 ≤ a → a < x + 1101 → mI N3 a = mI M a := fun a h1 h2 => (hi l3 _ h1).trans (lo4 _ h2)
  have h5 : CI x N3 n r q b g c t l := h4.lk l3
  -- behind the codes gathered
  have tail : ∀ x11' : Int32, ∃ M', f_sreason_b239 x (x + 1095) (x + 1096) (x + 1097) (x + 1098 + v) (nI v) X Y Z (nI (20 * v)) 1 x11' N3 = (if (zOp (vo r v) A qq).1 = vo r v 0 ∧ (zOp (vo r v) A qq).2 = vo r v 1 then f_sreason_b330 x (x + 1095) (x + 1096) (x + 1097) (x + 1098 + v) (nI v) X Y Z 1 0 M' else f_sreason_b320 x (x + 1095) (x + 1096) (x + 1097) (x + 1098 + v) (nI v) X Y Z 1 x11' M') ∧ CI x M' n r q b g c t l ∧ LI x M' r := by
    intro x11'
    have op := open_all (M := N3) (x := x) (a := x + 1095) (X := X) (Y := Y) (s := x + 1097) (Z := Z) (a2 := x + 1096) (a4 := x + 1098 + v) (w := vo r v) (F := mI N3 Y) (C := mI N3 (x + 1097)) (P := mI N3 Z) (x10 := 1) (x11 := x11') d4 hv hq8 (by omega) (by omega) (by omega) (by omega) v3 y4 (fun j hj => by
      rw [vc, (hC j hj).1]
      exact ⟨cm_c (hC j hj).2 (hmn j (by omega)), (hC j hj).2⟩) qq 0 lfuel (mI N3 X) (A 26, A 27) (by omega) (by unfold lfuel; omega) (by rw [X3, x10, x11]; rfl) aB.2
    obtain ⟨E2, o1, o2⟩ := op
    rw [T_id] at o1
    generalize hM5 : T4 X Y (x + 1097) Z N3 E2 (mI N3 Y) (mI N3 (x + 1097)) (mI N3 Z) = M5 at o1
    have lo6 : ∀ a, x + 1095 ≤ a → a < x + 1101 → mI M5 a = mI M a := fun a h1 h2 => by
      by_cases h97 : a = x + 1097
      · rw [h97, ← hM5, T_c d4]; exact vc
      · rw [← hM5, T_o (by omega) (by omega) h97 (by omega)]; exact lo5 a h1 h2
    have h6 : CI x M5 n r q b g c t l := h5.law (fun a ha => by rw [← hM5, T_o (by omega) (by omega) (by omega) (by omega)]) (by rw [← hM5]; rfl)
    have hI6 : LI x M5 r := by
      refine ⟨fun u hu => ?_, fun i hi => ?_, ?_⟩
      · rw [lo6 _ (by omega) (by omega), lo6 _ (by omega) (by omega), lo6 _ (by omega) (by omega), lo6 _ (by omega) (by omega)]
        exact hI.1 u hu
      · rw [lo6 _ (by omega) (by omega)]; exact hI.2.1 i hi
      · rw [lo6 _ (by omega) (by omega)]; exact hI.2.2
    have X5 : mI M5 X = E2 := by rw [← hM5, T_e d4]
    have v5 : mI M5 (x + 1095) = mI M (x + 1095) := lo6 _ (by omega) (by omega)
    refine ⟨M5, ?_, h6, hI6⟩
    unfold f_sreason_b239
    rw [show (0 : Int32) = nI 0 from rfl, o1, f_sreason_b244]
    simp (disch := omega) only [nb_s, gdi, nI_clamp, iA_1, iA_2, iA_3, iA_4, iA_5, iA_6, iA_7, iA_8, iA_9, iA_10, iA_11, iA_12, iA_13, iA_14, iA_15, iA_16, iA_17, iA_18, iA_19, iA_20, Ai_1, Ai_2, Ai_3, Ai_5, Ai_6, Ai_9, Ai_16, Mi_8, Mi_16, Mi_20, gl_0, gl_1, gl_2, gl_3, gl_4, gl_5, gl_6, gl_7, gl_8, gl_9, gl_10, gl_11, gl_12, gl_13, cl_0, cl_1, cl_2, cl_3, cl_4, cl_5, cl_6, cl_7, cl_8, cl_9, cl_10, cl_11, cl_12, cl_13, X5, v5, y0, y1, y4]
    rw [if_pos (nI_le (Nat.le_refl _) (by omega))]
    have o2 : (E2 (20 * v + 10), E2 (20 * v + 11)) = zOp (vo r v) A qq := o2
    rw [← o2]
    by_cases a1 : E2 (20 * v + 10) = vo r v 0
    · rw [if_pos a1]
      by_cases a2 : E2 (20 * v + 11) = vo r v 1
      · rw [if_pos a2, if_pos (show E2 (20 * v + 10) = vo r v 0 ∧ E2 (20 * v + 11) = vo r v 1 from ⟨a1, a2⟩)]
        rfl
      · rw [if_neg a2, if_neg (show ¬ (E2 (20 * v + 10) = vo r v 0 ∧ E2 (20 * v + 11) = vo r v 1) from fun z => a2 z.2)]
    · rw [if_neg a1, if_neg (show ¬ (E2 (20 * v + 10) = vo r v 0 ∧ E2 (20 * v + 11) = vo r v 1) from fun z => a1 z.1)]
  have last : ∀ {N : Mem} {due : Int32}, CI x N n r q b g c t l → LI x N r → due = wyR (vo r v) → ∃ M', f_sreason_b330 x (x + 1095) (x + 1096) (x + 1097) (x + 1098 + v) (nI v) X Y Z 1 due N = some (wyR (vo r v), M') ∧ CI x M' n r q b g c t l ∧ LI x M' r := by
    intro N due hc hl hd
    subst hd
    obtain ⟨M', e, lk⟩ := why_p hc hv (by omega)
    refine ⟨M', ?_, hc.lk lk, hl.lk lk⟩
    unfold f_sreason_b330
    rw [gd_s (by decide), e, zb_s, gd_s rfl]
  have fin : ∀ (x11' : Int32), (if x11' = 0 then (2 : Int32) else 1) = (if A 31 = vo r v 31 ∧ A 30 = vo r v 30 ∧ A 28 = vo r v 21 then 2 else 1) → ∃ M', f_sreason_b239 x (x + 1095) (x + 1096) (x + 1097) (x + 1098 + v) (nI v) X Y Z (nI (20 * v)) 1 x11' N3 = some (wyR (vo r v), M') ∧ CI x M' n r q b g c t l ∧ LI x M' r := by
    intro x11' hx
    obtain ⟨M5, e5, h6, hI6⟩ := tail x11'
    rw [e5]
    have wy2 := wy
    unfold whyR at wy2
    by_cases ag : (zOp (vo r v) A qq).1 = vo r v 0 ∧ (zOp (vo r v) A qq).2 = vo r v 1
    · rw [if_pos ag]
      rw [if_pos ag] at wy2
      exact last h6 hI6 wy2.symm
    · rw [if_neg ag]
      rw [if_neg ag, ← hx] at wy2
      unfold f_sreason_b320
      by_cases hz : x11' = 0
      · rw [if_pos hz]
        rw [if_pos hz] at wy2
        exact last h6 hI6 wy2.symm
      · rw [if_neg hz]
        rw [if_neg hz] at wy2
        exact last h6 hI6 wy2.symm
  rw [f_sreason_b50]
  simp (disch := omega) only [nb_s, gdi, nI_clamp, iA_1, iA_2, iA_3, iA_4, iA_5, iA_6, iA_7, iA_8, iA_9, iA_10, iA_11, iA_12, iA_13, iA_14, iA_15, iA_16, iA_17, iA_18, iA_19, iA_20, Ai_1, Ai_2, Ai_3, Ai_5, Ai_6, Ai_9, Ai_16, Mi_8, Mi_16, Mi_20, gl_0, gl_1, gl_2, gl_3, gl_4, gl_5, gl_6, gl_7, gl_8, gl_9, gl_10, gl_11, gl_12, gl_13, cl_0, cl_1, cl_2, cl_3, cl_4, cl_5, cl_6, cl_7, cl_8, cl_9, cl_10, cl_11, cl_12, cl_13, X4, e0]
  rw [if_pos (show nI 0 ≤ 0 by decide), s0, zb_s, X0, gd_s x10.symm, s1, zb_s, X1', v1, x17, y17, gd_s rfl, s2, zb_s, X2, v2, x14, y14, gd_s rfl, s3, zb_s, X3, v3, x16, y16, gd_s rfl, x15, y15, x14, y14, x12, x5]
  unfold f_sreason_b234
  by_cases t1 : vo r v 31 < A 31
  · rw [if_pos t1]
    refine fin 1 ?_
    rw [if_neg (by decide), if_neg (fun z => by rw [z.1] at t1; exact absurd t1 (by simp))]
  · have q1 : A 31 = vo r v 31 := by
      rw [l1', l2'] at t1 ⊢
      have h2 : ¬ L < L' := fun z => t1 ((nI_ltI (by omega) (by omega)).mpr z)
      rw [show L' = L by omega]
    rw [if_neg t1]
    by_cases t2 : vo r v 30 < A 30
    · rw [if_pos t2]
      refine fin 1 ?_
      rw [if_neg (by decide), if_neg (fun z => by rw [z.2.1] at t2; exact absurd t2 (by simp))]
    · have q3 : A 30 = vo r v 30 := by
        rw [z1, z2] at t2 ⊢
        have h2 : ¬ Zz < Zz' := fun z => t2 ((nI_ltI (by omega) (by omega)).mpr z)
        rw [show Zz' = Zz by omega]
      rw [if_neg t2]
      by_cases t3 : A 28 = vo r v 21
      · rw [if_pos t3]
        refine fin 0 ?_
        rw [if_pos rfl, if_pos ⟨q1, q3, t3⟩]
      · rw [if_neg t3]
        refine fin 1 ?_
        rw [if_neg (by decide), if_neg (fun z => t3 z.2.2)]
end LREASON
