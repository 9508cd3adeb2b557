/-! THE LAW. What holds ahead of the first turn -/
theorem Kof_v : ∀ s ∈ [1, 137, 279, 415, 551, 687, 823, 959], ∀ v, v < 3 → ∀ i, i < 44 → Kof (s + 4 + 44 * v + i) = Kvo i := by decide +kernel
theorem Kvo_n : ∀ i, i < 44 → Kvo i ≠ 1004 := by decide +kernel
def w0 : Nat → Int32 := fun _ => 0
theorem vo_0 (v : Nat) : vo cINIT v = w0 := by
  funext k
  show cINIT (5 + 207 * v + k) = 0
  rw [show 5 + 207 * v + k = (1 + 207 * v + k) + 4 by omega]
  rfl
theorem WB_0 : WB 0 w0 := by
  have hw : ∀ k, w0 k = nI 0 := fun _ => rfl
  have hb : ∀ k, B2 (w0 k) := fun _ => B2_0
  have hi : ∀ k, ∃ i, i < 25 ∧ w0 k = nI i := fun k => ⟨0, by decide, rfl⟩
  refine ⟨⟨⟨⟨hb 0, hi 1⟩, ⟨0, by omega, rfl, by decide, by decide⟩, ⟨0, by omega, rfl⟩, fun j _ => hb _, ⟨hb 24, hi 25⟩, ⟨0, by omega, rfl⟩⟩, hb 26, hi 27⟩, ⟨0, 0, 0, 0, 0, 0, 0, 0, ⟨rfl, rfl, rfl, rfl, rfl, rfl, rfl, rfl⟩, by omega, by omega, by omega, by omega, by omega, by omega, by omega, by omega⟩, ⟨0, by omega, rfl, fun j hj => absurd hj (Nat.not_lt_zero j)⟩⟩
theorem RB_0 : RB cINIT := ⟨⟨1, by omega, by omega, rfl⟩, ⟨0, by omega, rfl⟩, ⟨4, by omega, by omega, rfl⟩, ⟨3, by omega, by omega, rfl⟩⟩
theorem RV_0 {M : Mem} {a : Nat} (h : ∀ i, i < 12 → mI M (a + i) = fun _ => 0) : RV M a w0 := by
  have z : ∀ i k, i < 12 → mI M (a + i) k = 0 := fun i k hi => by rw [h i hi]
  have hR : RR M (a + 1) w0 := by
    refine ⟨0, 0, by omega, rfl, z 1 10 (by decide), by omega, Or.inl ⟨rfl, rfl⟩, ⟨0, by omega, z 7 1 (by decide)⟩, fun _ => ?_, fun q => absurd rfl q⟩
    show (mI M (a + 7) 0, mI M (a + 7) 1) = (0, 0)
    rw [h 7 (by decide)]
  refine ⟨⟨⟨0, by omega, rfl, z 3 2 (by decide), ⟨z 2 0 (by decide), z 2 1 (by decide), z 1 2 (by decide), z 1 3 (by decide), z 1 5 (by decide), z 1 6 (by decide)⟩, fun j hj => absurd hj (Nat.not_lt_zero j), fun q => absurd rfl q, fun q => absurd rfl q⟩, hR, z 10 0 (by decide), z 10 1 (by decide), fun k _ _ => z 9 k (by decide)⟩, ⟨z 0 3 (by decide), z 0 4 (by decide)⟩, 0, by omega, rfl, fun j hj => absurd hj (Nat.not_lt_zero j)⟩
theorem WR_0 {M : Mem} {a : Nat} (h : ∀ i, i < 44 → mI M (a + i) = fun _ => 0) (hr : ∀ j, mR M (a + 11) j = a + 12 + 4 * j) : WR M a := by
  refine ⟨fun j hj => ⟨j, hj, hr j⟩, fun i j _ _ e => ?_, fun j hj => ?_, Or.inl ?_⟩
  · rw [hr, hr] at e
    omega
  · rw [hr, show a + 12 + 4 * j = a + (12 + 4 * j) by omega, h _ (by omega)]
    exact Or.inl rfl
  · rw [h 3 (by decide)]
section BASE
variable {G : Gt}
theorem M0_v (hk : ∀ a, gK G a = gKof (gB G) a) {s v i : Nat} (hs : s ∈ [1, 137, 279, 415, 551, 687, 823, 959]) (hv : v < 3) (hi : i < 44) : gK G (gB G + s + 4 + 44 * v + i) = Kvo i := by
  rw [hk, show gB G + s + 4 + 44 * v + i = gB G + (s + 4 + 44 * v + i) by omega]
  unfold gKof
  rw [if_neg (by omega), Nat.add_sub_cancel_left]
  exact Kof_v s hs v hv i hi
theorem M0_z (hk : ∀ a, gK G a = gKof (gB G) a) {s v i : Nat} (hs : s ∈ [1, 137, 279, 415, 551, 687, 823, 959]) (hv : v < 3) (hi : i < 44) : mI (M0 G) (gB G + s + 4 + 44 * v + i) = fun _ => 0 := m0_i (M0_v hk hs hv hi) (Kvo_n i hi)
theorem M0_w (hk : ∀ a, gK G a = gKof (gB G) a) {s : Nat} (hs : s ∈ [1, 137, 279, 415, 551, 687, 823, 959]) : WS (M0 G) (gB G + s) := fun v hv => WR_0 (fun i hi => M0_z hk hs hv hi) (fun j => by
  rw [m0_p (M0_v hk hs hv (i := 11) (by decide))])
theorem M0_k (hk : ∀ a, gK G a = gKof (gB G) a) (o : Nat) : gK G (gB G + o) = Kof o := by
  rw [hk]
  unfold gKof
  rw [if_neg (by omega), Nat.add_sub_cancel_left]
theorem CI_0 (hk : ∀ a, gK G a = gKof (gB G) a) : CI (gB G) (M0 G) 0 cINIT w0 false (fun _ => w0) 0 w0 0 := by
  have kk := M0_k hk
  have z : ∀ o, Kof o ≠ 1004 → mI (M0 G) (gB G + o) = fun _ => 0 := fun o ho => m0_i (kk o) ho
  refine ⟨⟨fun v hv => ?_, ⟨?_, RB_0⟩, ?_⟩, ⟨?_, fun e => absurd e (by decide)⟩, ⟨?_, by omega, fun j hj => absurd hj (Nat.not_lt_zero j)⟩, ⟨fun j hj => ⟨j, hj, ?_⟩, fun i j hi hj e => ?_⟩, ⟨M0_w hk (by decide), M0_w hk (by decide), fun i hi => ?_⟩, ?_, by omega, fun j hj => absurd hj (Nat.not_lt_zero j)⟩
  · rw [vo_0]
    exact ⟨RV_0 fun i hi => M0_z hk (by decide) hv (by omega), WB_0⟩
  · intro i _
    show mI (M0 G) (gB G + 4) i = cINIT i
    rw [m0_s (kk 4)]
  · rw [show gB G + 1 + 5 = gB G + 6 from rfl, show gB G + 1 + 49 = gB G + 50 from rfl, show gB G + 1 + 93 = gB G + 94 from rfl, z 6 (by decide), z 50 (by decide), z 94 (by decide)]
    rfl
  · rw [show mI (M0 G) (gB G) = fun _ => 0 from z 0 (by decide)]
    rfl
  · rw [show mI (M0 G) (gB G) = fun _ => 0 from z 0 (by decide)]
    rfl
  · rw [m0_r (kk 273)]
  · rw [m0_r (kk 273), m0_r (kk 273)] at e
    omega
  · rw [Nat.add_assoc]
    match i, hi with
    | 0, _ => exact M0_w hk (s := 279) (by decide)
    | 1, _ => exact M0_w hk (s := 415) (by decide)
    | 2, _ => exact M0_w hk (s := 551) (by decide)
    | 3, _ => exact M0_w hk (s := 687) (by decide)
    | 4, _ => exact M0_w hk (s := 823) (by decide)
    | 5, _ => exact M0_w hk (s := 959) (by decide)
  · rw [z 274 (by decide)]
    rfl
/-- the memory ahead of the first turn -/
def Mst (G : Gt) : Mem := sI (sI (sI (M0 G) (gB G + 1096) 9 1) (gB G + 1096) 11 4) (gB G + 1096) 12 3
theorem wyR_w0 : wyR w0 = 0 := by
  unfold wyR whyR
  exact if_pos ⟨rfl, rfl⟩
theorem agR_0 : agR cINIT = 3 := by
  unfold agR
  rw [vo_0, vo_0, vo_0, if_pos wyR_w0]
  decide
theorem LI_0 (hk : ∀ a, gK G a = gKof (gB G) a) : LI (gB G) (Mst G) cINIT := by
  have kk := M0_k hk
  have z : ∀ o, Kof o ≠ 1004 → mI (M0 G) (gB G + o) = fun _ => 0 := fun o ho => m0_i (kk o) ho
  have o : ∀ a, a ≠ gB G + 1096 → mI (Mst G) a = mI (M0 G) a := fun a ha => by
    unfold Mst
    rw [mI_sn ha, mI_sn ha, mI_sn ha]
  have f : mI (Mst G) (gB G + 1096) = upd (upd (upd (fun _ => 0) 9 1) 11 4) 12 3 := by
    unfold Mst
    rw [mI_up, mI_up, mI_up, z 1096 (by decide)]
  have e5 : mI (Mst G) (gB G + 1095) = fun _ => 0 := by rw [o _ (by omega), z 1095 (by decide)]
  have e7 : mI (Mst G) (gB G + 1097) = fun _ => 0 := by rw [o _ (by omega), z 1097 (by decide)]
  refine ⟨fun v hv => ?_, fun i hi => ?_, ?_⟩
  · have e8 : mI (Mst G) (gB G + 1098 + v) = fun _ => 0 := by
      rw [o _ (by omega), Nat.add_assoc]
      refine z (1098 + v) ?_
      match v, hv with
      | 0, _ => decide
      | 1, _ => decide
      | 2, _ => decide
    rw [e5, e7, e8, f, vo_0]
    refine ⟨⟨fun i _ => rfl, ?_, ?_, ?_⟩, ⟨0, by omega, rfl, fun j hj => absurd hj (Nat.not_lt_zero j)⟩, ⟨0, by omega, rfl, fun j hj => absurd hj (Nat.not_lt_zero j)⟩⟩
    · rw [upd_ne (by omega), upd_ne (by omega), upd_ne (by omega)]
      rfl
    · rw [upd_ne (by omega), upd_ne (by omega), upd_ne (by omega)]
      rfl
    · rw [upd_ne (by omega), upd_ne (by omega), upd_ne (by omega)]
      rfl
  · rw [f]
    match i, hi with
    | 0, _ => rfl
    | 1, _ => rfl
    | 2, _ => rfl
    | 3, _ => rfl
  · rw [f]
    rfl
theorem LInv_0 (hk : ∀ a, gK G a = gKof (gB G) a) : ∃ M', f_L_areCounts (gB G) (gB G + 1095) (gB G + 1096) 3 (Mst G) = some (1, M') ∧ LInv (gB G) 0 M' := by
  have hc : CI (gB G) (Mst G) 0 cINIT w0 false (fun _ => w0) 0 w0 0 := (CI_0 hk).law (fun a ha => by
    unfold Mst
    rw [mI_sn (by omega), mI_sn (by omega), mI_sn (by omega)]) rfl
  obtain ⟨M', e, lk⟩ := cnts_l hc (LI_0 hk) (by omega)
  rw [agR_0] at e
  exact ⟨M', e, cINIT, w0, false, fun _ => w0, 0, w0, 0, hc.lk lk, (LI_0 hk).lk lk⟩
end BASE
