/-! THE LAW. What holds ahead of the first turn -/
theorem Kof_v : ∀ s ∈ [1, 137, 279, 415, 551, 687, 823, 959], ∀ v, v < 3 → ∀ i, i < 44 → Kof (s + 4 + 44 * v + i) = Kvo i := by decide +kernel
theorem Kvo_n : ∀ i, i < 44 → Kvo i ≠ 1004 ∧ Kvo i ≠ 1025 ∧ Kvo i ≠ 1626 := by decide +kernel
def w0 : Nat → Int32 := fun _ => 0
theorem vo_0 (v : Nat) : vo cINIT v = w0 := by
  funext k
  show cINIT (5 + 207 * v + k) = 0
  rw [show 5 + 207 * v + k = (1 + 207 * v + k) + 4 by omega]
  rfl
theorem WB_0 : WB 0 w0 := by
  have hw : ∀ k, w0 k = nI 0 := fun _ => rfl
  have hb : ∀ k, B2 (w0 k) := fun _ => B2_0
  have hi : ∀ k, ∃ i, i < 25 ∧ w0 k = nI i := fun k => ⟨0, by decide, rfl⟩
  refine ⟨⟨⟨⟨hb 0, hi 1⟩, ⟨0, by omega, rfl, by decide, by decide⟩, ⟨0, by omega, rfl⟩, fun j _ => hb _, ⟨hb 24, hi 25⟩, ⟨0, by omega, rfl⟩⟩, hb 26, hi 27⟩, ⟨0, 0, 0, 0, 0, 0, 0, 0, ⟨rfl, rfl, rfl, rfl, rfl, rfl, rfl, rfl⟩, by omega, by omega, by omega, by omega, by omega, by omega, by omega, by omega⟩, ⟨0, by omega, rfl, fun j hj => absurd hj (Nat.not_lt_zero j)⟩⟩
theorem RB_0 : RB cINIT := ⟨⟨1, by omega, by omega, rfl⟩, ⟨0, by omega, rfl⟩, ⟨4, by omega, by omega, rfl⟩, ⟨3, by omega, by omega, rfl⟩⟩
theorem RV_0 {M : Mem} {a : Nat} (h : ∀ i, i < 12 → mI M (a + i) = fun _ => 0) : RV M a w0 := by
  have z : ∀ i k, i < 12 → mI M (a + i) k = 0 := fun i k hi => by rw [h i hi]
  have hR : RR M (a + 1) w0 := by
    refine ⟨0, 0, by omega, rfl, z 1 10 (by decide), by omega, Or.inl ⟨rfl, rfl⟩, ⟨0, by omega, z 7 1 (by decide)⟩, fun _ => ?_, fun q => absurd rfl q⟩
    show (mI M (a + 7) 0, mI M (a + 7) 1) = (0, 0)
    rw [h 7 (by decide)]
  refine ⟨⟨⟨0, by omega, rfl, z 3 2 (by decide), ⟨z 2 0 (by decide), z 2 1 (by decide), z 1 2 (by decide), z 1 3 (by decide), z 1 5 (by decide), z 1 6 (by decide)⟩, fun j hj => absurd hj (Nat.not_lt_zero j), fun q => absurd rfl q, fun q => absurd rfl q⟩, hR, z 10 0 (by decide), z 10 1 (by decide), fun k _ _ => z 9 k (by decide)⟩, ⟨z 0 3 (by decide), z 0 4 (by decide)⟩, 0, by omega, rfl, fun j hj => absurd hj (Nat.not_lt_zero j)⟩
theorem WR_0 {M : Mem} {a : Nat} (h : ∀ i, i < 44 → mI M (a + i) = fun _ => 0) (hr : ∀ j, mR M (a + 11) j = a + 12 + 4 * j) : WR M a := by
  refine ⟨fun j hj => ⟨j, hj, hr j⟩, fun i j _ _ e => ?_, fun j hj => ?_, Or.inl ?_⟩
  · rw [hr, hr] at e
    omega
  · rw [hr, show a + 12 + 4 * j = a + (12 + 4 * j) by omega, h _ (by omega)]
    exact Or.inl rfl
  · rw [h 3 (by decide)]
section BASE
variable {G : Gt}
theorem M0_v (hk : ∀ a, gK G a = gKof (gB G) a) {s v i : Nat} (hs : s ∈ [1, 137, 279, 415, 551, 687, 823, 959]) (hv : v < 3) (hi : i < 44) : gK G (gB G + s + 4 + 44 * v + i) = Kvo i := by
  rw [hk, show gB G + s + 4 + 44 * v + i = gB G + (s + 4 + 44 * v + i) by omega]
  unfold gKof
  rw [if_neg (by omega), Nat.add_sub_cancel_left]
  exact Kof_v s hs v hv i hi
theorem M0_z (hk : ∀ a, gK G a = gKof (gB G) a) {s v i : Nat} (hs : s ∈ [1, 137, 279, 415, 551, 687, 823, 959]) (hv : v < 3) (hi : i < 44) : mI (M0 G) (gB G + s + 4 + 44 * v + i) = fun _ => 0 := m0_i (M0_v hk hs hv hi) (Kvo_n i hi)
theorem M0_w (hk : ∀ a, gK G a = gKof (gB G) a) {s : Nat} (hs : s ∈ [1, 137, 279, 415, 551, 687, 823, 959]) : WS (M0 G) (gB G + s) := fun v hv => WR_0 (fun i hi => M0_z hk hs hv hi) (fun j => by
  rw [m0_p (M0_v hk hs hv (i := 11) (by decide))])
theorem Inv_0 (hk : ∀ a, gK G a = gKof (gB G) a) : Inv (gB G) 0 (M0 G) := by
  have kk : ∀ o, gK G (gB G + o) = Kof o := fun o => by
    rw [hk]
    unfold gKof
    rw [if_neg (by omega), Nat.add_sub_cancel_left]
  have hmo : gK G (gB G + 1095) = 10 := kk 1095
  have z : ∀ o, Kof o ≠ 1004 ∧ Kof o ≠ 1025 ∧ Kof o ≠ 1626 → mI (M0 G) (gB G + o) = fun _ => 0 := fun o ho => m0_i (kk o) ho
  refine ⟨cINIT, w0, false, fun _ => w0, 0, w0, 0, Nat.le_refl _, ⟨⟨fun v hv => ?_, ⟨?_, RB_0⟩, ?_⟩, ⟨?_, fun e => absurd e (by decide)⟩, ⟨?_, by omega, fun j hj => absurd hj (Nat.not_lt_zero j)⟩, ⟨fun j hj => ⟨j, hj, ?_⟩, fun i j hi hj e => ?_⟩, ⟨M0_w hk (by decide), M0_w hk (by decide), fun i hi => ?_⟩, ?_, by omega, fun j hj => absurd hj (Nat.not_lt_zero j)⟩, ⟨⟨?_, ?_⟩, ⟨?_, fun e => absurd e (by decide)⟩, ⟨?_, fun j hj => absurd hj (Nat.not_lt_zero j)⟩, ?_, fun j hj => absurd hj (Nat.not_lt_zero j)⟩⟩
  · rw [vo_0]
    exact ⟨RV_0 fun i hi => M0_z hk (by decide) hv (by omega), WB_0⟩
  · intro i _
    show mI (M0 G) (gB G + 4) i = cINIT i
    rw [m0_s (kk 4)]
  · rw [show gB G + 1 + 5 = gB G + 6 from rfl, show gB G + 1 + 49 = gB G + 50 from rfl, show gB G + 1 + 93 = gB G + 94 from rfl, z 6 (by decide), z 50 (by decide), z 94 (by decide)]
    rfl
  · rw [show mI (M0 G) (gB G) = fun _ => 0 from z 0 (by decide)]
    rfl
  · rw [show mI (M0 G) (gB G) = fun _ => 0 from z 0 (by decide)]
    rfl
  · rw [m0_r (kk 273)]
  · rw [m0_r (kk 273), m0_r (kk 273)] at e
    omega
  · rw [Nat.add_assoc]
    match i, hi with
    | 0, _ => exact M0_w hk (s := 279) (by decide)
    | 1, _ => exact M0_w hk (s := 415) (by decide)
    | 2, _ => exact M0_w hk (s := 551) (by decide)
    | 3, _ => exact M0_w hk (s := 687) (by decide)
    | 4, _ => exact M0_w hk (s := 823) (by decide)
    | 5, _ => exact M0_w hk (s := 959) (by decide)
  · rw [z 274 (by decide)]
    rfl
  · exact m0_w (kk 1096) hmo
  · exact m0_t (kk 1100)
  · rw [z 1095 (by decide)]
    rfl
  · rw [z 1095 (by decide)]
    rfl
  · rw [z 1095 (by decide)]
    rfl
end BASE
