/-! THE CLASS. Copies of packets, voices, states -/
/-- cells that agree: S by place and slot, T by place and length -/
def SE (M' : Mem) (a' : Nat) (M : Mem) (a : Nat) (S T : List (Nat × Nat)) : Prop := (∀ z ∈ S, mI M' (a' + z.1) z.2 = mI M (a + z.1) z.2) ∧ ∀ z ∈ T, ∀ k, k < z.2 → mI M' (a' + z.1) k = mI M (a + z.1) k
/-- under way: d becomes what s was in M0; nothing else than the n places from d on has changed -/
def Cp (M0 M : Mem) (d s n : Nat) (S T : List (Nat × Nat)) : Prop := SE M d M0 s S T ∧ (∀ b, b < d ∨ d + n ≤ b → mI M b = mI M0 b) ∧ M.2 = M0.2
abbrev pkS : List (Nat × Nat) := [(0, 2), (0, 3), (0, 4), (3, 0), (3, 1)]
abbrev pkT : List (Nat × Nat) := [(1, 8), (2, 8)]
abbrev voS : List (Nat × Nat) := [(0, 3), (0, 4), (1, 1), (1, 2), (1, 3), (1, 5), (1, 6), (1, 7), (1, 10), (2, 0), (2, 1), (3, 2), (3, 3), (3, 4), (6, 0), (6, 1), (7, 0), (7, 1), (9, 1), (9, 2), (9, 3), (9, 4), (9, 5), (9, 6), (9, 7), (9, 8), (9, 9), (10, 0), (10, 1)]
abbrev voT : List (Nat × Nat) := [(4, 8), (5, 8), (8, 72)]
def PkEq (M' : Mem) (p' : Nat) (M : Mem) (p : Nat) : Prop := SE M' p' M p pkS pkT
def VoEq (M' : Mem) (a' : Nat) (M : Mem) (a : Nat) : Prop := SE M' a' M a voS voT ∧ ∀ j, j < 8 → PkEq M' (mR M' (a' + 11) j) M (mR M (a + 11) j)
def StEq (M' : Mem) (d : Nat) (M : Mem) (s : Nat) : Prop := (∀ v, v < 3 → VoEq M' (d + 4 + 44 * v) M (s + 4 + 44 * v)) ∧ ∀ i, i < 4 → mI M' (d + 3) i = mI M (s + 3) i
/-- the wire of a voice holds its own eight packets; flags are 0 or 1 -/
def WR (M : Mem) (a : Nat) : Prop := (∀ j, j < 8 → ∃ t, t < 8 ∧ mR M (a + 11) j = a + 12 + 4 * t) ∧ (∀ i j, i < 8 → j < 8 → mR M (a + 11) i = mR M (a + 11) j → i = j) ∧ (∀ j, j < 8 → mI M (mR M (a + 11) j) 4 = 0 ∨ mI M (mR M (a + 11) j) 4 = 1) ∧ (mI M (a + 3) 4 = 0 ∨ mI M (a + 3) 4 = 1)
theorem pkS_lt : ∀ z ∈ pkS, z.1 < 4 := by decide
theorem pkT_lt : ∀ z ∈ pkT, z.1 < 4 := by decide
theorem voS_lt : ∀ z ∈ voS, z.1 < 12 := by decide
theorem voT_lt : ∀ z ∈ voT, z.1 ≠ 0 ∧ z.1 < 12 := by decide
theorem voS_in : ∀ z ∈ voS, ¬ (z.1 = 0 ∧ z.2 = 4) → ¬ (z.1 = 0 ∧ z.2 = 3) → z ∈ [(9, 9), (9, 8), (9, 7), (9, 6), (9, 5), (9, 4), (9, 3), (9, 2), (9, 1), (10, 1), (10, 0), (1, 10), (7, 1), (7, 0), (1, 7), (1, 6), (1, 5), (6, 1), (6, 0), (3, 4), (3, 3), (3, 2), (1, 3), (1, 2), (1, 1), (2, 1), (2, 0)] := by decide
theorem voT_in : ∀ z ∈ voT, z ∈ [(8, 72), (5, 8), (4, 8)] := by decide
section CCOPY
variable {M M0 M1 M' : Mem} {a b d e o p k n q m s : Nat} {S T : List (Nat × Nat)} {x : Int32}
theorem mI_cpn {sp dp : Nat} (h : b ≠ a) : mI (cpI M e a sp dp n) b = mI M b := by funext j; rw [mI_cpI, if_neg (fun z => h z.1)]
theorem Cp.start : Cp M M d s n [] [] := ⟨⟨fun z hz => (List.not_mem_nil hz).elim, fun z hz => (List.not_mem_nil hz).elim⟩, fun _ _ => rfl, rfl⟩
theorem Cp.src (h : Cp M0 M d s n S T) (hd : d + n ≤ s ∨ s + n ≤ d) (ho : o < n) : mI M (s + o) = mI M0 (s + o) := h.2.1 _ (by omega)
theorem Cp.put (h : Cp M0 M d s n S T) (hd : d + n ≤ s ∨ s + n ≤ d) (ho : o < n) : Cp M0 (sI M (d + o) k (mI M (s + o) k)) d s n ((o, k) :: S) T := by
  rw [h.src hd ho]
  refine ⟨⟨fun z hz => ?_, fun z hz j hj => ?_⟩, fun b hb => ?_, h.2.2⟩
  · rw [mI_sI]
    split
    · rename_i q
      rw [q.2, show z.1 = o by omega]
    · rename_i q
      rcases List.mem_cons.mp hz with rfl | hz
      · exact (q ⟨rfl, rfl⟩).elim
      · exact h.1.1 z hz
  · rw [mI_sI]
    split
    · rename_i q
      rw [q.2, show z.1 = o by omega]
    · exact h.1.2 z hz j hj
  · rw [mI_sn (by omega)]
    exact h.2.1 b hb
theorem Cp.row (h : Cp M0 M d s n S T) (hd : d + n ≤ s ∨ s + n ≤ d) (ho : o < n) : Cp M0 (cpI M (s + o) (d + o) 0 0 k) d s n S ((o, k) :: T) := by
  have hv : ∀ c j, mI (cpI M (s + o) (d + o) 0 0 k) c j = if c = d + o ∧ j < k then mI M0 (s + o) j else mI M c j := by
    intro c j
    rw [mI_cpI, h.src hd ho]
    by_cases hc : c = d + o ∧ j < k
    · rw [if_pos ⟨hc.1, by omega, by omega⟩, if_pos hc]
      congr 1
      omega
    · rw [if_neg (fun z => hc ⟨z.1, by omega⟩), if_neg hc]
  refine ⟨⟨fun z hz => ?_, fun z hz j hj => ?_⟩, fun b hb => ?_, h.2.2⟩
  · rw [hv]
    split
    · rename_i q
      rw [show z.1 = o by omega]
    · exact h.1.1 z hz
  · rw [hv]
    split
    · rename_i q
      rw [show z.1 = o by omega]
    · rename_i q
      rcases List.mem_cons.mp hz with rfl | hz
      · exact (q ⟨rfl, hj⟩).elim
      · exact h.1.2 z hz j hj
  · funext j
    rw [hv, if_neg (by omega)]
    exact congrFun (h.2.1 b hb) j
theorem n80 : (8 : Int32).toNatClampNeg = 8 := by decide
theorem n00 : (0 : Int32).toNatClampNeg = 0 := by decide
theorem n72 : (72 : Int32).toNatClampNeg = 72 := by decide
theorem Cp.ends (h : Cp M0 M d s n S T) (hd : d + n ≤ s ∨ s + n ≤ d) (ho : o < n) : ∃ M', f_X0_copyFrom (d + o) (s + o) M = some M' ∧ Cp M0 M' d s n ((o, 1) :: (o, 0) :: S) T := by
  unfold f_X0_copyFrom
  exact ⟨_, rfl, (h.put hd ho).put hd ho⟩
/-- a packet at the same place o of both -/
theorem Cp.packet (h : Cp M0 M d s n S T) (hd : d + n ≤ s ∨ s + n ≤ d) (ho : o + 3 < n) (hf : mI M0 (s + o) 4 = 0 ∨ mI M0 (s + o) 4 = 1) : ∃ M', f_X2_copyFrom (d + o) (s + o) M = some M' ∧ Cp M0 M' d s n ((o + 3, 1) :: (o + 3, 0) :: (o, 4) :: (o, 3) :: (o, 2) :: S) ((o + 2, 8) :: (o + 1, 8) :: T) := by
  have h1 := h.row hd (o := o + 1) (k := 8) (by omega)
  have h2 := h1.row hd (o := o + 2) (k := 8) (by omega)
  have h3 := h2.put hd (o := o) (k := 2) (by omega)
  have h4 := h3.put hd (o := o) (k := 3) (by omega)
  have h5 := h4.put hd (o := o) (k := 4) (by omega)
  obtain ⟨M', e1, h6⟩ := h5.ends hd (o := o + 3) (by omega)
  refine ⟨M', ?_, h6⟩
  unfold f_X2_copyFrom
  simp only [n80, n00]
  rw [gd_s (by decide), nb_s, gd_s (by decide), nb_s, nb_s, nb_s, gd_s ?_, nb_s]
  · exact congrArg (fun z => vb z _) e1
  · have h7 := h4.src hd (o := o) (by omega)
    have h8 := congrFun h7 4
    have h9 : mI M0 (s + o) 4 = 0 ∨ mI M0 (s + o) 4 = 1 := hf
    rw [← h8] at h9
    exact h9
theorem pcopy (hd : d + 4 ≤ s ∨ s + 4 ≤ d) (hf : mI M s 4 = 0 ∨ mI M s 4 = 1) : ∃ M', f_X2_copyFrom d s M = some M' ∧ PkEq M' d M s ∧ (∀ b, b < d ∨ d + 4 ≤ b → mI M' b = mI M b) ∧ M'.2 = M.2 := by
  obtain ⟨M', e1, h⟩ := (Cp.start (M := M) (d := d) (s := s) (n := 4)).packet hd (o := 0) (by decide) hf
  refine ⟨M', e1, ⟨fun z hz => h.1.1 z ?_, fun z hz => h.1.2 z ?_⟩, h.2.1, h.2.2⟩
  · revert z; decide
  · revert z; decide
/-- the parts of a voice ahead of its packets -/
theorem vcopy1 (hd : d + 12 ≤ s ∨ s + 12 ≤ d) (hf : mI M (s + 3) 4 = 0 ∨ mI M (s + 3) 4 = 1) : ∃ M', f_X7_copyFrom d s M = f_X7_copyFrom_b24 d s lfuel 0 M' ∧ Cp M M' d s 12 [(9, 9), (9, 8), (9, 7), (9, 6), (9, 5), (9, 4), (9, 3), (9, 2), (9, 1), (10, 1), (10, 0), (1, 10), (7, 1), (7, 0), (1, 7), (1, 6), (1, 5), (6, 1), (6, 0), (3, 4), (3, 3), (3, 2), (1, 3), (1, 2), (1, 1), (2, 1), (2, 0)] [(8, 72), (5, 8), (4, 8)] := by
  obtain ⟨M1, e1, h1⟩ := (Cp.start (M := M) (d := d) (s := s) (n := 12)).ends hd (o := 2) (by decide)
  have h2 := h1.put hd (o := 1) (k := 1) (by decide)
  have h3 := h2.put hd (o := 1) (k := 2) (by decide)
  have h4 := h3.put hd (o := 1) (k := 3) (by decide)
  obtain ⟨M5, e5, h5⟩ := h4.packet hd (o := 3) (by decide) hf
  have h6 := h5.put hd (o := 1) (k := 5) (by decide)
  have h7 := h6.put hd (o := 1) (k := 6) (by decide)
  have h8 := h7.put hd (o := 1) (k := 7) (by decide)
  obtain ⟨M9, e9, h9⟩ := h8.ends hd (o := 7) (by decide)
  have h10 := h9.row hd (o := 8) (k := 72) (by decide)
  have h11 := h10.put hd (o := 1) (k := 10) (by decide)
  obtain ⟨M12, e12, h12⟩ := h11.ends hd (o := 10) (by decide)
  have g1 := h12.put hd (o := 9) (k := 1) (by decide)
  have g2 := g1.put hd (o := 9) (k := 2) (by decide)
  have g3 := g2.put hd (o := 9) (k := 3) (by decide)
  have g4 := g3.put hd (o := 9) (k := 4) (by decide)
  have g5 := g4.put hd (o := 9) (k := 5) (by decide)
  have g6 := g5.put hd (o := 9) (k := 6) (by decide)
  have g7 := g6.put hd (o := 9) (k := 7) (by decide)
  have g8 := g7.put hd (o := 9) (k := 8) (by decide)
  have g9 := g8.put hd (o := 9) (k := 9) (by decide)
  refine ⟨_, ?_, g9⟩
  unfold f_X7_copyFrom f_X3_copyFrom f_X1_copyFrom
  have e1' : f_X0_copyFrom (d + 1 + 1) (s + 1 + 1) M = some M1 := e1
  rw [e1', vb_s, nb_s, nb_s, nb_s]
  have e5' : f_X2_copyFrom (d + 1 + 2) (s + 1 + 2) _ = some M5 := e5
  rw [e5', vb_s, nb_s, nb_s, nb_s]
  have e9' : f_X0_copyFrom (d + 1 + 6) (s + 1 + 6) _ = some M9 := e9
  rw [e9', vb_s]
  simp only [n72, n00]
  rw [gd_s (by decide), nb_s, nb_s, vb_s]
  have e12' : f_X0_copyFrom (d + 9 + 1) (s + 9 + 1) _ = some M12 := e12
  rw [e12', vb_s, nb_s, nb_s, nb_s, nb_s, nb_s, nb_s, nb_s, nb_s, nb_s, vb_s]
theorem wcopy_go (hd : d + 44 ≤ s ∨ s + 44 ≤ d) (hWd : WR M d) (hWs : WR M s) (Sv Tv : List (Nat × Nat)) : ∀ (dd j n : Nat) (M1 : Mem), j + dd = 8 → dd < n → M1.2 = M.2 → (∀ i, i < j → PkEq M1 (mR M (d + 11) i) M (mR M (s + 11) i)) → (∀ b, b < d ∨ d + 44 ≤ b → mI M1 b = mI M b) → ∃ M2, f_X7_copyFrom_b24 d s n (nI j) M1 = f_X7_copyFrom_b63 d s M2 ∧ M2.2 = M.2 ∧ (∀ i, i < 8 → PkEq M2 (mR M (d + 11) i) M (mR M (s + 11) i)) ∧ (∀ b, b < d ∨ d + 44 ≤ b → mI M2 b = mI M b) ∧ ∀ b, d ≤ b → b < d + 12 → mI M2 b = mI M1 b := by
  intro dd
  induction dd with
  | zero =>
    intro j n M1 hj hn h2 hp hb
    obtain ⟨n, rfl⟩ : ∃ k, n = k + 1 := ⟨n - 1, by omega⟩
    have hj : j = 8 := by omega
    subst hj
    refine ⟨M1, ?_, h2, hp, hb, fun _ _ _ => rfl⟩
    rw [f_X7_copyFrom_b24, if_pos (show (8 : Int32) ≤ nI 8 by decide)]
  | succ dd ih =>
    intro j n M1 hj hn h2 hp hb
    obtain ⟨n, rfl⟩ : ∃ k, n = k + 1 := ⟨n - 1, by omega⟩
    obtain ⟨t, ht, et⟩ := hWd.1 j (by omega)
    obtain ⟨u, hu, eu⟩ := hWs.1 j (by omega)
    have hR : ∀ c i, mR M1 c i = mR M c i := fun c i => by show M1.2.1 c i = M.2.1 c i; rw [h2]
    have hfl := hWs.2.2.1 j (by omega)
    have hs : ∀ o, o < 4 → mI M1 (mR M (s + 11) j + o) = mI M (mR M (s + 11) j + o) := fun o ho => hb _ (by omega)
    obtain ⟨M3, e3, hk, hf3, h23⟩ := pcopy (M := M1) (d := mR M (d + 11) j) (s := mR M (s + 11) j) (by omega) (by rw [hb _ (by omega)]; exact hfl)
    obtain ⟨M2, e2, g1, g2, g3, g4⟩ := ih (j + 1) n M3 (by omega) (by omega) (h23.trans h2) (fun i hi => by
      by_cases hij : i = j
      · subst hij
        exact ⟨fun z hz => (hk.1 z hz).trans (congrFun (hs z.1 (pkS_lt z hz)) z.2), fun z hz k hkk => (hk.2 z hz k hkk).trans (congrFun (hs z.1 (pkT_lt z hz)) k)⟩
      · obtain ⟨t2, ht2, et2⟩ := hWd.1 i (by omega)
        have hne : t2 ≠ t := fun q => hij (hWd.2.1 i j (by omega) (by omega) (by rw [et, et2, q]))
        have hold := hp i (by omega)
        have hx : ∀ o, o < 4 → mI M3 (mR M (d + 11) i + o) = mI M1 (mR M (d + 11) i + o) := fun o ho => hf3 _ (by omega)
        exact ⟨fun z hz => (congrFun (hx z.1 (pkS_lt z hz)) z.2).trans (hold.1 z hz), fun z hz k hkk => (congrFun (hx z.1 (pkT_lt z hz)) k).trans (hold.2 z hz k hkk)⟩) (fun b hbb => by rw [hf3 b (by omega)]; exact hb b hbb)
    refine ⟨M2, ?_, g1, g2, g3, fun b h1 h3 => by rw [g4 b h1 h3]; exact hf3 b (by omega)⟩
    rw [f_X7_copyFrom_b24, if_neg (show ¬ (8 : Int32) ≤ nI j from nI_ge (b := 8) (by omega) (by decide)), if_neg (show ¬ (8 : Int32) ≤ nI j from nI_ge (b := 8) (by omega) (by decide)), gd_s (nI_ix (by omega) (by decide)), nb_s, gd_s (nI_ix (by omega) (by decide)), nb_s, nI_clamp (by omega), hR, hR, e3, vb_s, nb_s, ← nI_succ]
    exact e2
theorem vcopy (hd : d + 44 ≤ s ∨ s + 44 ≤ d) (hWd : WR M d) (hWs : WR M s) : ∃ M', f_X7_copyFrom d s M = some M' ∧ VoEq M' d M s ∧ (∀ b, b < d ∨ d + 44 ≤ b → mI M' b = mI M b) ∧ M'.2 = M.2 := by
  obtain ⟨M1, e1, h1⟩ := vcopy1 (M := M) (d := d) (s := s) (by omega) hWs.2.2.2
  have hR1 : ∀ c i, mR M1 c i = mR M c i := fun c i => by show M1.2.1 c i = M.2.1 c i; rw [h1.2.2]
  obtain ⟨M2, e2, g1, g2, g3, g4⟩ := wcopy_go hd hWd hWs [] [] 8 0 lfuel M1 rfl (by decide) h1.2.2 (fun i hi => by omega) (fun b hb => h1.2.1 b (by omega))
  refine ⟨_, e1.trans (e2.trans rfl), ⟨⟨fun z hz => ?_, fun z hz k hk => ?_⟩, fun j hj => ?_⟩, fun b hb => ?_, g1⟩
  · have hs3 : mI (sI M2 d 3 (mI M2 s 3)) s = mI M s := by rw [mI_sn (by omega), g3 s (by omega)]
    have hz1 : z.1 < 12 := voS_lt z hz
    rw [mI_sI, hs3]
    split
    · rename_i q
      rw [q.2, show z.1 = 0 by omega]
      rfl
    · rename_i q
      rw [mI_sI, g3 s (by omega)]
      split
      · rename_i q
        rw [q.2, show z.1 = 0 by omega]
        rfl
      · rename_i q2
        rw [g4 _ (by omega) (by omega)]
        refine h1.1.1 z (voS_in z hz ?_ ?_)
        · exact fun y => q ⟨by omega, y.2⟩
        · exact fun y => q2 ⟨by omega, y.2⟩
  · have hz1 : z.1 ≠ 0 ∧ z.1 < 12 := voT_lt z hz
    rw [mI_sn (by omega), mI_sn (by omega), g4 _ (by omega) (by omega)]
    exact h1.1.2 z (voT_in z hz) k hk
  · have hp := g2 j hj
    obtain ⟨t, ht, et⟩ := hWd.1 j hj
    have hx : mR (sI (sI M2 d 3 (mI M2 s 3)) d 4 (mI (sI M2 d 3 (mI M2 s 3)) s 4)) (d + 11) j = mR M (d + 11) j := by
      show M2.2.1 (d + 11) j = M.2.1 (d + 11) j
      rw [g1]
    rw [hx]
    refine ⟨fun z hz => ?_, fun z hz k hk => ?_⟩
    · rw [mI_sn (by omega), mI_sn (by omega)]; exact hp.1 z hz
    · rw [mI_sn (by omega), mI_sn (by omega)]; exact hp.2 z hz k hk
  · rw [mI_sn (by omega), mI_sn (by omega), g3 b hb]
theorem WR.of {a' : Nat} (h : WR M a) (h2 : M'.2 = M.2) (hV : VoEq M' a' M a) (ha : WR M a') : WR M' a' := by
  have hR : ∀ c i, mR M' c i = mR M c i := fun c i => by show M'.2.1 c i = M.2.1 c i; rw [h2]
  refine ⟨fun j hj => by rw [hR]; exact ha.1 j hj, fun i j hi hj => by rw [hR, hR]; exact ha.2.1 i j hi hj, fun j hj => ?_, ?_⟩
  · have h4 := (hV.2 j hj).1 (0, 4) (by decide)
    have h4 : mI M' (mR M' (a' + 11) j) 4 = mI M (mR M (a + 11) j) 4 := h4
    rw [h4]
    exact h.2.2.1 j hj
  · have h4 : mI M' (a' + 3) 4 = mI M (a + 3) 4 := hV.1.1 (3, 4) (by decide)
    rw [h4]
    exact h.2.2.2
/-- nothing changes in a voice -/
theorem VoEq.same (hb : ∀ b, a ≤ b → b < a + 44 → mI M' b = mI M b) (hr : mR M' (a + 11) = mR M (a + 11)) (hW : ∀ j, j < 8 → ∃ t, t < 8 ∧ mR M (a + 11) j = a + 12 + 4 * t) : VoEq M' a M a := by
  refine ⟨⟨fun z hz => ?_, fun z hz k hk => ?_⟩, fun j hj => ?_⟩
  · have hz1 := voS_lt z hz
    rw [hb _ (by omega) (by omega)]
  · have hz1 := voT_lt z hz
    rw [hb _ (by omega) (by omega)]
  · rw [hr]
    obtain ⟨t, ht, et⟩ := hW j hj
    refine ⟨fun z hz => ?_, fun z hz k hk => ?_⟩
    · have hz1 := pkS_lt z hz
      rw [hb _ (by omega) (by omega)]
    · have hz1 := pkT_lt z hz
      rw [hb _ (by omega) (by omega)]
theorem WR.same (h : WR M a) (hb : ∀ b, a ≤ b → b < a + 44 → mI M' b = mI M b) (hr : mR M' (a + 11) = mR M (a + 11)) : WR M' a := by
  refine ⟨fun j hj => by rw [hr]; exact h.1 j hj, fun i j hi hj => by rw [hr]; exact h.2.1 i j hi hj, fun j hj => ?_, ?_⟩
  · rw [hr]
    obtain ⟨t, ht, et⟩ := h.1 j hj
    rw [hb _ (by omega) (by omega)]
    exact h.2.2.1 j hj
  · rw [hb _ (by omega) (by omega)]
    exact h.2.2.2
/-- copies of states -/
def WS (M : Mem) (s : Nat) : Prop := ∀ v, v < 3 → WR M (s + 4 + 44 * v)
theorem set_go (hd : d + 136 ≤ s ∨ s + 136 ≤ d) : ∀ (dd j n : Nat) (M1 : Mem), j + dd = 4 → dd < n → ∃ M2, f_X4_copyFrom_b2 (d + 2) (s + 2) n (nI j) M1 = some M2 ∧ M2.2 = M1.2 ∧ (∀ b, b ≠ d + 3 → mI M2 b = mI M1 b) ∧ (∀ i, i < j → mI M2 (d + 3) i = mI M1 (d + 3) i) ∧ ∀ i, j ≤ i → i < 4 → mI M2 (d + 3) i = mI M1 (s + 3) i := by
  intro dd
  induction dd with
  | zero =>
    intro j n M1 hj hn
    obtain ⟨n, rfl⟩ : ∃ k, n = k + 1 := ⟨n - 1, by omega⟩
    have hj : j = 4 := by omega
    subst hj
    refine ⟨M1, ?_, rfl, fun _ _ => rfl, fun _ _ => rfl, fun i h1 h2 => by omega⟩
    rw [f_X4_copyFrom_b2, if_pos (show (4 : Int32) ≤ nI 4 by decide)]
  | succ dd ih =>
    intro j n M1 hj hn
    obtain ⟨n, rfl⟩ : ∃ k, n = k + 1 := ⟨n - 1, by omega⟩
    obtain ⟨M2, e, h2, hb, hl, hh⟩ := ih (j + 1) n (sI M1 (d + 3) j (mI M1 (s + 3) j)) (by omega) (by omega)
    refine ⟨M2, ?_, h2, fun b hbb => by rw [hb b hbb, mI_sn hbb], fun i hi => ?_, fun i h1 h3 => ?_⟩
    · rw [f_X4_copyFrom_b2, if_neg (show ¬ (4 : Int32) ≤ nI j from nI_ge (b := 4) (by omega) (by decide)), if_neg (show ¬ (4 : Int32) ≤ nI j from nI_ge (b := 4) (by omega) (by decide)), gd_s (nI_ix (by omega) (by decide)), gd_s (nI_ix (by omega) (by decide)), nb_s, nb_s, nI_clamp (by omega), ← nI_succ]
      exact e
    · rw [hl i (by omega), mI_up, upd_ne (by omega)]
    · by_cases hij : i = j
      · subst hij
        rw [hl i (by omega), mI_up, upd_eq]
      · rw [hh i (by omega) h3, mI_sn (by omega)]
theorem scopy_go (hd : d + 136 ≤ s ∨ s + 136 ≤ d) (hWd : WS M d) (hWs : WS M s) : ∀ (dd j n : Nat) (M1 : Mem), j + dd = 3 → dd < n → M1.2 = M.2 → (∀ v, v < j → VoEq M1 (d + 4 + 44 * v) M (s + 4 + 44 * v)) → (∀ b, b < d + 4 ∨ d + 4 + 44 * j ≤ b → mI M1 b = mI M b) → ∃ M2, f_X5_copyFrom_b2 d s n (nI j) M1 = some M2 ∧ M2.2 = M.2 ∧ StEq M2 d M s ∧ ∀ b, b < d ∨ d + 136 ≤ b → mI M2 b = mI M b := by
  intro dd
  induction dd with
  | zero =>
    intro j n M1 hj hn h2 hv hb
    obtain ⟨n, rfl⟩ : ∃ k, n = k + 1 := ⟨n - 1, by omega⟩
    have hj : j = 3 := by omega
    subst hj
    obtain ⟨M2, e, g2, gb, -, gh⟩ := set_go (d := d) (s := s) hd 4 0 lfuel M1 rfl (by decide)
    have hR : ∀ c, mR M2 c = mR M1 c := fun c => by show M2.2.1 c = M1.2.1 c; rw [g2]
    have hR1 : ∀ c, mR M1 c = mR M c := fun c => by show M1.2.1 c = M.2.1 c; rw [h2]
    refine ⟨M2, ?_, g2.trans h2, ⟨fun v hv3 => ?_, fun i hi => by rw [gh i (by omega) hi, hb _ (by omega)]⟩, fun b hbb => by rw [gb b (by omega), hb b (by omega)]⟩
    · rw [f_X5_copyFrom_b2, if_pos (show (3 : Int32) ≤ nI 3 by decide)]
      unfold f_X5_copyFrom_b41 f_X4_copyFrom
      have e' : f_X4_copyFrom_b2 (d + 2) (s + 2) lfuel 0 M1 = some M2 := e
      rw [e', vb_s]
    · have h1 := hv v hv3
      have h3 : VoEq M2 (d + 4 + 44 * v) M1 (d + 4 + 44 * v) := VoEq.same (fun b hb1 hb2 => gb b (by omega)) (hR _) (fun j hj => by rw [hR1]; exact (hWd v hv3).1 j hj)
      exact ⟨⟨fun z hz => (h3.1.1 z hz).trans (h1.1.1 z hz), fun z hz k hk => (h3.1.2 z hz k hk).trans (h1.1.2 z hz k hk)⟩, fun j hj => ⟨fun z hz => ((h3.2 j hj).1 z hz).trans ((h1.2 j hj).1 z hz), fun z hz k hk => ((h3.2 j hj).2 z hz k hk).trans ((h1.2 j hj).2 z hz k hk)⟩⟩
  | succ dd ih =>
    intro j n M1 hj hn h2 hv hb
    obtain ⟨n, rfl⟩ : ∃ k, n = k + 1 := ⟨n - 1, by omega⟩
    have hR1 : ∀ c, mR M1 c = mR M c := fun c => by show M1.2.1 c = M.2.1 c; rw [h2]
    have hj3 : j < 3 := by omega
    obtain ⟨M3, e3, hk, hf3, h23⟩ := vcopy (M := M1) (d := d + 4 + 44 * j) (s := s + 4 + 44 * j) (by omega) ((hWd j hj3).same (fun b h3 h4 => hb b (by omega)) (hR1 _)) ((hWs j hj3).same (fun b h3 h4 => hb b (by omega)) (hR1 _))
    have hR3 : ∀ c, mR M3 c = mR M1 c := fun c => by show M3.2.1 c = M1.2.1 c; rw [h23]
    obtain ⟨M2, e2, g1, g2, g3⟩ := ih (j + 1) n M3 (by omega) (by omega) (h23.trans h2) (fun v hvj => by
      by_cases hvv : v = j
      · subst hvv
        have h3 : VoEq M1 (s + 4 + 44 * v) M (s + 4 + 44 * v) := VoEq.same (fun b hb1 hb2 => hb b (by omega)) (hR1 _) (hWs v hj3).1
        exact ⟨⟨fun z hz => (hk.1.1 z hz).trans (h3.1.1 z hz), fun z hz k hkk => (hk.1.2 z hz k hkk).trans (h3.1.2 z hz k hkk)⟩, fun j hj => ⟨fun z hz => ((hk.2 j hj).1 z hz).trans ((h3.2 j hj).1 z hz), fun z hz k hkk => ((hk.2 j hj).2 z hz k hkk).trans ((h3.2 j hj).2 z hz k hkk)⟩⟩
      · have h1 := hv v (by omega)
        have h3 : VoEq M3 (d + 4 + 44 * v) M1 (d + 4 + 44 * v) := VoEq.same (fun b hb1 hb2 => hf3 b (by omega)) (hR3 _) (fun j hj => by rw [hR1]; exact (hWd v (by omega)).1 j hj)
        exact ⟨⟨fun z hz => (h3.1.1 z hz).trans (h1.1.1 z hz), fun z hz k hkk => (h3.1.2 z hz k hkk).trans (h1.1.2 z hz k hkk)⟩, fun j hj => ⟨fun z hz => ((h3.2 j hj).1 z hz).trans ((h1.2 j hj).1 z hz), fun z hz k hkk => ((h3.2 j hj).2 z hz k hkk).trans ((h1.2 j hj).2 z hz k hkk)⟩⟩) (fun b hbb => by rw [hf3 b (by omega), hb b (by omega)])
    refine ⟨M2, ?_, g1, g2, g3⟩
    rw [f_X5_copyFrom_b2, if_neg (show ¬ (3 : Int32) ≤ nI j from nI_ge (b := 3) hj3 (by decide)), if_neg (show ¬ (3 : Int32) ≤ nI j from nI_ge (b := 3) hj3 (by decide)), gd_s (nI_ix hj3 (by decide)), nb_s, gd_s (nI_ix hj3 (by decide)), nb_s, nI_clamp (by omega), show d + 1 + 3 = d + 4 from rfl, show s + 1 + 3 = s + 4 from rfl, e3, vb_s, nb_s, ← nI_succ]
    exact e2
theorem scopy (hd : d + 136 ≤ s ∨ s + 136 ≤ d) (hWd : WS M d) (hWs : WS M s) : ∃ M', f_X5_copyFrom d s M = some M' ∧ StEq M' d M s ∧ (∀ b, b < d ∨ d + 136 ≤ b → mI M' b = mI M b) ∧ M'.2 = M.2 := by
  obtain ⟨M2, e2, g1, g2, g3⟩ := scopy_go hd hWd hWs 3 0 lfuel M rfl (by decide) rfl (fun v hv => by omega) (fun _ _ => rfl)
  exact ⟨M2, e2, g2, g3, g1⟩
end CCOPY
