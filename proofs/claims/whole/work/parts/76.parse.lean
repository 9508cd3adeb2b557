/-! TEXTS. The reference reads a text; it stops where the machine stops -/
def MT (mo l : Nat) (ch : Nat → Nat) (N : Mem) (i d : Nat) (D : Nat → Nat × Nat × Int32) : Prop := mI N mo 9 = nI l ∧ mI N mo 10 = nI i ∧ mI N mo 11 = nI d ∧ (∀ j, j < l → mI N (mo + 6) j = nI (ch j)) ∧ ∀ j, j < d → mI N (mo + 7) j = nI (D j).1 ∧ mI N (mo + 8) j = nI (D j).2.1 ∧ mI N (mo + 9) j = (D j).2.2
def FrT (mo : Nat) (N N' : Mem) : Prop := (∀ b k, ¬ (b = mo ∧ (k = 10 ∨ k = 11)) → b ≠ mo + 7 → b ≠ mo + 8 → b ≠ mo + 9 → mI N' b k = mI N b k) ∧ N'.2 = N.2
/-- digits as a number, onto v -/
def vdf (ch : Nat → Nat) : Nat → Nat → Nat → Nat
  | 0, _, v => v
  | n + 1, i, v => vdf ch n (i + 1) (10 * v + (ch i - 48))
/-- a sample stands from p to e -/
def SM (ch : Nat → Nat) (p e : Nat) (y : Int32) : Prop := ∃ (g v : Nat), (g = 1 ∧ ch p = 45 ∨ g = 0 ∧ ch p ≠ 45) ∧ p + g < e ∧ (∀ j, p + g ≤ j → j < e → 48 ≤ ch j ∧ ch j ≤ 57) ∧ v = vdf ch (e - (p + g)) (p + g) 0 ∧ v ≤ 2000 ∧ y = if g = 1 then -(nI v) else nI v
def acc (st : Nat) : Prop := st = 4 ∨ st = 5 ∨ st = 7
section PARSE
variable {N N1 N' : Mem} {mo l i d e n k a b st nu : Nat} {ch : Nat → Nat} {D : Nat → Nat × Nat × Int32} {lo hi x y z : Int32}
theorem FrT.rf : FrT mo N N := ⟨fun _ _ _ _ _ _ => rfl, rfl⟩
theorem FrT.trans (h : FrT mo N N1) (h2 : FrT mo N1 N') : FrT mo N N' := ⟨fun b k h3 h4 h5 h6 => (h2.1 b k h3 h4 h5 h6).trans (h.1 b k h3 h4 h5 h6), h2.2.trans h.2⟩
theorem MT.spot (h : MT mo l ch N i d D) : MT mo l ch (sI N mo 10 (nI k)) k d D ∧ FrT mo N (sI N mo 10 (nI k)) := by
  obtain ⟨h1, h2, h3, h4, h5⟩ := h
  refine ⟨⟨by rw [mI_sk (by decide)]; exact h1, mI_ss, by rw [mI_sk (by decide)]; exact h3, fun j hj => by rw [mI_sn (by omega)]; exact h4 j hj, fun j hj => by rw [mI_sn (by omega), mI_sn (by omega), mI_sn (by omega)]; exact h5 j hj⟩, fun b k' z1 _ _ _ => ?_, rfl⟩
  rw [mI_sI, if_neg (fun z => z1 ⟨z.1, Or.inl z.2⟩)]
theorem isAt_m (h : MT mo l ch N i d D) (hl : l ≤ 60) (hc : ∀ j, j < l → 33 ≤ ch j ∧ ch j ≤ 126) (hil : i ≤ l) (h1 : lo = nI a) (h2 : hi = nI b) (ha : a < 1000) (hb : b < 1000) : f_X9_isAt mo lo hi N = some (if i < l ∧ a ≤ ch i ∧ ch i ≤ b then 1 else 0) := by
  unfold f_X9_isAt
  rw [h.1, h.2.1]
  by_cases hi2 : i < l
  · have := hc i hi2
    rw [if_neg (nI_ge hi2 (by omega)), gd_s (nI_ix (by omega) (by decide)), nI_clamp (by omega), h.2.2.2.1 i hi2, in_m, vb_s, h1, h2]
    by_cases h3 : ch i < a
    · rw [if_pos ((nI_ltI (by omega) (by omega)).mpr h3), if_pos rfl, if_neg (by omega)]
    · rw [if_neg (fun z => h3 ((nI_ltI (by omega) (by omega)).mp z))]
      by_cases h4 : b < ch i
      · rw [if_pos ((nI_ltI (by omega) (by omega)).mpr h4), if_pos rfl, if_neg (by omega)]
      · rw [if_neg (fun z => h4 ((nI_ltI (by omega) (by omega)).mp z)), if_neg (by decide), if_pos (by omega)]
  · rw [if_pos (nI_le (by omega) (by omega)), if_neg (by omega)]
theorem takes_y (h : MT mo l ch N i d D) (hl : l ≤ 60) (hc : ∀ j, j < l → 33 ≤ ch j ∧ ch j ≤ 126) (h1 : lo = nI a) (h2 : hi = nI b) (ha : a < 1000) (hb : b < 1000) (hy : i < l ∧ a ≤ ch i ∧ ch i ≤ b) : ∃ N', f_X9_takes mo lo hi N = some (1, N') ∧ MT mo l ch N' (i + 1) d D ∧ FrT mo N N' := by
  obtain ⟨g1, g2⟩ := h.spot (k := i + 1)
  refine ⟨_, ?_, g1, g2⟩
  unfold f_X9_takes f_X9_takes_b21
  rw [isAt_m h hl hc (by omega) h1 h2 ha hb, if_pos hy, vb_s, if_neg (by decide), nb_s, gd_s (Or.inr rfl), h.2.1, nI_succ]
theorem takes_n (h : MT mo l ch N i d D) (hl : l ≤ 60) (hc : ∀ j, j < l → 33 ≤ ch j ∧ ch j ≤ 126) (hil : i ≤ l) (h1 : lo = nI a) (h2 : hi = nI b) (ha : a < 1000) (hb : b < 1000) (hy : ¬ (i < l ∧ a ≤ ch i ∧ ch i ≤ b)) : ∃ N', f_X9_takes mo lo hi N = some (0, N') ∧ MT mo l ch N' i d D ∧ FrT mo N N' := by
  obtain ⟨g1, g2⟩ := h.spot (k := i)
  refine ⟨_, ?_, g1, g2⟩
  unfold f_X9_takes f_X9_takes_b21
  rw [isAt_m h hl hc hil h1 h2 ha hb, if_neg hy, vb_s, if_pos rfl, nb_s, gd_s (Or.inl rfl), h.2.1, Int32.add_zero]
def updD (D : Nat → Nat × Nat × Int32) (d : Nat) (q : Nat × Nat × Int32) : Nat → Nat × Nat × Int32 := fun j => if j = d then q else D j
theorem add_m {kk vv : Nat} (h : MT mo l ch N i d D) (hd : d < 32) (hx : x = nI kk) (hy : y = nI vv) : ∃ N', f_X9_addDeed mo x y z N = some N' ∧ MT mo l ch N' i (d + 1) (updD D d (kk, vv, z)) ∧ FrT mo N N' := by
  obtain ⟨h1, h2, h3, h4, h5⟩ := h
  subst hx hy
  refine ⟨sI (sI (sI (sI N (mo + 7) d (nI kk)) (mo + 8) d (nI vv)) (mo + 9) d z) mo 11 (nI (d + 1)), ?_, ⟨?_, ?_, mI_ss, fun j hj => ?_, fun j hj => ?_⟩, fun b k z1 z2 z3 z4 => ?_, rfl⟩
  · have e1 : mI (sI N (mo + 7) d (nI kk)) mo 11 = nI d := by rw [mI_sn (by omega)]; exact h3
    have e2 : mI (sI (sI N (mo + 7) d (nI kk)) (mo + 8) d (nI vv)) mo 11 = nI d := by rw [mI_sn (by omega)]; exact e1
    have e3 : mI (sI (sI (sI N (mo + 7) d (nI kk)) (mo + 8) d (nI vv)) (mo + 9) d z) mo 11 = nI d := by rw [mI_sn (by omega)]; exact e2
    unfold f_X9_addDeed
    rw [h3, gd_s (nI_ix hd (by decide)), nb_s, nI_clamp (by omega), e1, gd_s (nI_ix hd (by decide)), nb_s, nI_clamp (by omega), e2, gd_s (nI_ix hd (by decide)), nb_s, nI_clamp (by omega), e3, nb_s, nI_succ]
  · rw [mI_sk (by decide), mI_sn (by omega), mI_sn (by omega), mI_sn (by omega)]; exact h1
  · rw [mI_sk (by decide), mI_sn (by omega), mI_sn (by omega), mI_sn (by omega)]; exact h2
  · rw [mI_sn (by omega), mI_sn (by omega), mI_sn (by omega), mI_sn (by omega)]; exact h4 j hj
  · have e7 : mI (sI (sI (sI (sI N (mo + 7) d (nI kk)) (mo + 8) d (nI vv)) (mo + 9) d z) mo 11 (nI (d + 1))) (mo + 7) = upd (mI N (mo + 7)) d (nI kk) := by rw [mI_sn (by omega), mI_sn (by omega), mI_sn (by omega), mI_up]
    have e8 : mI (sI (sI (sI (sI N (mo + 7) d (nI kk)) (mo + 8) d (nI vv)) (mo + 9) d z) mo 11 (nI (d + 1))) (mo + 8) = upd (mI N (mo + 8)) d (nI vv) := by rw [mI_sn (by omega), mI_sn (by omega), mI_up, mI_sn (by omega)]
    have e9 : mI (sI (sI (sI (sI N (mo + 7) d (nI kk)) (mo + 8) d (nI vv)) (mo + 9) d z) mo 11 (nI (d + 1))) (mo + 9) = upd (mI N (mo + 9)) d z := by rw [mI_sn (by omega), mI_up, mI_sn (by omega), mI_sn (by omega)]
    rw [e7, e8, e9]
    unfold updD upd
    by_cases hjd : j = d
    · simp only [if_pos hjd, and_self]
    · simp only [if_neg hjd]; exact h5 j (by omega)
  · rw [mI_sI, if_neg (fun z => z1 ⟨z.1, Or.inr z.2⟩), mI_sn z4, mI_sn z3, mI_sn z2]
theorem dfa_end : dfa ch (l - l) l st nu = (l, st) := by rw [Nat.sub_self]; rfl
theorem dfa_bad (hi : i < l) (h : dl st (ch i) (nuN (ch i) nu) = 8) : dfa ch (l - i) i st nu = (i, 8) := by
  obtain ⟨f, hf⟩ : ∃ f, l - i = f + 1 := ⟨l - i - 1, by omega⟩
  rw [hf]
  unfold dfa
  rw [if_pos h]
theorem dfa_step (hi : i < l) (h : dl st (ch i) (nuN (ch i) nu) ≠ 8) : dfa ch (l - i) i st nu = dfa ch (l - (i + 1)) (i + 1) (dl st (ch i) (nuN (ch i) nu)) (nuN (ch i) nu) := by
  obtain ⟨f, hf⟩ : ∃ f, l - i = f + 1 := ⟨l - i - 1, by omega⟩
  have hf2 : l - (i + 1) = f := by omega
  rw [hf, hf2, dfa, if_neg h]
/-- digits of a sample -/
theorem digs_m {v : Nat} {x2 : Int32} (hl : l ≤ 60) (hc : ∀ j, j < l → 33 ≤ ch j ∧ ch j ≤ 126) : ∀ (f i val n : Nat) (N : Mem), i + f = l → f < n → val ≤ 2000 → MT mo l ch N i d D → ∃ e val' N', f_X9_readSample_b54 mo (nI v) n x2 (nI val) N = f_X9_readSample_b123 mo (nI v) x2 (nI val') N' ∧ i ≤ e ∧ e ≤ l ∧ MT mo l ch N' e d D ∧ FrT mo N N' ∧ (∀ j, i ≤ j → j < e → 48 ≤ ch j ∧ ch j ≤ 57) ∧ val' = vdf ch (e - i) i val ∧ val' ≤ 2000 ∧ dfa ch (l - i) i (if val = 0 then 4 else 5) val = dfa ch (l - e) e (if val' = 0 then 4 else 5) val' ∧ (e < l → 48 ≤ ch e ∧ ch e ≤ 57 → dl (if val' = 0 then 4 else 5) (ch e) (nuN (ch e) val') = 8) := by
  intro f
  induction f with
  | zero =>
    intro i val n N hi hn hv hT
    obtain ⟨n, rfl⟩ : ∃ k, n = k + 1 := ⟨n - 1, by omega⟩
    have hi : i = l := by omega
    subst hi
    refine ⟨i, val, N, ?_, Nat.le_refl _, Nat.le_refl _, hT, FrT.rf, fun j h1 h2 => by omega, by rw [Nat.sub_self]; rfl, hv, rfl, fun h => by omega⟩
    rw [f_X9_readSample_b54, isAt_m hT hl hc (Nat.le_refl _) (lo := 48) (hi := 57) (a := 48) (b := 57) rfl rfl (by decide) (by decide), if_neg (show ¬ (i < i ∧ 48 ≤ ch i ∧ ch i ≤ 57) by omega), vb_s]
    split <;> rfl
  | succ f ih =>
    intro i val n N hi hn hv hT
    obtain ⟨n, rfl⟩ : ∃ k, n = k + 1 := ⟨n - 1, by omega⟩
    have hil : i < l := by omega
    have hci := hc i hil
    by_cases h0 : val = 0
    · subst h0
      refine ⟨i, 0, N, ?_, Nat.le_refl _, by omega, hT, FrT.rf, fun j h1 h2 => by omega, by rw [Nat.sub_self]; rfl, by omega, rfl, fun _ hd => ?_⟩
      · rw [f_X9_readSample_b54, if_pos (by decide)]
      · rw [if_pos rfl, dl_4, if_neg (by omega), if_neg (by omega)]
    · by_cases hd : 48 ≤ ch i ∧ ch i ≤ 57
      · have en : nuN (ch i) val = 10 * val + (ch i - 48) := if_pos hd
        have ev : (((10 : Int32) * nI val) + (mI N (mo + 6) (mI N mo 10).toNatClampNeg)) - 48 = nI (10 * val + (ch i - 48)) := by
          have e1 : ((10 : Int32) * nI val) + nI (ch i) = nI (10 * val + (ch i - 48)) + 48 := by
            rw [show (10 : Int32) = nI 10 from rfl, zM, zA, show (48 : Int32) = nI 48 from rfl, zA]
            congr 1
            omega
          rw [hT.2.1, nI_clamp (by omega), hT.2.2.2.1 i hil, e1, Int32.add_sub_cancel]
        have st1 : f_X9_readSample_b54 mo (nI v) (n + 1) x2 (nI val) N = if (2000 : Int32) < nI (10 * val + (ch i - 48)) then f_X9_readSample_b123 mo (nI v) x2 (nI val) N else f_X9_readSample_b54 mo (nI v) n x2 (nI (10 * val + (ch i - 48))) (sI N mo 10 (nI (i + 1))) := by
          rw [f_X9_readSample_b54, if_neg (nI_nle (by omega) (by omega)), isAt_m hT hl hc (by omega) (lo := 48) (hi := 57) (a := 48) (b := 57) rfl rfl (by decide) (by decide), if_pos ⟨hil, hd.1, hd.2⟩, vb_s, if_neg (by decide), ev]
          have hix : ix (mI N mo 10) 60 := by rw [hT.2.1]; exact nI_ix (by omega) (by decide)
          rw [gd_s hix, gd_s hix, nb_s, hT.2.1, nb_s, nI_succ]
        rw [st1]
        by_cases h2 : 2000 < 10 * val + (ch i - 48)
        · rw [if_pos ((qg (c := 10 * val + (ch i - 48)) (by omega) 2000 (by decide)).mpr h2)]
          refine ⟨i, val, N, rfl, Nat.le_refl _, by omega, hT, FrT.rf, fun j h1 h2 => by omega, by rw [Nat.sub_self]; rfl, hv, rfl, fun _ _ => ?_⟩
          rw [if_neg h0, dl_5, if_pos hd, en, if_neg (by omega)]
        · rw [if_neg (fun z => h2 ((qg (c := 10 * val + (ch i - 48)) (by omega) 2000 (by decide)).mp z))]
          obtain ⟨g1, g2⟩ := hT.spot (k := i + 1)
          have hv0 : 10 * val + (ch i - 48) ≠ 0 := by omega
          obtain ⟨e, val', N', k1, k2, k3, k4, k5, k6, k7, k8, k9, k10⟩ := ih (i + 1) (10 * val + (ch i - 48)) n (sI N mo 10 (nI (i + 1))) (by omega) (by omega) (by omega) g1
          refine ⟨e, val', N', k1, by omega, k3, k4, g2.trans k5, fun j h3 h4 => ?_, ?_, k8, ?_, k10⟩
          · by_cases hj : j = i
            · subst hj; exact hd
            · exact k6 j (by omega) h4
          · rw [show e - i = (e - (i + 1)) + 1 by omega]
            exact k7
          · rw [← k9, if_neg h0, if_neg hv0, dfa_step hil (by rw [dl_5, if_pos hd, en, if_pos (by omega)]; decide), dl_5, if_pos hd, en, if_pos (by omega)]
      · refine ⟨i, val, N, ?_, Nat.le_refl _, by omega, hT, FrT.rf, fun j h1 h2 => by omega, by rw [Nat.sub_self]; rfl, hv, rfl, fun _ h => (hd h).elim⟩
        rw [f_X9_readSample_b54, if_neg (nI_nle (by omega) (by omega)), isAt_m hT hl hc (by omega) (lo := 48) (hi := 57) (a := 48) (b := 57) rfl rfl (by decide) (by decide), if_neg (fun z => hd z.2), vb_s, if_pos rfl]
/-- a sample is read, or the machine stops -/
theorem sam_m {v : Nat} (hl : l ≤ 60) (hc : ∀ j, j < l → 33 ≤ ch j ∧ ch j ≤ 126) (hT : MT mo l ch N i d D) (hil : i ≤ l) (hd32 : d < 32) : (∃ e st N', f_X9_readSample mo (nI v) N = some (0, N') ∧ mI N' mo 10 = nI e ∧ FrT mo N N' ∧ dfa ch (l - i) i 2 0 = (e, st) ∧ ¬ acc st) ∨ ∃ e st nu y N', f_X9_readSample mo (nI v) N = some (1, N') ∧ i < e ∧ e ≤ l ∧ MT mo l ch N' e (d + 1) (updD D d (115, v, y)) ∧ FrT mo N N' ∧ SM ch i e y ∧ dfa ch (l - i) i 2 0 = dfa ch (l - e) e st nu ∧ (st = 4 ∨ st = 5) ∧ (e < l → 48 ≤ ch e ∧ ch e ≤ 57 → dl st (ch e) (nuN (ch e) nu) = 8) := by
  -- behind the sign
  have rest : ∀ (x2 : Int32) (g : Nat) (N1 : Mem) (F : Int32), (x2 = 0 ∧ g = 0 ∧ F = 48 ∨ x2 = 1 ∧ g = 1 ∧ F = 49) → MT mo l ch N1 (i + g) d D → i + g ≤ l → (g = 1 → ch i = 45) → (g = 0 → i < l → ch i ≠ 45) → dfa ch (l - i) i 2 0 = dfa ch (l - (i + g)) (i + g) (2 + g) 0 → (∃ e st N', f_X9_readSample_b21 mo (nI v) x2 F mo N1 = some (0, N') ∧ mI N' mo 10 = nI e ∧ FrT mo N1 N' ∧ dfa ch (l - i) i 2 0 = (e, st) ∧ ¬ acc st) ∨ ∃ e st nu y N', f_X9_readSample_b21 mo (nI v) x2 F mo N1 = some (1, N') ∧ i < e ∧ e ≤ l ∧ MT mo l ch N' e (d + 1) (updD D d (115, v, y)) ∧ FrT mo N1 N' ∧ SM ch i e y ∧ dfa ch (l - i) i 2 0 = dfa ch (l - e) e st nu ∧ (st = 4 ∨ st = 5) ∧ (e < l → 48 ≤ ch e ∧ ch e ≤ 57 → dl st (ch e) (nuN (ch e) nu) = 8) := by
    intro x2 g N1 F hx hT1 hgl hg1 hg0 hdf
    have hF : F = nI (48 + g) := by rcases hx with ⟨-, h, h2⟩ | ⟨-, h, h2⟩ <;> rw [h, h2] <;> rfl
    have hg : g ≤ 1 := by rcases hx with ⟨-, h, -⟩ | ⟨-, h, -⟩ <;> omega
    unfold f_X9_readSample_b21
    rw [isAt_m (hi := 57) hT1 hl hc hgl hF (b := 57) rfl (by omega) (by decide), vb_s]
    by_cases hy : i + g < l ∧ 48 + g ≤ ch (i + g) ∧ ch (i + g) ≤ 57
    · right
      rw [if_pos hy, if_neg (by decide)]
      have hix : ix (mI N1 mo 10) 60 := by rw [hT1.2.1]; exact nI_ix (by omega) (by decide)
      have ev : (mI N1 (mo + 6) (mI N1 mo 10).toNatClampNeg) - 48 = nI (ch (i + g) - 48) := by
        rw [hT1.2.1, nI_clamp (by omega), hT1.2.2.2.1 _ hy.1, show ch (i + g) = (ch (i + g) - 48) + 48 by omega, ← zA, show (48 : Int32) = nI 48 from rfl, Int32.add_sub_cancel, Nat.add_sub_cancel]
      rw [gd_s hix, nb_s, ev, hT1.2.1, nb_s, ← nI_succ]
      obtain ⟨g1, g2⟩ := hT1.spot (k := i + g + 1)
      obtain ⟨e, val', N', k1, k2, k3, k4, k5, k6, k7, k8, k9, k10⟩ := digs_m (v := v) (x2 := x2) hl hc (l - (i + g + 1)) (i + g + 1) (ch (i + g) - 48) lfuel (sI N1 mo 10 (nI (i + g + 1))) (by omega) (by unfold lfuel; omega) (by omega) g1
      rw [k1]
      have en : nuN (ch (i + g)) 0 = ch (i + g) - 48 := by unfold nuN; rw [if_pos ⟨by omega, hy.2.2⟩]; omega
      have edl : dl (2 + g) (ch (i + g)) (ch (i + g) - 48) = if ch (i + g) - 48 = 0 then 4 else 5 := by
        rcases hx with ⟨-, h, -⟩ | ⟨-, h, -⟩
        · subst h
          have := hg0 rfl (by omega)
          have e45 : ch (i + 0) ≠ 45 := this
          show dl 2 _ _ = _
          rw [dl_2, if_neg e45]
          by_cases h48 : ch (i + 0) = 48
          · rw [if_pos h48, if_pos (by omega)]
          · rw [if_neg h48, if_pos (by omega), if_neg (by omega)]
        · subst h
          show dl 3 _ _ = _
          rw [dl_3, if_pos (by omega), if_neg (by omega)]
      have dstep : dfa ch (l - i) i 2 0 = dfa ch (l - e) e (if val' = 0 then 4 else 5) val' := by
        rw [hdf, dfa_step hy.1 (by rw [en, edl]; split <;> decide), en, edl]
        exact k9
      have hvd : val' = vdf ch (e - (i + g)) (i + g) 0 := by
        rw [show e - (i + g) = (e - (i + g + 1)) + 1 by omega, k7]
        show _ = vdf ch (e - (i + g + 1)) (i + g + 1) (10 * 0 + (ch (i + g) - 48))
        rw [Nat.mul_zero, Nat.zero_add]
      unfold f_X9_readSample_b123 f_X9_readSample_b137
      obtain ⟨N2, a1, a2, a3⟩ := add_m (x := 115) (y := nI v) (z := if g = 1 then -(nI val') else nI val') (kk := 115) (vv := v) k4 hd32 rfl rfl
      refine ⟨e, if val' = 0 then 4 else 5, val', if g = 1 then -(nI val') else nI val', N2, ?_, by omega, k3, a2, g2.trans (k5.trans a3), ⟨g, val', ?_, by omega, fun j h1 h2 => ?_, hvd, k8, rfl⟩, dstep, by split <;> omega, k10⟩
      · rcases hx with ⟨h1, h, -⟩ | ⟨h1, h, -⟩
        · rw [h1, if_pos rfl]
          rw [h, if_neg (by decide)] at a1
          rw [a1, vb_s]
        · rw [h1, if_neg (by decide)]
          rw [h, if_pos rfl] at a1
          rw [a1, vb_s]
      · rcases hx with ⟨-, h, -⟩ | ⟨-, h, -⟩
        · exact Or.inr ⟨h, hg0 h (by omega)⟩
        · exact Or.inl ⟨h, hg1 h⟩
      · by_cases hj : j = i + g
        · subst hj; omega
        · exact k6 j (by omega) h2
    · left
      rw [if_neg hy, if_pos rfl]
      by_cases hil2 : i + g < l
      · refine ⟨i + g, 8, N1, rfl, hT1.2.1, FrT.rf, ?_, by unfold acc; omega⟩
        have hcc := hc (i + g) hil2
        rw [hdf, dfa_bad hil2]
        rcases hx with ⟨-, h, -⟩ | ⟨-, h, -⟩
        · subst h
          have e45 : ch (i + 0) ≠ 45 := hg0 rfl (by omega)
          show dl 2 _ _ = _
          rw [dl_2, if_neg e45, if_neg (by omega), if_neg (by omega)]
        · subst h
          show dl 3 _ _ = _
          rw [dl_3, if_neg (by omega)]
      · have : i + g = l := by omega
        refine ⟨i + g, 2 + g, N1, rfl, hT1.2.1, FrT.rf, ?_, by unfold acc; omega⟩
        rw [hdf, this, dfa_end]
  unfold f_X9_readSample
  by_cases hm : i < l ∧ ch i = 45
  · obtain ⟨N1, t1, t2, t3⟩ := takes_y (lo := 45) (hi := 45) (a := 45) (b := 45) hT hl hc rfl rfl (by decide) (by decide) ⟨hm.1, by omega, by omega⟩
    rw [t1, cb_s, if_neg (by decide)]
    have en : nuN (ch i) 0 = 0 := by unfold nuN; rw [if_neg (by omega)]
    rcases rest 1 1 N1 49 (Or.inr ⟨rfl, rfl, rfl⟩) t2 (by omega) (fun _ => hm.2) (fun h => by omega) (by rw [dfa_step hm.1 (by rw [dl_2, if_pos hm.2]; decide), dl_2, if_pos hm.2, en]) with ⟨e, st, N', k1, k2, k3, k4, k5⟩ | ⟨e, st, nu, y, N', k1, k2, k3, k4, k5, k6⟩
    · exact Or.inl ⟨e, st, N', k1, k2, t3.trans k3, k4, k5⟩
    · exact Or.inr ⟨e, st, nu, y, N', k1, k2, k3, k4, t3.trans k5, k6⟩
  · obtain ⟨N1, t1, t2, t3⟩ := takes_n (lo := 45) (hi := 45) (a := 45) (b := 45) hT hl hc hil rfl rfl (by decide) (by decide) (fun z => hm ⟨z.1, by omega⟩)
    rw [t1, cb_s, if_pos rfl]
    rcases rest 0 0 N1 48 (Or.inl ⟨rfl, rfl, rfl⟩) t2 hil (fun h => by omega) (fun _ h1 h2 => hm ⟨h1, h2⟩) rfl with ⟨e, st, N', k1, k2, k3, k4, k5⟩ | ⟨e, st, nu, y, N', k1, k2, k3, k4, k5, k6⟩
    · exact Or.inl ⟨e, st, N', k1, k2, t3.trans k3, k4, k5⟩
    · exact Or.inr ⟨e, st, nu, y, N', k1, k2, k3, k4, t3.trans k5, k6⟩
end PARSE
