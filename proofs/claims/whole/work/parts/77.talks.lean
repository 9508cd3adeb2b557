/-! TEXTS. Parts and talks; the deeds that are told -/
/-- deed q stands from p to e, as number d -/
def ND (ch : Nat → Nat) (D : Nat → Nat × Nat × Int32) (d p e : Nat) (q : Nat × Nat × Int32) : Prop :=
  ((ch p = 100 ∨ ch p = 108 ∨ ch p = 120) ∧ q.1 = ch p ∧ 48 ≤ ch (p + 1) ∧ ch (p + 1) ≤ 50 ∧ q.2.1 = ch (p + 1) - 48 ∧ e = p + 2 ∧ q.2.2 = 0) ∨ (q.1 = 115 ∧ 48 ≤ ch p ∧ ch p ≤ 50 ∧ ch (p + 1) = 58 ∧ q.2.1 = ch p - 48 ∧ SM ch (p + 2) e q.2.2) ∨ ∃ j, d = j + 1 ∧ (D j).1 = 115 ∧ q.1 = 115 ∧ q.2.1 = (D j).2.1 ∧ SM ch p e q.2.2
def CH (l : Nat) (ch : Nat → Nat) (D : Nat → Nat × Nat × Int32) (P : Nat → Nat) (d : Nat) : Prop := P 0 = 0 ∧ (∀ k, k < d → 0 < P (k + 1) ∧ P (k + 1) ≤ l + 1 ∧ ND ch D k (P k) (P (k + 1) - 1) (D k) ∧ (D k).2.1 < 3) ∧ ∀ k, 0 < k → k < d → P k ≤ l ∧ (ch (P k - 1) = 44 ∨ ch (P k - 1) = 59)
/-- behind a part or a sample at e: what was read, and where the machine stands -/
def OKP (mo l : Nat) (ch : Nat → Nat) (N0 N' : Mem) (e d st nu : Nat) (D : Nat → Nat × Nat × Int32) (P : Nat → Nat) : Prop := FrT mo N0 N' ∧ e ≤ l ∧ MT mo l ch N' e d D ∧ CH l ch D P d ∧ P d = e + 1 ∧ 0 < d ∧ 2 * d ≤ e ∧ acc st ∧ (e < l → ch e ≠ 59 → dl st (ch e) (nuN (ch e) nu) = 8)
def BAD (mo : Nat) (N0 N' : Mem) (X : Nat × Nat) : Prop := FrT mo N0 N' ∧ mI N' mo 10 = nI X.1 ∧ ¬ acc X.2
section TALKS
variable {N N0 N1 N' : Mem} {mo l i d e n k a b st nu v : Nat} {ch P : Nat → Nat} {D : Nat → Nat × Nat × Int32} {q : Nat × Nat × Int32} {lo hi x y z : Int32}
theorem CH.ext (h : CH l ch D P d) (hc : 0 < d → P d ≤ l ∧ (ch (P d - 1) = 44 ∨ ch (P d - 1) = 59)) (hn : ND ch D d (P d) e q) (he : e ≤ l) (hv : q.2.1 < 3) : ∃ P', CH l ch (updD D d q) P' (d + 1) ∧ P' (d + 1) = e + 1 := by
  refine ⟨fun k => if k = d + 1 then e + 1 else P k, ⟨?_, fun k hk => ?_, fun k h0 hk => ?_⟩, if_pos rfl⟩
  · show (if 0 = d + 1 then e + 1 else P 0) = 0
    rw [if_neg (by omega)]
    exact h.1
  · show 0 < (if k + 1 = d + 1 then e + 1 else P (k + 1)) ∧ (if k + 1 = d + 1 then e + 1 else P (k + 1)) ≤ l + 1 ∧ ND ch (updD D d q) k (if k = d + 1 then e + 1 else P k) ((if k + 1 = d + 1 then e + 1 else P (k + 1)) - 1) (updD D d q k) ∧ (updD D d q k).2.1 < 3
    rw [if_neg (show ¬ k = d + 1 by omega)]
    by_cases hkd : k = d
    · subst hkd
      have eq : updD D k q k = q := if_pos rfl
      rw [if_pos rfl, eq]
      refine ⟨by omega, by omega, ?_, hv⟩
      rcases hn with h1 | h1 | ⟨j, h1, h2, h3⟩
      · exact Or.inl h1
      · exact Or.inr (Or.inl h1)
      · refine Or.inr (Or.inr ⟨j, h1, ?_⟩)
        have ej : updD D k q j = D j := if_neg (by omega)
        rw [ej]
        exact ⟨h2, h3⟩
    · have eq : updD D d q k = D k := if_neg hkd
      rw [if_neg (by omega), eq]
      obtain ⟨g1, g2, g3, g4⟩ := h.2.1 k (by omega)
      refine ⟨g1, g2, ?_, g4⟩
      rcases g3 with h1 | h1 | ⟨j, h1, h2, h3⟩
      · exact Or.inl h1
      · exact Or.inr (Or.inl h1)
      · refine Or.inr (Or.inr ⟨j, h1, ?_⟩)
        have ej : updD D d q j = D j := if_neg (by omega)
        rw [ej]
        exact ⟨h2, h3⟩
  · show (if k = d + 1 then e + 1 else P k) ≤ l ∧ (ch ((if k = d + 1 then e + 1 else P k) - 1) = 44 ∨ ch ((if k = d + 1 then e + 1 else P k) - 1) = 59)
    rw [if_neg (by omega)]
    by_cases hkd : k = d
    · subst hkd
      exact hc h0
    · exact h.2.2 k h0 (by omega)
/-- the further samples of a part -/
theorem sams_m (hl : l ≤ 60) (hc : ∀ j, j < l → 33 ≤ ch j ∧ ch j ≤ 126) (hv : v < 3) : ∀ (f e d st nu n : Nat) (D : Nat → Nat × Nat × Int32) (P : Nat → Nat) (N : Mem), e + f = l → f < n → MT mo l ch N e d D → CH l ch D P d → P d = e + 1 → 2 * d ≤ e → (∃ j, d = j + 1 ∧ (D j).1 = 115 ∧ (D j).2.1 = v) → (st = 4 ∨ st = 5) → (e < l → 48 ≤ ch e ∧ ch e ≤ 57 → dl st (ch e) (nuN (ch e) nu) = 8) → (∃ N', f_X9_readSamples_b40 mo n (nI v) 1 N = some (0, N') ∧ BAD mo N N' (dfa ch (l - e) e st nu)) ∨ ∃ e' d' st' nu' D' P' N', f_X9_readSamples_b40 mo n (nI v) 1 N = some (1, N') ∧ OKP mo l ch N N' e' d' st' nu' D' P' ∧ dfa ch (l - e) e st nu = dfa ch (l - e') e' st' nu' ∧ e ≤ e' := by
  intro f
  induction f using Nat.strongRecOn with
  | _ f ih =>
    intro e d st nu n D P N hf hn hT hC hP h2 hj hst hs
    obtain ⟨n, rfl⟩ : ∃ k, n = k + 1 := ⟨n - 1, by omega⟩
    obtain ⟨j0, hj0, hj1, hj2⟩ := hj
    rw [f_X9_readSamples_b40, if_neg (by decide)]
    by_cases hy : e < l ∧ ch e = 44
    · obtain ⟨N1, t1, t2, t3⟩ := takes_y (lo := 44) (hi := 44) (a := 44) (b := 44) hT hl hc rfl rfl (by decide) (by decide) ⟨hy.1, by omega, by omega⟩
      have en : nuN (ch e) nu = 0 := by unfold nuN; rw [if_neg (by omega)]
      have edl : dl st (ch e) 0 = 2 := by
        rcases hst with h | h
        · subst h; rw [dl_4, if_pos hy.2]
        · subst h; rw [dl_5, if_neg (by omega), if_pos hy.2]
      have ds : dfa ch (l - e) e st nu = dfa ch (l - (e + 1)) (e + 1) 2 0 := by
        rw [dfa_step hy.1 (by rw [en, edl]; decide), en, edl]
      rw [t1, cb_s, if_neg (by decide)]
      rcases sam_m (v := v) hl hc t2 (by omega) (show d < 32 by omega) with ⟨e', st', N2, k1, k2, k3, k4, k5⟩ | ⟨e', st', nu', y, N2, k1, k2, k3, k4, k5, k6, k7, k8, k9⟩
      · left
        rw [k1, cb_s]
        obtain ⟨m, hm⟩ : ∃ m, n = m + 1 := ⟨n - 1, by omega⟩
        subst hm
        refine ⟨N2, ?_, t3.trans k3, ?_, ?_⟩
        · rw [f_X9_readSamples_b40, if_pos rfl, gd_s (Or.inl rfl)]
        · rw [ds, k4]; exact k2
        · rw [ds, k4]; exact k5
      · rw [k1, cb_s]
        obtain ⟨P', c1, c2⟩ := hC.ext (e := e') (q := (115, v, y)) (fun _ => ⟨by omega, by rw [hP]; exact Or.inl hy.2⟩) (Or.inr (Or.inr ⟨j0, hj0, hj1, rfl, hj2.symm, by rw [hP]; exact k6⟩)) k3 hv
        rcases ih (l - e') (by omega) e' (d + 1) st' nu' n (updD D d (115, v, y)) P' N2 (by omega) (by omega) k4 c1 c2 (by omega) ⟨d, rfl, by unfold updD; rw [if_pos rfl], by unfold updD; rw [if_pos rfl]⟩ k8 k9 with ⟨N', a1, a2⟩ | ⟨e2, d2, s2, n2, D2, P2, N', a1, a2, a3, a4⟩
        · left
          refine ⟨N', a1, (t3.trans k5).trans a2.1, ?_, ?_⟩
          · rw [ds, k7]; exact a2.2.1
          · rw [ds, k7]; exact a2.2.2
        · right
          refine ⟨e2, d2, s2, n2, D2, P2, N', a1, ⟨(t3.trans k5).trans a2.1, a2.2⟩, by rw [ds, k7]; exact a3, by omega⟩
    · right
      obtain ⟨N1, t1, t2, t3⟩ := takes_n (lo := 44) (hi := 44) (a := 44) (b := 44) hT hl hc (by omega) rfl rfl (by decide) (by decide) (fun z => hy ⟨z.1, by omega⟩)
      rw [t1, cb_s, if_pos rfl, gd_s (Or.inr rfl)]
      refine ⟨e, d, st, nu, D, P, N1, rfl, ⟨t3, by omega, t2, hC, hP, by omega, h2, by unfold acc; omega, fun h1 h59 => ?_⟩, rfl, Nat.le_refl _⟩
      have h44 : ch e ≠ 44 := fun z => hy ⟨h1, z⟩
      by_cases hd : 48 ≤ ch e ∧ ch e ≤ 57
      · exact hs h1 hd
      · rcases hst with h | h
        · subst h; rw [dl_4, if_neg h44, if_neg h59]
        · subst h; rw [dl_5, if_neg hd, if_neg h44, if_neg h59]
theorem part_m (hl : l ≤ 60) (hc : ∀ j, j < l → 33 ≤ ch j ∧ ch j ≤ 126) (hT : MT mo l ch N i d D) (hC : CH l ch D P d) (hP : P d = i) (hil : i ≤ l) (h2 : 2 * d ≤ i) (hcon : 0 < d → ch (i - 1) = 44 ∨ ch (i - 1) = 59) : (∃ N', f_X9_readPart mo N = some (0, N') ∧ BAD mo N N' (dfa ch (l - i) i 0 0)) ∨ ∃ e' d' st' nu' D' P' N', f_X9_readPart mo N = some (1, N') ∧ OKP mo l ch N N' e' d' st' nu' D' P' ∧ dfa ch (l - i) i 0 0 = dfa ch (l - e') e' st' nu' ∧ i < e' := by
  have hcon' : 0 < d → P d ≤ l ∧ (ch (P d - 1) = 44 ∨ ch (P d - 1) = 59) := fun h => ⟨by omega, by rw [hP]; exact hcon h⟩
  unfold f_X9_readPart
  by_cases hy : i < l ∧ 48 ≤ ch i ∧ ch i ≤ 50
  · obtain ⟨N1, t1, t2, t3⟩ := takes_y (lo := 48) (hi := 50) (a := 48) (b := 50) hT hl hc rfl rfl (by decide) (by decide) hy
    have en : nuN (ch i) 0 = ch i - 48 := by unfold nuN; rw [if_pos (by omega)]; omega
    have edl : dl 0 (ch i) (ch i - 48) = 1 := by rw [dl_0, if_pos hy.2]
    have ds : dfa ch (l - i) i 0 0 = dfa ch (l - (i + 1)) (i + 1) 1 (ch i - 48) := by
      rw [dfa_step hy.1 (by rw [en, edl]; decide), en, edl]
    have eb : (mI N1 mo 10) - 1 = nI i := by rw [t2.2.1, nI_pred]
    have ev : (mI N1 (mo + 6) i) - 48 = nI (ch i - 48) := by
      rw [t2.2.2.2.1 i hy.1, show ch i = (ch i - 48) + 48 by omega, ← zA, show (48 : Int32) = nI 48 from rfl, Int32.add_sub_cancel, Nat.add_sub_cancel]
    rw [t1, cb_s, if_neg (by decide)]
    unfold f_X9_readSamples f_X9_readSamples_b38 f_X9_readSamples_b39
    rw [eb, gd_s (nI_ix (by omega) (by decide)), nb_s, nI_clamp (by omega), ev]
    by_cases hy2 : i + 1 < l ∧ ch (i + 1) = 58
    · obtain ⟨N2, u1, u2, u3⟩ := takes_y (lo := 58) (hi := 58) (a := 58) (b := 58) t2 hl hc rfl rfl (by decide) (by decide) ⟨hy2.1, by omega, by omega⟩
      have en2 : nuN (ch (i + 1)) (ch i - 48) = 0 := by unfold nuN; rw [if_neg (by omega)]
      have ds2 : dfa ch (l - i) i 0 0 = dfa ch (l - (i + 1 + 1)) (i + 1 + 1) 2 0 := by
        rw [ds, dfa_step hy2.1 (by rw [dl_1, if_pos hy2.2]; decide), dl_1, if_pos hy2.2, en2]
      rw [u1, cb_s, if_neg (by decide)]
      rcases sam_m (v := ch i - 48) hl hc u2 (by omega) (show d < 32 by omega) with ⟨e', st', N3, k1, k2, k3, k4, k5⟩ | ⟨e', st', nu', y, N3, k1, k2, k3, k4, k5, k6, k7, k8, k9⟩
      · left
        rw [k1, cb_s, if_pos rfl]
        unfold lfuel
        refine ⟨N3, ?_, (t3.trans u3).trans k3, by rw [ds2, k4]; exact k2, by rw [ds2, k4]; exact k5⟩
        rw [f_X9_readSamples_b40, if_pos rfl, gd_s (Or.inl rfl), cb_s, gd_s (Or.inl rfl)]
      · rw [k1, cb_s, if_neg (by decide)]
        obtain ⟨P', c1, c2⟩ := hC.ext (e := e') (q := (115, ch i - 48, y)) hcon' (Or.inr (Or.inl ⟨rfl, by rw [hP]; exact hy.2.1, by rw [hP]; exact hy.2.2, by rw [hP]; exact hy2.2, by rw [hP], by rw [hP]; exact k6⟩)) k3 (show ch i - 48 < 3 by omega)
        rcases sams_m hl hc (show ch i - 48 < 3 by omega) (l - e') e' (d + 1) st' nu' lfuel (updD D d (115, ch i - 48, y)) P' N3 (by omega) (by unfold lfuel; omega) k4 c1 c2 (by omega) ⟨d, rfl, by unfold updD; rw [if_pos rfl], by unfold updD; rw [if_pos rfl]⟩ k8 k9 with ⟨N', a1, a2⟩ | ⟨e2, d2, s2, n2, D2, P2, N', a1, a2, a3, a4⟩
        · left
          refine ⟨N', by rw [a1, cb_s, gd_s (Or.inl rfl)], ((t3.trans u3).trans k5).trans a2.1, by rw [ds2, k7]; exact a2.2.1, by rw [ds2, k7]; exact a2.2.2⟩
        · right
          exact ⟨e2, d2, s2, n2, D2, P2, N', by rw [a1, cb_s, gd_s (Or.inr rfl)], ⟨((t3.trans u3).trans k5).trans a2.1, a2.2⟩, by rw [ds2, k7]; exact a3, by omega⟩
    · left
      obtain ⟨N2, u1, u2, u3⟩ := takes_n (lo := 58) (hi := 58) (a := 58) (b := 58) t2 hl hc (by omega) rfl rfl (by decide) (by decide) (fun z => hy2 ⟨z.1, by omega⟩)
      rw [u1, cb_s, if_pos rfl]
      have dd : dfa ch (l - i) i 0 0 = (i + 1, if i + 1 < l then 8 else 1) := by
        rw [ds]
        by_cases hlt : i + 1 < l
        · rw [if_pos hlt, dfa_bad hlt (by rw [dl_1, if_neg (fun z => hy2 ⟨hlt, z⟩)])]
        · rw [if_neg hlt, show i + 1 = l by omega, dfa_end]
      unfold lfuel
      refine ⟨N2, ?_, t3.trans u3, by rw [dd]; exact u2.2.1, by rw [dd]; unfold acc; show ¬ ((if i + 1 < l then 8 else 1) = 4 ∨ _); split <;> omega⟩
      rw [f_X9_readSamples_b40, if_pos rfl, gd_s (Or.inl rfl), cb_s, gd_s (Or.inl rfl)]
  · -- a letter, or nothing
    obtain ⟨N1, t1, t2, t3⟩ := takes_n (lo := 48) (hi := 50) (a := 48) (b := 50) hT hl hc hil rfl rfl (by decide) (by decide) hy
    rw [t1, cb_s, if_pos rfl]
    have tail : ∀ N2 : Mem, MT mo l ch N2 (i + 1) d D → FrT mo N N2 → i < l → (ch i = 100 ∨ ch i = 108 ∨ ch i = 120) → (∃ N', f_X9_readPart_b51 mo N2 = some (0, N') ∧ BAD mo N N' (dfa ch (l - i) i 0 0)) ∨ ∃ e' d' st' nu' D' P' N', f_X9_readPart_b51 mo N2 = some (1, N') ∧ OKP mo l ch N N' e' d' st' nu' D' P' ∧ dfa ch (l - i) i 0 0 = dfa ch (l - e') e' st' nu' ∧ i < e' := by
      intro N2 hT2 hF2 hil2 hlet
      have hd0 : ¬ (48 ≤ ch i ∧ ch i ≤ 50) := fun z => hy ⟨hil2, z⟩
      have en : nuN (ch i) 0 = 0 := by unfold nuN; rw [if_neg (by omega)]
      have edl : dl 0 (ch i) 0 = 6 := by rw [dl_0, if_neg hd0, if_pos hlet]
      have ds : dfa ch (l - i) i 0 0 = dfa ch (l - (i + 1)) (i + 1) 6 0 := by
        rw [dfa_step hil2 (by rw [en, edl]; decide), en, edl]
      have eb : (mI N2 mo 10) - 1 = nI i := by rw [hT2.2.1, nI_pred]
      unfold f_X9_readPart_b51
      rw [eb, gd_s (nI_ix (by omega) (by decide)), nb_s, nI_clamp (by omega), hT2.2.2.2.1 i hil2]
      by_cases hy2 : i + 1 < l ∧ 48 ≤ ch (i + 1) ∧ ch (i + 1) ≤ 50
      · right
        obtain ⟨N3, u1, u2, u3⟩ := takes_y (lo := 48) (hi := 50) (a := 48) (b := 50) hT2 hl hc rfl rfl (by decide) (by decide) hy2
        have eb2 : (mI N3 mo 10) - 1 = nI (i + 1) := by rw [u2.2.1, nI_pred]
        have ev : (mI N3 (mo + 6) (i + 1)) - 48 = nI (ch (i + 1) - 48) := by
          rw [u2.2.2.2.1 (i + 1) hy2.1, show ch (i + 1) = (ch (i + 1) - 48) + 48 by omega, ← zA, show (48 : Int32) = nI 48 from rfl, Int32.add_sub_cancel, Nat.add_sub_cancel]
        obtain ⟨N4, a1, a2, a3⟩ := add_m (x := nI (ch i)) (y := nI (ch (i + 1) - 48)) (z := 0) u2 (show d < 32 by omega) rfl rfl
        rw [u1, cb_s, if_neg (by decide), eb2, gd_s (nI_ix (by omega) (by decide)), nI_clamp (by omega), ev, a1, vb_s]
        obtain ⟨P', c1, c2⟩ := hC.ext (e := i + 1 + 1) (q := (ch i, ch (i + 1) - 48, 0)) hcon' (Or.inl ⟨by rw [hP]; exact hlet, by rw [hP], by rw [hP]; exact hy2.2.1, by rw [hP]; exact hy2.2.2, by rw [hP], by rw [hP], rfl⟩) (by omega) (show ch (i + 1) - 48 < 3 by omega)
        have edl2 : ∀ z, dl 6 (ch (i + 1)) z = 7 := fun z => by rw [dl_6, if_pos hy2.2]
        refine ⟨i + 1 + 1, d + 1, 7, nuN (ch (i + 1)) 0, _, P', N4, rfl, ⟨(hF2.trans u3).trans a3, by omega, a2, c1, c2, by omega, by omega, Or.inr (Or.inr rfl), fun _ h59 => by rw [dl_7, if_neg h59]⟩, ?_, by omega⟩
        rw [ds, dfa_step hy2.1 (by rw [edl2]; decide), edl2]
      · left
        obtain ⟨N3, u1, u2, u3⟩ := takes_n (lo := 48) (hi := 50) (a := 48) (b := 50) hT2 hl hc (by omega) rfl rfl (by decide) (by decide) hy2
        rw [u1, cb_s, if_pos rfl]
        have dd : dfa ch (l - i) i 0 0 = (i + 1, if i + 1 < l then 8 else 6) := by
          rw [ds]
          by_cases hlt : i + 1 < l
          · rw [if_pos hlt, dfa_bad hlt (by rw [dl_6, if_neg (fun z => hy2 ⟨hlt, z⟩)])]
          · rw [if_neg hlt, show i + 1 = l by omega, dfa_end]
        exact ⟨N3, rfl, hF2.trans u3, by rw [dd]; exact u2.2.1, by rw [dd]; unfold acc; show ¬ ((if i + 1 < l then 8 else 6) = 4 ∨ _); split <;> omega⟩
    by_cases h100 : i < l ∧ ch i = 100
    · obtain ⟨N2, u1, u2, u3⟩ := takes_y (lo := 100) (hi := 100) (a := 100) (b := 100) t2 hl hc rfl rfl (by decide) (by decide) ⟨h100.1, by omega, by omega⟩
      rw [u1, cb_s, if_neg (by decide)]
      exact tail N2 u2 (t3.trans u3) h100.1 (Or.inl h100.2)
    · obtain ⟨N2, u1, u2, u3⟩ := takes_n (lo := 100) (hi := 100) (a := 100) (b := 100) t2 hl hc hil rfl rfl (by decide) (by decide) (fun z => h100 ⟨z.1, by omega⟩)
      rw [u1, cb_s, if_pos rfl]
      by_cases h108 : i < l ∧ ch i = 108
      · obtain ⟨N3, w1, w2, w3⟩ := takes_y (lo := 108) (hi := 108) (a := 108) (b := 108) u2 hl hc rfl rfl (by decide) (by decide) ⟨h108.1, by omega, by omega⟩
        rw [w1, cb_s, if_neg (by decide)]
        exact tail N3 w2 ((t3.trans u3).trans w3) h108.1 (Or.inr (Or.inl h108.2))
      · obtain ⟨N3, w1, w2, w3⟩ := takes_n (lo := 108) (hi := 108) (a := 108) (b := 108) u2 hl hc hil rfl rfl (by decide) (by decide) (fun z => h108 ⟨z.1, by omega⟩)
        rw [w1, cb_s, if_pos rfl]
        by_cases h120 : i < l ∧ ch i = 120
        · obtain ⟨N4, x1, x2, x3⟩ := takes_y (lo := 120) (hi := 120) (a := 120) (b := 120) w2 hl hc rfl rfl (by decide) (by decide) ⟨h120.1, by omega, by omega⟩
          rw [x1, cb_s, if_neg (by decide)]
          exact tail N4 x2 (((t3.trans u3).trans w3).trans x3) h120.1 (Or.inr (Or.inr h120.2))
        · obtain ⟨N4, x1, x2, x3⟩ := takes_n (lo := 120) (hi := 120) (a := 120) (b := 120) w2 hl hc hil rfl rfl (by decide) (by decide) (fun z => h120 ⟨z.1, by omega⟩)
          rw [x1, cb_s, if_pos rfl]
          left
          have dd : dfa ch (l - i) i 0 0 = (i, if i < l then 8 else 0) := by
            by_cases hlt : i < l
            · rw [if_pos hlt, dfa_bad hlt (by rw [dl_0, if_neg (fun z => hy ⟨hlt, z⟩), if_neg (fun z => by rcases z with z | z | z; exact h100 ⟨hlt, z⟩; exact h108 ⟨hlt, z⟩; exact h120 ⟨hlt, z⟩)])]
            · rw [if_neg hlt, show i = l by omega, dfa_end]
          exact ⟨N4, rfl, ((t3.trans u3).trans w3).trans x3, by rw [dd]; exact x2.2.1, by rw [dd]; unfold acc; show ¬ ((if i < l then 8 else 0) = 4 ∨ _); split <;> omega⟩
/-- what reading a text comes to -/
def TALK (mo l : Nat) (ch : Nat → Nat) (N : Mem) (o : Option (Int32 × Mem)) (X : Nat × Nat) : Prop := (∃ N' d D P, o = some (1, N') ∧ FrT mo N N' ∧ MT mo l ch N' l d D ∧ CH l ch D P d ∧ P d = l + 1 ∧ 0 < d ∧ 2 * d ≤ l ∧ X.1 = l ∧ acc X.2) ∨ ∃ N', o = some (0, N') ∧ FrT mo N N' ∧ mI N' mo 10 = nI X.1 ∧ ¬ (X.1 = l ∧ acc X.2)
theorem parts_m (hl : l ≤ 60) (hc : ∀ j, j < l → 33 ≤ ch j ∧ ch j ≤ 126) : ∀ (f e d st nu n : Nat) (D : Nat → Nat × Nat × Int32) (P : Nat → Nat) (N : Mem), e + f = l → f < n → OKP mo l ch N0 N e d st nu D P → TALK mo l ch N0 (f_X9_isTalk_b15 mo n 1 N) (dfa ch (l - e) e st nu) := by
  intro f
  induction f using Nat.strongRecOn with
  | _ f ih =>
    intro e d st nu n D P N hf hn hO
    obtain ⟨n, rfl⟩ : ∃ k, n = k + 1 := ⟨n - 1, by omega⟩
    obtain ⟨hF, hel, hT, hC, hP, hd0, h2, hst, hs⟩ := hO
    rw [f_X9_isTalk_b15, if_neg (by decide)]
    by_cases hy : e < l ∧ ch e = 59
    · obtain ⟨N1, t1, t2, t3⟩ := takes_y (lo := 59) (hi := 59) (a := 59) (b := 59) hT hl hc rfl rfl (by decide) (by decide) ⟨hy.1, by omega, by omega⟩
      have en : nuN (ch e) nu = 0 := by unfold nuN; rw [if_neg (by omega)]
      have edl : dl st (ch e) 0 = 0 := by
        rcases hst with h | h | h
        · subst h; rw [dl_4, if_neg (by omega), if_pos hy.2]
        · subst h; rw [dl_5, if_neg (by omega), if_neg (by omega), if_pos hy.2]
        · subst h; rw [dl_7, if_pos hy.2]
      have ds : dfa ch (l - e) e st nu = dfa ch (l - (e + 1)) (e + 1) 0 0 := by
        rw [dfa_step hy.1 (by rw [en, edl]; decide), en, edl]
      rw [t1, cb_s, if_neg (by decide)]
      rcases part_m hl hc t2 hC hP (by omega) (by omega) (fun _ => Or.inr (by rw [Nat.add_sub_cancel]; exact hy.2)) with ⟨N2, a1, a2⟩ | ⟨e2, d2, s2, n2, D2, P2, N2, a1, a2, a3, a4⟩
      · right
        rw [a1, cb_s]
        obtain ⟨m, hm⟩ : ∃ m, n = m + 1 := ⟨n - 1, by omega⟩
        subst hm
        refine ⟨N2, ?_, (hF.trans t3).trans a2.1, by rw [ds]; exact a2.2.1, fun z => a2.2.2 (by rw [ds] at z; exact z.2)⟩
        rw [f_X9_isTalk_b15, if_pos rfl]
        unfold f_X9_isTalk_b38
        rw [if_pos rfl]
      · rw [a1, cb_s, ds, a3]
        exact ih (l - e2) (by omega) e2 d2 s2 n2 n D2 P2 N2 (by have := a2.2.1; omega) (by omega) ⟨(hF.trans t3).trans a2.1, a2.2⟩
    · obtain ⟨N1, t1, t2, t3⟩ := takes_n (lo := 59) (hi := 59) (a := 59) (b := 59) hT hl hc hel rfl rfl (by decide) (by decide) (fun z => hy ⟨z.1, by omega⟩)
      rw [t1, cb_s, if_pos rfl]
      unfold f_X9_isTalk_b38
      rw [if_neg (by decide), t2.2.1, t2.1]
      by_cases hel2 : e = l
      · left
        subst hel2
        rw [if_pos rfl, dfa_end]
        exact ⟨N1, d, D, P, rfl, hF.trans t3, t2, hC, hP, hd0, h2, rfl, hst⟩
      · right
        rw [if_neg (fun z => hel2 ((nI_eq (by omega) (by omega)).mp z)), dfa_bad (by omega) (hs (by omega) (fun z => hy ⟨by omega, z⟩))]
        exact ⟨N1, rfl, hF.trans t3, t2.2.1, fun z => hel2 z.1⟩
theorem talk_m (hl : l ≤ 60) (hc : ∀ j, j < l → 33 ≤ ch j ∧ ch j ≤ 126) (h9 : mI N mo 9 = nI l) (hb : ∀ j, j < l → mI N (mo + 6) j = nI (ch j)) : TALK mo l ch N (f_X9_isTalk mo N) (dfa ch l 0 0 0) := by
  have hT : MT mo l ch (sI (sI N mo 10 0) mo 11 0) 0 0 (fun _ => (0, 0, 0)) := ⟨by rw [mI_sk (by decide), mI_sk (by decide)]; exact h9, by rw [mI_sk (by decide), mI_ss]; rfl, mI_ss, fun j hj => by rw [mI_sn (by omega), mI_sn (by omega)]; exact hb j hj, fun j hj => by omega⟩
  have hF : FrT mo N (sI (sI N mo 10 0) mo 11 0) := ⟨fun b k z1 _ _ _ => by rw [mI_sI, if_neg (fun z => z1 ⟨z.1, Or.inr z.2⟩), mI_sI, if_neg (fun z => z1 ⟨z.1, Or.inl z.2⟩)], rfl⟩
  have hC : CH l ch (fun _ => (0, 0, 0)) (fun _ => 0) 0 := ⟨rfl, fun k hk => by omega, fun k _ hk => by omega⟩
  unfold f_X9_isTalk
  rw [nb_s, nb_s]
  rcases part_m hl hc hT hC rfl (Nat.zero_le _) (by omega) (fun h => by omega) with ⟨N2, a1, a2⟩ | ⟨e2, d2, s2, n2, D2, P2, N2, a1, a2, a3, a4⟩
  · right
    rw [a1, cb_s]
    rw [Nat.sub_zero] at a2
    refine ⟨N2, ?_, hF.trans a2.1, a2.2.1, fun z => a2.2.2 z.2⟩
    unfold lfuel
    rw [f_X9_isTalk_b15, if_pos rfl]
    unfold f_X9_isTalk_b38
    rw [if_pos rfl]
  · rw [Nat.sub_zero] at a3
    rw [a1, cb_s, a3]
    exact parts_m hl hc (l - e2) e2 d2 s2 n2 lfuel D2 P2 N2 (by have := a2.2.1; omega) (by unfold lfuel; omega) ⟨hF.trans a2.1, a2.2⟩
end TALKS
