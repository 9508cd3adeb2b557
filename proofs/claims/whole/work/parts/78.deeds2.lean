/-! TEXTS. The class reads the deeds; both do them; the turns 8 and 9 -/
section DEEDS2
variable {M M1 M' N N0 N1 N' : Mem} {x mo l i d e n k a c m v st nu p L : Nat} {ch P : Nat → Nat} {D : Nat → Nat × Nat × Int32} {q : Nat × Nat × Int32} {lo hi y z x1 : Int32} {r r' s t w : Nat → Int32} {g : Nat → Nat → Int32} {b : Bool} {xs : Nat → Int32}
theorem smp_go (h60 : l ≤ 60) (hs : e < l → ¬ (48 ≤ ch e ∧ ch e ≤ 57)) (hel : e ≤ l) : ∀ (f p v n : Nat) (M : Mem), p + f = e → f < n → (∀ j, p ≤ j → j < e → 48 ≤ ch j ∧ ch j ≤ 57) → TX M a l ch → mI M a 3 = nI p → f_X6_readSample_b35 a n x1 (nI v) M = f_X6_readSample_b90 a x1 (nI (vdf ch f p v)) (sI M a 3 (nI e)) := by
  intro f
  induction f with
  | zero =>
    intro p v n M hp hn hd hT h3
    obtain ⟨n, rfl⟩ : ∃ k, n = k + 1 := ⟨n - 1, by omega⟩
    have hp : p = e := by omega
    subst hp
    have e0 : sI M a 3 (nI p) = M := by
      refine mem_ext (fun b j => ?_) rfl
      rw [mI_sI]
      split
      · rename_i z; rw [z.1, z.2, h3]
      · rfl
    rw [e0, f_X6_readSample_b35, hT.1, h3]
    by_cases hpl : p < l
    · have hc := hT.2.2 p hpl
      rw [if_neg (nI_ge hpl (by omega)), hT.sign hpl, vb_s, dig_c (by omega), if_neg (hs hpl), vb_s, if_pos rfl]
      rfl
    · rw [if_pos (nI_le (by omega) (by omega))]
      rfl
  | succ f ih =>
    intro p v n M hp hn hd hT h3
    obtain ⟨n, rfl⟩ : ∃ k, n = k + 1 := ⟨n - 1, by omega⟩
    have hpl : p < l := by omega
    have hdp := hd p (Nat.le_refl _) (by omega)
    have ev : (((10 : Int32) * nI v) + nI (ch p)) - 48 = nI (10 * v + (ch p - 48)) := by
      have e1 : ((10 : Int32) * nI v) + nI (ch p) = nI (10 * v + (ch p - 48)) + 48 := by
        rw [show (10 : Int32) = nI 10 from rfl, zM, zA, show (48 : Int32) = nI 48 from rfl, zA]
        congr 1
        omega
      rw [e1, Int32.add_sub_cancel]
    have e2 : sI (sI M a 3 (nI (p + 1))) a 3 (nI e) = sI M a 3 (nI e) := by
      refine mem_ext (fun b j => ?_) rfl
      rw [mI_sI, mI_sI, mI_sI]
      split <;> rfl
    rw [f_X6_readSample_b35, hT.1, h3, if_neg (nI_ge hpl (by omega)), hT.sign hpl, vb_s, dig_c (by omega), if_pos hdp, vb_s, if_neg (by decide), vb_s, ev, nb_s, nb_s, ← nI_succ, ih (p + 1) _ n _ (by omega) (by omega) (fun j h1 h2 => hd j (by omega) h2) (hT.sl (by decide)) mI_ss, e2]
    rfl
/-- the class reads a sample -/
theorem smp_c (hs : e < l → ¬ (48 ≤ ch e ∧ ch e ≤ 57)) (hel : e ≤ l) (hT : TX M a l ch) (h3 : mI M a 3 = nI p) (hS : SM ch p e y) : f_X6_readSample a M = some (sI (sI M a 3 (nI e)) a 6 y) := by
  obtain ⟨gg, v, hg, h1, h2, h4, h5, h6⟩ := hS
  have h60 := hT.2.1
  have hpl : p < l := by omega
  have hc := hT.2.2 p hpl
  unfold f_X6_readSample
  rw [h3, hT.sign hpl, vb_s]
  rcases hg with ⟨rfl, hg2⟩ | ⟨rfl, hg2⟩
  · rw [hg2, if_pos (show nI 45 = 45 from rfl)]
    unfold f_X6_readSample_b18 f_X6_readSample_b33
    have e2 : sI (sI M a 3 (nI (p + 1))) a 3 (nI e) = sI M a 3 (nI e) := by
      refine mem_ext (fun b j => ?_) rfl
      rw [mI_sI, mI_sI, mI_sI]
      split <;> rfl
    have go := smp_go (a := a) (x1 := 1) h60 hs hel (e - (p + 1)) (p + 1) 0 lfuel (sI M a 3 (nI (p + 1))) (by omega) (by unfold lfuel; omega) h2 (hT.sl (by decide)) mI_ss
    rw [if_neg (by decide), h3, nb_s, ← nI_succ, show (0 : Int32) = nI 0 from rfl, go, e2, ← h4]
    unfold f_X6_readSample_b90 f_X6_readSample_b101
    rw [if_neg (by decide), nb_s, h6, if_pos rfl]
  · rw [if_neg (fun z => hg2 ((qe (c := ch p) (by omega) 45 (by decide)).mp z))]
    unfold f_X6_readSample_b18 f_X6_readSample_b33
    have go := smp_go (a := a) (x1 := 0) h60 hs hel (e - p) p 0 lfuel M (by omega) (by unfold lfuel; omega) h2 hT h3
    rw [if_pos rfl]
    refine Eq.trans go ?_
    have h4' : v = vdf ch (e - p) p 0 := h4
    rw [← h4']
    unfold f_X6_readSample_b90 f_X6_readSample_b101
    rw [if_pos rfl, nb_s, h6, if_neg (by decide)]
/-- the character of a deed in the class -/
def kd (k : Nat) : Nat := if k = 115 then 58 else k
theorem sm_ne (hS : SM ch p e y) (hpl : p < l) : ¬ (ch p = 100 ∨ ch p = 108 ∨ ch p = 120) ∧ (p + 1 < e → ch (p + 1) ≠ 58) := by
  obtain ⟨gg, v, hg, h1, h2, h4, h5, h6⟩ := hS
  rcases hg with ⟨rfl, hg2⟩ | ⟨rfl, hg2⟩
  · exact ⟨by omega, fun h => by have := h2 (p + 1) (by omega) h; omega⟩
  · have := h2 p (by omega) (by omega)
    exact ⟨by omega, fun h => by have := h2 (p + 1) (by omega) h; omega⟩
/-- the class reads a deed -/
theorem deed_c (hT : TX M a l ch) (h3 : mI M a 3 = nI p) (hel : e ≤ l) (hs : e < l → ch e = 44 ∨ ch e = 59) (hN : ND ch D k p e q) (hv : q.2.1 < 3) (hpv : ∀ j, k = j + 1 → mI M a 5 = nI (D j).2.1) : ∃ M', f_X6_readDeed a M = some (1, M') ∧ mI M' a 3 = nI (e + 1) ∧ mI M' a 4 = nI (kd q.1) ∧ mI M' a 5 = nI q.2.1 ∧ (q.1 = 115 → mI M' a 6 = q.2.2) ∧ (∀ b, b ≠ a → mI M' b = mI M b) ∧ (∀ j, j < 3 → mI M' a j = mI M a j) ∧ M'.2 = M.2 ∧ p + 2 ≤ e + 1 := by
  have h60 := hT.2.1
  have hs' : e < l → ¬ (48 ≤ ch e ∧ ch e ≤ 57) := fun h => by have := hs h; omega
  unfold f_X6_readDeed
  rcases hN with ⟨n1, n2, n3, n4, n5, n6, -⟩ | ⟨n1, n2, n3, n4, n5, n6⟩ | ⟨j, n0, n1, n2, n3, n4⟩
  · have hpl : p < l := by omega
    have hpl1 : p + 1 < l := by omega
    have hc := hT.2.2 p hpl
    have hc1 := hT.2.2 (p + 1) hpl1
    have hk : kd q.1 = ch p := by unfold kd; rw [n2, if_neg (by omega)]
    have ev : nI (ch (p + 1)) - 48 = nI q.2.1 := by
      rw [n5, show ch (p + 1) = (ch (p + 1) - 48) + 48 by omega, ← zA, show (48 : Int32) = nI 48 from rfl, Int32.add_sub_cancel, Nat.add_sub_cancel]
    have g3 : mI (sI M a 4 (nI (ch p))) a 3 = nI p := by rw [mI_sk (by decide)]; exact h3
    have hT2 : TX (sI M a 4 (nI (ch p))) a l ch := hT.sl (by decide)
    refine ⟨sI (sI (sI M a 4 (nI (ch p))) a 5 (nI q.2.1)) a 3 (nI (e + 1)), ?_, mI_ss, ?_, ?_, fun h => by omega, fun b hb => by rw [mI_sn hb, mI_sn hb, mI_sn hb], fun j hj => by rw [mI_sk (by omega), mI_sk (by omega), mI_sk (by omega)], rfl, by omega⟩
    · rw [h3, hT.1, if_pos (nI_lt hpl (by omega)), hT.sign hpl, vb_s, let_c (by omega), if_pos n1, vb_s, if_neg (by decide), gd_s ⟨nI_pos' (by omega), nI_le (b := 65535) (by omega) (by decide)⟩, nb_s, g3, ← nI_succ, hT2.sign hpl1, vb_s, ev, nb_s, mI_sk (show 3 ≠ 5 by decide), g3, show nI p + 3 = nI (p + 3) from zA (a := p) (b := 3), show p + 3 = e + 1 by omega, nb_s]
    · rw [mI_sk (by decide), mI_sk (by decide), mI_ss, hk]
    · rw [mI_sk (by decide), mI_ss]
  · have hpe : p + 2 < e := by obtain ⟨gg, vv, hg, hlt, -⟩ := n6; omega
    have hpl : p < l := by omega
    have hpl1 : p + 1 < l := by omega
    have hc := hT.2.2 p hpl
    have hk : kd q.1 = 58 := if_pos n1
    have ev : nI (ch p) - 48 = nI q.2.1 := by
      rw [n5, show ch p = (ch p - 48) + 48 by omega, ← zA, show (48 : Int32) = nI 48 from rfl, Int32.add_sub_cancel, Nat.add_sub_cancel]
    have g3 : mI (sI M a 5 (nI q.2.1)) a 3 = nI p := by rw [mI_sk (by decide)]; exact h3
    have hT4 : TX (sI (sI (sI M a 5 (nI q.2.1)) a 3 (nI (p + 2))) a 4 58) a l ch := ((hT.sl (by decide)).sl (by decide)).sl (by decide)
    have sm := smp_c (p := p + 2) hs' hel hT4 (by rw [mI_sk (by decide), mI_ss]) n6
    refine ⟨sI (sI (sI (sI (sI (sI M a 5 (nI q.2.1)) a 3 (nI (p + 2))) a 4 58) a 3 (nI e)) a 6 q.2.2) a 3 (nI (e + 1)), ?_, mI_ss, ?_, ?_, fun _ => ?_, fun b hb => by rw [mI_sn hb, mI_sn hb, mI_sn hb, mI_sn hb, mI_sn hb, mI_sn hb], fun j hj => by rw [mI_sk (by omega), mI_sk (by omega), mI_sk (by omega), mI_sk (by omega), mI_sk (by omega), mI_sk (by omega)], rfl, by omega⟩
    · rw [h3, hT.1, if_pos (nI_lt hpl (by omega)), hT.sign hpl, vb_s, let_c (by omega), if_neg (by omega), vb_s, if_pos rfl, ← nI_succ, hT.sign hpl1, vb_s, n4, if_pos (show nI 58 = 58 from rfl), ev, nb_s, g3, show nI p + 2 = nI (p + 2) from zA (a := p) (b := 2), nb_s]
      unfold f_X6_readDeed_b96
      rw [gd_s (by decide), nb_s, sm, vb_s, mI_sk (show 3 ≠ 6 by decide), mI_ss, nb_s, nI_succ e]
    · rw [mI_sk (by decide), mI_sk (by decide), mI_sk (by decide), mI_ss, hk]; rfl
    · rw [mI_sk (by decide), mI_sk (by decide), mI_sk (by decide), mI_sk (by decide), mI_sk (by decide), mI_ss]
    · rw [mI_sk (by decide), mI_ss]
  · have hpe : p < e := by obtain ⟨gg, vv, hg, hlt, -⟩ := n4; omega
    have hpl : p < l := by omega
    have hc := hT.2.2 p hpl
    obtain ⟨hne, hne2⟩ := sm_ne n4 hpl
    have hk : kd q.1 = 58 := if_pos n2
    have hnx : ∃ cc, cc < 2 ^ 31 ∧ cc ≠ 58 ∧ f_X6_signAt a (nI (p + 1)) M = some (nI cc) := by
      by_cases h1 : p + 1 < l
      · have hc1 := hT.2.2 (p + 1) h1
        refine ⟨ch (p + 1), by omega, ?_, hT.sign h1⟩
        by_cases h2 : p + 1 < e
        · exact hne2 h2
        · have h3 : p + 1 = e := by omega
          have := hs (by omega)
          rw [h3]
          omega
      · exact ⟨32, by decide, by decide, hT.over (by omega) (by omega)⟩
    obtain ⟨cc, cc1, cc2, cc3⟩ := hnx
    have hT4 : TX (sI M a 4 58) a l ch := hT.sl (by decide)
    have sm := smp_c (p := p) hs' hel hT4 (by rw [mI_sk (by decide)]; exact h3) n4
    refine ⟨sI (sI (sI (sI M a 4 58) a 3 (nI e)) a 6 q.2.2) a 3 (nI (e + 1)), ?_, mI_ss, ?_, ?_, fun _ => ?_, fun b hb => by rw [mI_sn hb, mI_sn hb, mI_sn hb, mI_sn hb], fun j hj => by rw [mI_sk (by omega), mI_sk (by omega), mI_sk (by omega), mI_sk (by omega)], rfl, by omega⟩
    · rw [h3, hT.1, if_pos (nI_lt hpl (by omega)), hT.sign hpl, vb_s, let_c (by omega), if_neg hne, vb_s, if_pos rfl, ← nI_succ, cc3, vb_s, if_neg (fun z => cc2 ((qe cc1 58 (by decide)).mp z))]
      unfold f_X6_readDeed_b96
      rw [gd_s (by decide), nb_s, sm, vb_s, mI_sk (show 3 ≠ 6 by decide), mI_ss, nb_s, nI_succ e]
    · rw [mI_sk (by decide), mI_sk (by decide), mI_sk (by decide), mI_ss, hk]; rfl
    · rw [mI_sk (by decide), mI_sk (by decide), mI_sk (by decide), mI_sk (by decide), hpv j n0, n3]
    · rw [mI_sk (by decide), mI_ss]
theorem dl_n : ∀ (k : Nat), CH l ch D P d → k ≤ d → 2 * k ≤ P k := by
  intro k hC
  induction k with
  | zero => intro _; omega
  | succ k ih =>
    intro hk
    have h1 := ih (by omega)
    obtain ⟨g1, g2, g3, g4⟩ := hC.2.1 k (by omega)
    rcases g3 with ⟨-, -, -, -, -, h, -⟩ | ⟨-, -, -, -, -, gg, vv, hg, hlt, -⟩ | ⟨j, -, -, -, -, gg, vv, hg, hlt, -⟩
    · omega
    · omega
    · omega
/-- the text of the object -/
def chT (t : Nat → Int32) (i : Nat) : Nat := (t i).toNatClampNeg
theorem CI.tx (h : CI x M n r s b g c t l) : TX M (x + 274) l (chT t) := by
  obtain ⟨-, -, -, -, -, a12, a13, a14⟩ := h
  refine ⟨a12, a13, fun i hi => ?_⟩
  obtain ⟨h1, a, h2, h3, h4⟩ := a14 i hi
  have e : chT t i = a := by unfold chT; rw [h4, nI_clamp (by omega)]
  rw [e]
  exact ⟨h1.trans h4, h2, h3⟩
/-- scratch of the text -/
theorem CI.sc (h : CI x M n r s b g c t l) (hb : ∀ b, b ≠ x + 274 → mI M' b = mI M b) (h1 : mI M' (x + 274) 1 = mI M (x + 274) 1) (h2 : M'.2 = M.2) : CI x M' n r s b g c t l ∧ Out x M M' := ⟨h.fr (fun b _ _ z _ _ _ => hb b z) (fun b _ _ => mR_of2 h2) h1, Out.of2 (fun b hbb => hb b (by omega)) h2⟩
theorem CI.clr (h : CI x M n r s b g c t l) : CI x (sI M (x + 274) 1 0) n r s b g c t 0 ∧ Out x M (sI M (x + 274) 1 0) := by
  obtain ⟨M1, e, h1, h2⟩ := clr_c h
  unfold f_X8_clearBuffer f_X6_clear at e
  rw [nb_s, nb_s, vb_s] at e
  have e2 : sI M (x + 274) 1 0 = M1 := congrArg Prod.snd (Option.some.inj e)
  rw [e2]
  exact ⟨h1, h2⟩
theorem FrT.mi (h : FrT mo N N') (hI : MI mo N r s b g c t l) : MI mo N' r s b g c t l := by
  have hr : ∀ b, b ≠ mo → b ≠ mo + 7 → b ≠ mo + 8 → b ≠ mo + 9 → mI N' b = mI N b := fun b h0 h1 h2 h3 => funext fun k => h.1 b k (fun z => h0 z.1) h1 h2 h3
  exact hI.fr (hr _ (by omega) (by omega) (by omega) (by omega)) (hr _ (by omega) (by omega) (by omega) (by omega)) (hr _ (by omega) (by omega) (by omega) (by omega)) (hr _ (by omega) (by omega) (by omega) (by omega)) (hr _ (by omega) (by omega) (by omega) (by omega)) (h.1 _ _ (by omega) (by omega) (by omega) (by omega)) (h.1 _ _ (by omega) (by omega) (by omega) (by omega)) (h.1 _ _ (by omega) (by omega) (by omega) (by omega))
theorem FrT.out (h : FrT mo N N') : OutM mo N N' := ⟨fun b hb => funext fun k => h.1 b k (by omega) (by omega) (by omega) (by omega), by rw [h.2], fun b _ => by show N'.2.2.1 b = N.2.2.1 b; rw [h.2], by rw [h.2]⟩
/-- both look -/
theorem look_T (h : CI x M n r s b g c t l) : ∃ M', f_X6_firstWrongPlace (x + 274) M = some (nI (dfa (chT t) l 0 0 0).1, M') ∧ mI M' (x + 274) 2 = dI (dfa (chT t) l 0 0 0).2 ∧ CI x M' n r s b g c t l ∧ Out x M M' ∧ (∀ j, j ≠ 2 → mI M' (x + 274) j = mI M (x + 274) j) := by
  have hT := h.tx
  have h60 := hT.2.1
  have w := wrong_c (e := x + 274) (ch := chT t) l 0 0 0 lfuel (sI M (x + 274) 2 0) (by omega) (by unfold lfuel; omega) (hT.sl (by decide)) mI_ss ⟨by decide, by decide⟩ (Or.inl rfl)
  obtain ⟨g1, g2⟩ := h.sc (M' := sI (sI M (x + 274) 2 0) (x + 274) 2 (dI (dfa (chT t) l 0 0 0).2)) (fun b hb => by rw [mI_sn hb, mI_sn hb]) (by rw [mI_sk (by decide), mI_sk (by decide)]) rfl
  refine ⟨_, ?_, mI_ss, g1, g2, fun j hj => by rw [mI_sk hj, mI_sk hj]⟩
  unfold f_X6_firstWrongPlace
  rw [nb_s]
  exact w
theorem w_8 (h : Inv x k M) : ∃ M', f_law_8 x (x + 1095) (x + 1105) (x + 1106) xs L (Int32.ofNat (4 * k)) M = some M' ∧ Inv x (k + 1) M' := by
  obtain ⟨r, s, b, g, c, t, l, hl, hC, hI⟩ := h
  obtain ⟨M1, e1, -, h1, o1, -⟩ := look_T hC
  have hT := hC.tx
  refine law_pl (z := 0) (fm := fun N => f_X9_firstError (x + 1095) N) hI (y := nI (dfa (chT t) l 0 0 0).1) ⟨M1, by unfold f_X8_firstError; rw [e1, cb_s], h1, o1⟩ (fun N hN => ?_) (by omega) (show k - l ≤ k + 1 - l by omega)
  have hN0 := hN7 hN
  have tk := talk_m (N := sI N (x + 1095) 7 0) (mo := x + 1095) (l := l) (ch := chT t) hT.2.1 (fun j hj => (hT.2.2 j hj).2) hN0.2.2.2.1 (fun j hj => by
    rw [hN0.2.2.2.2 j hj]
    obtain ⟨h1, a, h2, h3, h4⟩ := hC.2.2.2.2.2.2.2 j hj
    unfold chT
    rw [h4, nI_clamp (by omega)])
  unfold f_X9_firstError
  rw [nb_s]
  rcases tk with ⟨N', d, D, P, k1, k2, k3, -, -, -, -, k4, -⟩ | ⟨N', k1, k2, k3, -⟩
  · rw [k1, cb_s, if_neg (by decide), k3.1, k4]
    exact ⟨N', rfl, k2.mi hN0, (OutM.sI (by omega) (by omega)).trans k2.out, by rw [k2.1 _ _ (by omega) (by omega) (by omega) (by omega), mI_ss]⟩
  · rw [k1, cb_s, if_pos rfl, k3]
    exact ⟨N', rfl, k2.mi hN0, (OutM.sI (by omega) (by omega)).trans k2.out, by rw [k2.1 _ _ (by omega) (by omega) (by omega) (by omega), mI_ss]⟩
end DEEDS2
