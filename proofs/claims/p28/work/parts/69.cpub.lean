/-! Arguments; the class's deeds as they are called -/
def CR (x : Nat) (M : Mem) (o : Option (Nat × Int32 × Mem)) (j : Nat) (y : Int32) (n : Nat) (r q : Nat → Int32) (b : Bool) (g : Nat → Nat → Int32) (c : Nat) (t : Nat → Int32) (l : Nat) : Prop := ∃ M', o = some (j, y, M') ∧ CI x M' n r q b g c t l ∧ Out x M M'
section ARGS
variable {M : Mem} {x mo a n m c l v k j : Nat} {p p1 p2 p3 lo hi : Int32}
theorem xb_n {ρ γ : Type} {d : γ} {z : ρ} {N : Mem} {f : ρ → Mem → Option (Nat × γ × Mem)} (hj : j ≠ 0) : xb d (some (j, z, N)) f = some (j, d, N) := if_neg hj
theorem arg_cs (p : Int32) (n : Nat) (hn : n < 2 ^ 31) : (∃ v, v ≤ n ∧ p = nI v) ∨ p < 0 ∨ nI n < p := by
  by_cases h : p < 0
  · exact Or.inr (Or.inl h)
  · by_cases h2 : p ≤ nI n
    · exact Or.inl (nI_of2 (nI_toInt hn) h h2)
    · exact Or.inr (Or.inr (Int32.not_le.mp h2))
theorem sam_cs (p : Int32) : B2 p ∨ p < -2000 ∨ 2000 < p := by
  by_cases h : p < -2000
  · exact Or.inr (Or.inl h)
  · by_cases h2 : 2000 < p
    · exact Or.inr (Or.inr h2)
    · refine Or.inl ⟨?_, ?_⟩
      · have h := Int32.le_iff_toInt_le.mp (Int32.not_lt.mp h)
        exact h
      · have h := Int32.le_iff_toInt_le.mp (Int32.not_lt.mp h2)
        exact h
theorem B2_in (h : B2 p) : ¬ p < -2000 ∧ p ≤ 2000 := by
  refine ⟨fun z => ?_, ?_⟩
  · have z := Int32.lt_iff_toInt_lt.mp z
    have h1 := h.1
    have e : (-2000 : Int32).toInt = -2000 := by decide
    omega
  · rw [Int32.le_iff_toInt_le]
    have h1 := h.2
    have e : (2000 : Int32).toInt = 2000 := by decide
    omega
theorem voice_ok (hv : v < 3) : f_X8_voiceOf x (nI v) M = some (0, x + 5 + 44 * v, M) := by
  unfold f_X8_voiceOf
  rw [if_neg (nI_pos (by omega)), if_pos (show nI v < (3 : Int32) from nI_lt (b := 3) hv (by decide)), gd_s (nI_ix hv (by decide)), nb_s, nI_clamp (by omega)]
theorem voice_no (h : p < 0 ∨ nI 2 < p) : f_X8_voiceOf x p M = some (1, 0, M) := by
  unfold f_X8_voiceOf f_X8_voiceOf_b16
  by_cases h0 : p < 0
  · rw [if_pos h0]
  · rw [if_neg h0]
    have h2 := h.resolve_left h0
    rw [if_neg]
    intro z
    rw [Int32.lt_iff_toInt_lt] at h2 z
    rw [nI_toInt (by decide)] at h2
    have e : (3 : Int32).toInt = 3 := by decide
    omega
theorem reqS_ok (h : B2 p) : f_X8_requireSample p M = some (0, (), M) := by
  unfold f_X8_requireSample
  rw [if_neg (B2_in h).1, if_pos (B2_in h).2]
theorem reqS_no (h : p < -2000 ∨ 2000 < p) : f_X8_requireSample p M = some (2, (), M) := by
  unfold f_X8_requireSample f_X8_requireSample_b14
  by_cases h0 : p < -2000
  · rw [if_pos h0]
  · rw [if_neg h0, if_neg (Int32.not_le.mpr (h.resolve_left h0))]
theorem reqW_ok (hv : v ≤ n) (hn : n < 2 ^ 31) : f_X8_requireWhat (nI v) (nI n) M = some (0, (), M) := by
  unfold f_X8_requireWhat
  rw [if_neg (nI_pos (by omega)), if_pos (nI_le hv hn)]
theorem reqW_no (h : p < 0 ∨ nI n < p) : f_X8_requireWhat p (nI n) M = some (2, (), M) := by
  unfold f_X8_requireWhat f_X8_requireWhat_b9
  by_cases h0 : p < 0
  · rw [if_pos h0]
  · rw [if_neg h0, if_neg (Int32.not_le.mpr (h.resolve_left h0))]
theorem reqT_ok (hv : v ≤ 3) : f_X8_requireSetting (nI v) M = some (0, (), M) := by
  unfold f_X8_requireSetting
  rw [if_neg (nI_pos (by omega)), if_pos (show nI v ≤ (3 : Int32) from nI_le (b := 3) hv (by decide))]
theorem reqT_no (h : p < 0 ∨ nI 3 < p) : f_X8_requireSetting p M = some (1, (), M) := by
  unfold f_X8_requireSetting f_X8_requireSetting_b9
  by_cases h0 : p < 0
  · rw [if_pos h0]
  · rw [if_neg h0, if_neg (show ¬ p ≤ (3 : Int32) from Int32.not_le.mpr (h.resolve_left h0))]
end ARGS
section CPUB
variable {M M1 M' : Mem} {x a s d n m c l v e : Nat} {r q r' w t : Nat → Int32} {g : Nat → Nat → Int32} {b : Bool} {y p p1 p2 : Int32}
theorem zCS_01 : zCS r w = 0 ∨ zCS r w = 1 := by
  unfold zCS
  split
  · exact Or.inr rfl
  · split
    · exact Or.inl rfl
    · exact Or.inr rfl
theorem say_c (h : CI x M n r q b g c t l) (hv : v < 3) (hx : B2 p) (hcan : zCS r (vo r v) = 1) (hn : n < 9999) : CR x M (f_X8_say x (nI v) p M) 0 (zSayC cSTEPS r (vo r v) p) (n + 1) (pv v (zSaid r) (zCl r (zSayW cSTEPS r (vo r v) p))) q b (svG g c r) (svC c) t l := by
  obtain ⟨hV, hW, hB, hS, hR⟩ := h.rv hv
  obtain ⟨M1, e1, h1, o1⟩ := save_c h
  obtain ⟨hV1, hW1, hB1, hS1, hR1⟩ := h1.rv hv
  obtain ⟨M2, e2, k1, k2, k3, k4⟩ := take_c (x := p) hV1 hW1 hS1 (by omega) hB1 hR1 hx hcan
  obtain ⟨h2, o2⟩ := h1.live (y := 1) (r' := zSaid r) hv k3 k1 k2 (WB.say hB1 hR1 hx hcan hn) (by omega) k4 (fun i hi => upd_ne hi) upd_eq
  refine ⟨M2, ?_, h2, o1.trans o2⟩
  unfold f_X8_say
  rw [voice_ok hv, xb_s, reqS_ok hx, xb_s, can_c hV hS, vb_s, hcan, if_neg (by decide), e1, vb_s, e2, cb_s]
theorem say_3 (h : CI x M n r q b g c t l) (hv : v < 3) (hx : B2 p) (hcan : zCS r (vo r v) = 0) : f_X8_say x (nI v) p M = some (3, 0, M) := by
  obtain ⟨hV, hW, hB, hS, hR⟩ := h.rv hv
  unfold f_X8_say
  rw [voice_ok hv, xb_s, reqS_ok hx, xb_s, can_c hV hS, vb_s, hcan, if_pos rfl]
theorem say_2 (hv : v < 3) (hx : p < -2000 ∨ 2000 < p) : f_X8_say x (nI v) p M = some (2, 0, M) := by
  unfold f_X8_say
  rw [voice_ok hv, xb_s, reqS_no hx, xb_n (by decide)]
theorem say_1 (hv : p1 < 0 ∨ nI 2 < p1) : f_X8_say x p1 p M = some (1, 0, M) := by
  unfold f_X8_say
  rw [voice_no hv, xb_n (by decide)]
theorem flush_c (h : CI x M n r q b g c t l) (hv : v < 3) (h4 : vo r v 4 ≠ 0) (h38 : vo r v 38 ≠ 8) (hn : n < 9999) : CR x M (f_X8_flush x (nI v) M) 0 (vo r v 4) (n + 1) (pv v r (zMP r (vo r v))) q b (svG g c r) (svC c) t l := by
  obtain ⟨hV, hW, hB, hS, hR⟩ := h.rv hv
  obtain ⟨M1, e1, h1, o1⟩ := save_c h
  obtain ⟨hV1, hW1, hB1, hS1, hR1⟩ := h1.rv hv
  obtain ⟨W, w1, w2, w3⟩ := hB.2.2
  have hW8 : W < 8 := by
    have : W ≠ 8 := fun z => h38 (by rw [w2, z]; rfl)
    omega
  obtain ⟨k, k7, k4⟩ := hB.1.1.2.2.1
  have hk0 : 0 < k := Nat.pos_of_ne_zero fun z => h4 (by rw [k4, z]; rfl)
  obtain ⟨d, d1, d2, d3⟩ := hR.2.2.2
  obtain ⟨M2, e2, k1, k2, k3, k5⟩ := close_c hV1 hW1 hS1 w2 hW8 k4 hk0 (by omega) ⟨d, d2, d3⟩ hB.1.1.2.2.2.2.1.2
  obtain ⟨b1, b2, b3, b4, b5⟩ := hB.1.1
  obtain ⟨h2, o2⟩ := h1.live (y := 0) (r' := r) hv k3 k1 k2 (WB.mp ⟨⟨hB.1.2, hB.2.1⟩, hB.2.2⟩ ⟨b1, b2, b4, b5⟩ w2 hW8 ⟨k, by omega, k4⟩ hR hn) (by omega) (by rw [k5, Int32.add_zero]) (fun _ _ => rfl) (Int32.add_zero _).symm
  refine ⟨M2, ?_, h2, o1.trans o2⟩
  have e4 : mI M (x + 5 + 44 * v + 1 + 2) 2 = vo r v 4 := by
    obtain ⟨⟨⟨q', q1, q2, q3, -⟩, -⟩, -⟩ := hV
    rw [q2]; exact q3
  unfold f_X8_flush f_X7_hasRoom
  rw [voice_ok hv, xb_s, nb_s, e4, if_neg h4, hV.2.1.1, w2, if_neg (show ¬ (8 : Int32) ≤ nI W from nI_ge (b := 8) hW8 (by decide)), vb_s, if_neg (by decide), e1, vb_s, e2, vb_s]
theorem flush_3 (h : CI x M n r q b g c t l) (hv : v < 3) (h4 : vo r v 4 = 0 ∨ vo r v 38 = 8) : f_X8_flush x (nI v) M = some (3, 0, M) := by
  obtain ⟨hV, hW, hB, hS, hR⟩ := h.rv hv
  have e4 : mI M (x + 5 + 44 * v + 1 + 2) 2 = vo r v 4 := by
    obtain ⟨⟨⟨q', q1, q2, q3, -⟩, -⟩, -⟩ := hV
    rw [q2]; exact q3
  unfold f_X8_flush f_X7_hasRoom
  rw [voice_ok hv, xb_s, nb_s, e4, hV.2.1.1]
  by_cases h0 : vo r v 4 = 0
  · rw [if_pos h0]
  · rw [if_neg h0, h4.resolve_left h0, if_pos (by decide), vb_s, if_pos rfl]
theorem flush_1 (hv : p1 < 0 ∨ nI 2 < p1) : f_X8_flush x p1 M = some (1, 0, M) := by
  unfold f_X8_flush
  rw [voice_no hv, xb_n (by decide)]
theorem reqQ_ok {k : Nat} (h : mI M a 3 = nI m) (hk : k ≤ m) (hm : m < 2 ^ 31) : f_X8_requireWaiting a (nI k) M = some (0, (), M) := by
  unfold f_X8_requireWaiting
  rw [h, if_pos (nI_le hk hm)]
theorem reqQ_no {k : Nat} (h : mI M a 3 = nI m) (hk : m < k) (hm : k < 2 ^ 31) : f_X8_requireWaiting a (nI k) M = some (3, (), M) := by
  unfold f_X8_requireWaiting
  rw [h, if_neg (nI_ge hk hm)]
theorem deliver_c {k : Nat} (h : CI x M n r q b g c t l) (hv : v < 3) (h38 : vo r v 38 = nI (k + 1)) (hk : k < 8) (hn : n < 9999) : CR x M (f_X8_deliver x (nI v) M) 0 (zDa (vo r v)) (n + 1) (pv v r (zDv cSTEPS (vo r v))) q b (svG g c r) (svC c) t l := by
  obtain ⟨hV, hW, hB, hS, hR⟩ := h.rv hv
  obtain ⟨M1, e1, h1, o1⟩ := save_c h
  obtain ⟨hV1, hW1, hB1, hS1, hR1⟩ := h1.rv hv
  obtain ⟨M2, e2, k1, k2, k3, k5⟩ := bring_c hV1 hW1 hB1 hn h38 hk
  obtain ⟨h2, o2⟩ := h1.live (y := 0) (r' := r) hv k3 k1 k2 (WB.dv (T := cSTEPS) hB1 h38 hk hn).1 (by omega) (by rw [k5, Int32.add_zero]) (fun _ _ => rfl) (Int32.add_zero _).symm
  refine ⟨M2, ?_, h2, o1.trans o2⟩
  unfold f_X8_deliver
  rw [voice_ok hv, xb_s, show (1 : Int32) = nI 1 from rfl, reqQ_ok (m := k + 1) (hV.2.1.1.trans h38) (by omega) (by omega), xb_s, e1, vb_s, e2, cb_s]
theorem dlv_3 (h : CI x M n r q b g c t l) (hv : v < 3) (h38 : vo r v 38 = nI 0) : f_X8_deliver x (nI v) M = some (3, 0, M) := by
  obtain ⟨hV, hW, hB, hS, hR⟩ := h.rv hv
  unfold f_X8_deliver
  rw [voice_ok hv, xb_s, show (1 : Int32) = nI 1 from rfl, reqQ_no (m := 0) (hV.2.1.1.trans h38) (by omega) (by omega), xb_n (by decide)]
theorem dlv_1 (hv : p1 < 0 ∨ nI 2 < p1) : f_X8_deliver x p1 M = some (1, 0, M) := by
  unfold f_X8_deliver
  rw [voice_no hv, xb_n (by decide)]
theorem lose_c {k : Nat} (h : CI x M n r q b g c t l) (hv : v < 3) (h38 : vo r v 38 = nI (k + 1)) (hk : k < 8) : CR x M (f_X8_lose x (nI v) M) 0 (vo r v 39) (n + 1) (pv v r (zLo (vo r v))) q b (svG g c r) (svC c) t l := by
  obtain ⟨hV, hW, hB, hS, hR⟩ := h.rv hv
  obtain ⟨M1, e1, h1, o1⟩ := save_c h
  obtain ⟨hV1, hW1, hB1, hS1, hR1⟩ := h1.rv hv
  obtain ⟨M2, e2, k1, k2, k3, k5⟩ := drop_c hV1 hW1 h38 hk
  obtain ⟨h2, o2⟩ := h1.live (y := 0) (r' := r) hv k3 k1 k2 (WB.lo hB1 h38 hk) (by omega) (by rw [k5, Int32.add_zero]) (fun _ _ => rfl) (Int32.add_zero _).symm
  refine ⟨M2, ?_, h2, o1.trans o2⟩
  unfold f_X8_lose
  rw [voice_ok hv, xb_s, show (1 : Int32) = nI 1 from rfl, reqQ_ok (m := k + 1) (hV.2.1.1.trans h38) (by omega) (by omega), xb_s, e1, vb_s, e2, cb_s]
theorem lose_3 (h : CI x M n r q b g c t l) (hv : v < 3) (h38 : vo r v 38 = nI 0) : f_X8_lose x (nI v) M = some (3, 0, M) := by
  obtain ⟨hV, hW, hB, hS, hR⟩ := h.rv hv
  unfold f_X8_lose
  rw [voice_ok hv, xb_s, show (1 : Int32) = nI 1 from rfl, reqQ_no (m := 0) (hV.2.1.1.trans h38) (by omega) (by omega), xb_n (by decide)]
theorem lose_1 (hv : p1 < 0 ∨ nI 2 < p1) : f_X8_lose x p1 M = some (1, 0, M) := by
  unfold f_X8_lose
  rw [voice_no hv, xb_n (by decide)]
theorem swap_c {k : Nat} (h : CI x M n r q b g c t l) (hv : v < 3) (h38 : vo r v 38 = nI (k + 2)) (hk : k + 2 ≤ 8) : CR x M (f_X8_swap x (nI v) M) 0 (zSw (vo r v) 39 39) n (pv v r (zSw (vo r v) 39)) q b (svG g c r) (svC c) t l := by
  obtain ⟨hV, hW, hB, hS, hR⟩ := h.rv hv
  obtain ⟨M1, e1, h1, o1⟩ := save_c h
  obtain ⟨hV1, hW1, hB1, hS1, hR1⟩ := h1.rv hv
  obtain ⟨M2, e2, k1, k2, k3, k5⟩ := exch_c hV1 hW1 h38 hk
  obtain ⟨h2, o2⟩ := h1.live (y := 0) (r' := r) hv k3 k1 k2 (WB.sw hB1 h38 hk) (by omega) (by rw [k5, Int32.add_zero]) (fun _ _ => rfl) (Int32.add_zero _).symm
  refine ⟨M2, ?_, h2, o1.trans o2⟩
  unfold f_X8_swap
  rw [voice_ok hv, xb_s, show (2 : Int32) = nI 2 from rfl, reqQ_ok (m := k + 2) (hV.2.1.1.trans h38) (by omega) (by omega), xb_s, e1, vb_s, e2, cb_s]
theorem swap_3 {k : Nat} (h : CI x M n r q b g c t l) (hv : v < 3) (h38 : vo r v 38 = nI k) (hk : k < 2) : f_X8_swap x (nI v) M = some (3, 0, M) := by
  obtain ⟨hV, hW, hB, hS, hR⟩ := h.rv hv
  unfold f_X8_swap
  rw [voice_ok hv, xb_s, show (2 : Int32) = nI 2 from rfl, reqQ_no (m := k) (hV.2.1.1.trans h38) hk (by omega), xb_n (by decide)]
theorem swap_1 (hv : p1 < 0 ∨ nI 2 < p1) : f_X8_swap x p1 M = some (1, 0, M) := by
  unfold f_X8_swap
  rw [voice_no hv, xb_n (by decide)]
/-- the ranges of the settings -/
def seL (v : Nat) : Nat := if v = 0 then 1 else if v = 1 then 0 else 1
def seM (v : Nat) : Nat := if v = 0 then 4 else if v = 1 then 99 else if v = 2 then 8 else 9
theorem rng_c (hv : v < 4) : f_X4_isInRange (nI v) p M = some (if p < nI (seL v) then 0 else if nI (seM v) < p then 0 else 1) := by
  unfold f_X4_isInRange
  rw [if_neg (nI_pos (by omega)), if_neg (show ¬ (4 : Int32) ≤ nI v from nI_ge (b := 4) hv (by decide)), if_neg (show ¬ (4 : Int32) ≤ nI v from nI_ge (b := 4) hv (by decide)), gd_s (nI_ix hv (by decide)), gd_s (nI_ix hv (by decide)), nI_clamp (by omega)]
  have e1 : cLEAST v = nI (seL v) := by
    match v, hv with
    | 0, _ => decide
    | 1, _ => decide
    | 2, _ => decide
    | 3, _ => decide
  have e2 : cMOST v = nI (seM v) := by
    match v, hv with
    | 0, _ => decide
    | 1, _ => decide
    | 2, _ => decide
    | 3, _ => decide
  rw [e1, e2]
  split
  · rfl
  · split <;> rfl
theorem RB.upd {u : Nat} (h : RB r) (hv : v < 4) (h1 : seL v ≤ u) (h2 : u ≤ seM v) : RB (upd r v (nI u)) := by
  obtain ⟨a1, a2, a3, a4⟩ := h
  match v, hv, h1, h2 with
  | 0, _, h1, h2 => exact ⟨⟨u, h1, h2, rfl⟩, a2, a3, a4⟩
  | 1, _, h1, h2 => exact ⟨a1, ⟨u, h2, rfl⟩, a3, a4⟩
  | 2, _, h1, h2 => exact ⟨a1, a2, ⟨u, h1, h2, rfl⟩, a4⟩
  | 3, _, h1, h2 => exact ⟨a1, a2, a3, ⟨u, h1, h2, rfl⟩⟩
theorem set_c {u : Nat} (h : CI x M n r q b g c t l) (hv : v < 4) (h1 : seL v ≤ u) (h2 : u ≤ seM v) : CR x M (f_X8_set x (nI v) (nI u) M) 0 (r v) n (upd r v (nI u)) q b (svG g c r) (svC c) t l := by
  have hu : u < 100 := by
    have : seM v ≤ 99 := by unfold seM; split <;> (try split) <;> (try split) <;> omega
    omega
  obtain ⟨M1, e1, h3, o1⟩ := save_c h
  have hS := h3.1.2.1.1
  have same : ∀ b, b ≠ x + 4 → mI (sI M1 (x + 4) v (nI u)) b = mI M1 b := fun b hb => mI_sn hb
  have hC : CI x (sI M1 (x + 4) v (nI u)) n (upd r v (nI u)) q b (svG g c r) (svC c) t l := by
    obtain ⟨a1, ⟨a2, a3⟩, ⟨a4, a5, a6⟩, ⟨a7, a8⟩, ⟨a9, a10, a11⟩, a12, a13, a14⟩ := h3
    refine ⟨⟨fun w hw => ?_, ⟨fun i hi => ?_, a1.2.1.2.upd hv h1 h2⟩, ?_⟩, ⟨by rw [same _ (by omega)]; exact a2, fun hb => (a3 hb).fr a10 (fun b _ _ => same b (by omega)) fun _ _ _ => rfl⟩, ⟨by rw [same _ (by omega)]; exact a4, a5, fun j hj => ?_⟩, ⟨a7, a8⟩, ⟨a9.fr (fun b _ _ => same b (by omega)) fun _ _ _ => rfl, a10.fr (fun b _ _ => same b (by omega)) fun _ _ _ => rfl, fun i hi => (a11 i hi).fr (fun b _ _ => same b (by omega)) fun _ _ _ => rfl⟩, by rw [same _ (by omega)]; exact a12, a13, fun i hi => by rw [same _ (by omega)]; exact a14 i hi⟩
    · have e : ∀ i, i < 207 → vo r w i = vo (upd r v (nI u)) w i := fun i hi => show r (5 + 207 * w + i) = upd r v (nI u) (5 + 207 * w + i) from (upd_ne (by omega)).symm
      have h4 := a1.1 w hw
      exact ⟨(h4.1.tr (VoEq.same (fun b _ _ => same b (by omega)) rfl (a9 w hw).1)).congr e, h4.2.congr e⟩
    · show mI (sI M1 (x + 4) v (nI u)) (x + 4) i = upd r v (nI u) i
      rw [mI_up]
      unfold upd
      split
      · rfl
      · exact a1.2.1.1 i hi
    · rw [same _ (by omega), same _ (by omega), same _ (by omega), upd_ne (by omega)]
      exact a1.2.2
    · obtain ⟨i, hi, ei⟩ := a7 j (by omega)
      have hw := a11 i hi
      rw [← ei] at hw
      exact (a6 j hj).fr hw (fun b _ _ => same b (by omega)) fun _ _ _ => rfl
  refine ⟨_, ?_, hC, o1.trans ⟨fun b hb => same b (by omega), fun _ _ => rfl, rfl⟩⟩
  have hp : f_X4_put (x + 1 + 2) (nI v) (nI u) M1 = some (sI M1 (x + 4) v (nI u)) := by
    unfold f_X4_put
    rw [if_neg (nI_pos (by omega)), if_neg (show ¬ (4 : Int32) ≤ nI v from nI_ge (b := 4) hv (by decide)), gd_s (nI_ix hv (by decide)), nb_s, nI_clamp (by omega)]
  unfold f_X8_set
  rw [reqT_ok (by omega), xb_s, rng_c hv, vb_s, if_neg (nI_nlt h1 (by omega)), if_neg (nI_nlt h2 (by unfold seM; split <;> (try split) <;> (try split) <;> decide)), if_neg (by decide), e1, vb_s, val_c hS hv, vb_s, hp, vb_s]
theorem set_2 (hv : v < 4) (h : p < nI (seL v) ∨ nI (seM v) < p) : f_X8_set x (nI v) p M = some (2, 0, M) := by
  unfold f_X8_set
  rw [reqT_ok (by omega), xb_s, rng_c hv, vb_s]
  by_cases h0 : p < nI (seL v)
  · rw [if_pos h0, if_pos rfl]
  · rw [if_neg h0, if_pos (h.resolve_left h0), if_pos rfl]
theorem set_1 (hv : p1 < 0 ∨ nI 3 < p1) : f_X8_set x p1 p M = some (1, 0, M) := by
  unfold f_X8_set
  rw [reqT_no hv, xb_n (by decide)]
end CPUB
