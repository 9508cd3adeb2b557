/-! THE CLASS. Bits, numbers, ends -/
theorem and_b (c x : Int32) (i : Nat) (hx : x.toBitVec = BitVec.twoPow 32 i) : c &&& x = 0 ∨ c &&& x = x := by
  have h : (c &&& x).toBitVec = if c.toBitVec.getLsbD i then BitVec.twoPow 32 i else 0#32 := by
    rw [Int32.toBitVec_and, hx, BitVec.and_twoPow]
  by_cases hb : c.toBitVec.getLsbD i = true
  · rw [if_pos hb] at h
    exact Or.inr (Int32.toBitVec_inj.mp (h.trans hx.symm))
  · rw [if_neg hb] at h
    exact Or.inl (Int32.toBitVec_inj.mp h)
theorem an8 (c : Int32) : c &&& 8 ≤ 0 ↔ c &&& 8 = 0 := by rcases and_b c 8 3 (by decide) with h | h <;> rw [h] <;> decide
theorem an4 (c : Int32) : c &&& 4 ≤ 0 ↔ c &&& 4 = 0 := by rcases and_b c 4 2 (by decide) with h | h <;> rw [h] <;> decide
theorem an2 (c : Int32) : c &&& 2 ≤ 0 ↔ c &&& 2 = 0 := by rcases and_b c 2 1 (by decide) with h | h <;> rw [h] <;> decide
theorem an1 (c : Int32) : c &&& 1 ≤ 0 ↔ c &&& 1 = 0 := by rcases and_b c 1 0 (by decide) with h | h <;> rw [h] <;> decide
/-- numbers that stay from -2000 to 2000 -/
def B2 (a : Int32) : Prop := -2000 ≤ a.toInt ∧ a.toInt ≤ 2000
theorem B2_sub {a b : Int32} (ha : B2 a) (hb : B2 b) : (a - b).toInt = a.toInt - b.toInt := by
  obtain ⟨h1, h2⟩ := ha
  obtain ⟨h3, h4⟩ := hb
  rw [Int32.toInt_sub, Int.bmod_eq_of_le_mul_two (by omega) (by omega)]
theorem i0 : (0 : Int32).toInt = 0 := by decide
theorem B2_le {a b : Int32} (ha : B2 a) (hb : B2 b) : 0 ≤ a - b ↔ b ≤ a := by
  rw [Int32.le_iff_toInt_le, Int32.le_iff_toInt_le, B2_sub ha hb, i0]
  omega
theorem B2_0 : B2 0 := by unfold B2; decide
theorem cl_eq {t : Int32} : (if -2000 < (if 2000 < t then 2000 else t) then (if 2000 < t then 2000 else t) else -2000 : Int32) = if t ≤ 2000 then if -2000 ≤ t then t else -2000 else 2000 := by
  by_cases h : 2000 < t
  · rw [if_pos h, if_pos (by decide), if_neg (Int32.not_le.mpr h)]
  · rw [if_neg h, if_pos (Int32.not_lt.mp h)]
    by_cases h2 : -2000 < t
    · rw [if_pos h2, if_pos (Int32.le_of_lt h2)]
    · rw [if_neg h2]
      by_cases h3 : -2000 ≤ t
      · rw [if_pos h3]; exact Int32.le_antisymm h3 (Int32.not_lt.mp h2)
      · rw [if_neg h3]
theorem ci_eq {t : Int32} : (if 0 < (if 24 < t then 24 else t) then (if 24 < t then 24 else t) else 0 : Int32) = zC t := by
  unfold zC
  by_cases h : 24 < t
  · have h0 : 0 ≤ t := Int32.le_of_lt (Int32.lt_trans (by decide) h)
    rw [if_pos h, if_pos (by decide), if_pos h0, if_neg (Int32.not_le.mpr h)]
  · rw [if_neg h]
    by_cases h2 : 0 < t
    · rw [if_pos h2, if_pos (Int32.le_of_lt h2), if_pos (Int32.not_lt.mp h)]
    · rw [if_neg h2]
      by_cases h3 : 0 ≤ t
      · rw [if_pos h3, if_pos (Int32.not_lt.mp h)]; exact Int32.le_antisymm h3 (Int32.not_lt.mp h2)
      · rw [if_neg h3]
theorem zG_B2 {g s c : Int32} : B2 (zG g s c) := by
  have k : ∀ t : Int32, B2 (if t ≤ 2000 then if -2000 ≤ t then t else -2000 else 2000) := by
    intro t
    by_cases h : t ≤ 2000
    · rw [if_pos h]
      by_cases h2 : -2000 ≤ t
      · rw [if_pos h2]
        rw [Int32.le_iff_toInt_le] at h h2
        exact ⟨h2, h⟩
      · rw [if_neg h2]; unfold B2; decide
    · rw [if_neg h]; unfold B2; decide
  exact k _
section CEND
variable {M : Mem} {a b e p k n q : Nat} {g i c x s : Int32} {w f : Nat → Int32}
theorem mI_up : mI (sI M a k x) a = upd (mI M a) k x := by funext j; rw [mI_sI]; unfold upd; simp
theorem mI_sn (h : b ≠ a) : mI (sI M a k x) b = mI M b := by funext j; rw [mI_sI, if_neg (fun q => h q.1)]
theorem sA_sI : sA (sI M a k x) a f = sA M a f := by
  show ((fun b => if b = a then f else if b = a then upd (M.1 b) k x else M.1 b), M.2) = ((fun b => if b = a then f else M.1 b), M.2)
  congr 1
  funext b
  by_cases h : b = a <;> simp [h]
theorem sA_sA : sA (sA M a w) a f = sA M a f := by
  show ((fun b => if b = a then f else if b = a then w else M.1 b), M.2) = ((fun b => if b = a then f else M.1 b), M.2)
  congr 1
  funext b
  by_cases h : b = a <;> simp [h]
theorem dist_c (ha : B2 x) (hb : B2 s) : f_X8_distance x s M = some (zS (x - s)) := by
  unfold f_X8_distance zS
  by_cases h : s ≤ x
  · rw [if_pos h, if_pos ((B2_le ha hb).mpr h)]
  · rw [if_neg h, if_neg (fun q => h ((B2_le ha hb).mp q)), Int32.neg_sub]
/-- an end with a guess and an index -/
def sE (M : Mem) (e : Nat) (q : Int32 × Int32) : Mem := sI (sI M e 0 q.1) e 1 q.2
theorem mI_sE0 {q : Int32 × Int32} : mI (sE M e q) e 0 = q.1 := by simp [sE, mI_sI]
theorem mI_sE1 {q : Int32 × Int32} : mI (sE M e q) e 1 = q.2 := by simp [sE, mI_sI]
theorem mI_sEn {q : Int32 × Int32} (h : b ≠ e) : mI (sE M e q) b = mI M b := by unfold sE; rw [mI_sn h, mI_sn h]
theorem sE_sE {q r : Int32 × Int32} : sE (sE M e q) e r = sE M e r := by
  have h : (sE (sE M e q) e r).1 = (sE M e r).1 := by
    funext b j
    show mI (sE (sE M e q) e r) b j = mI (sE M e r) b j
    unfold sE
    simp only [mI_sI]
    by_cases hb : b = e
    · subst hb
      by_cases h1 : j = 1
      · simp [h1]
      · by_cases h2 : j = 0 <;> simp [h1, h2]
    · simp [hb]
  show ((sE (sE M e q) e r).1, M.2) = ((sE M e r).1, M.2)
  rw [h]
theorem sE_self : sE M e (mI M e 0, mI M e 1) = M := by
  have h : (sE M e (mI M e 0, mI M e 1)).1 = M.1 := by
    funext b j
    show mI (sE M e (mI M e 0, mI M e 1)) b j = mI M b j
    unfold sE
    simp only [mI_sI]
    by_cases hb : b = e
    · subst hb
      by_cases h1 : j = 1
      · simp [h1]
      · by_cases h2 : j = 0 <;> simp [h1, h2]
    · simp [hb]
  show ((sE M e (mI M e 0, mI M e 1)).1, M.2) = M
  rw [h]
theorem ecopy_c : f_X0_copyFrom e a M = some (sE M e (mI M a 0, mI M a 1)) := by
  unfold f_X0_copyFrom sE
  simp only [nb_s]
  by_cases h : a = e
  · subst h; simp [mI_sI]
  · rw [mI_sn h]
theorem step_c (hi : mI M e 1 = nI n) (hn : n < 25) : f_X0_step e M = some (cSTEPS n) := by
  unfold f_X0_step
  rw [hi, if_neg (nI_pos (by omega)), if_neg (show ¬ (25 : Int32) ≤ nI n from nI_ge (b := 25) hn (by decide)), gd_s (nI_ix hn (by decide)), nI_clamp (by omega)]
theorem guess_c : f_X0_guessBehind e c s M = some (zG (mI M e 0) s c) := by
  unfold f_X0_guessBehind f_X0_guessBehind_b15 f_X0_guessBehind_b27 f_X0_guessBehind_b39 f_X0_guessBehind_b61 zG
  simp only [nb_s, cl_eq, an8, an4, an2, an1]
  by_cases h4 : c &&& 4 = 0 <;> by_cases h2 : c &&& 2 = 0 <;> by_cases h1 : c &&& 1 = 0 <;> by_cases h8 : c &&& 8 = 0 <;> simp only [h4, h2, h1, h8, ↓reduceIte, Int32.add_zero]
theorem code_c1 {d : Int32} : f_X0_codeFor_b26 e x s d c M = some (zD s d c) := by
  unfold f_X0_codeFor_b26 f_X0_codeFor_b38 f_X0_codeFor_b54 zD
  simp only [nb_s]
  split <;> split <;> split <;> rfl
theorem code_c (hi : mI M e 1 = nI n) (hn : n < 25) (hx : B2 x) (hg : B2 (mI M e 0)) : f_X0_codeFor e x M = some (zK x (mI M e 0) (cSTEPS n)) := by
  unfold f_X0_codeFor zK zS
  rw [step_c hi hn, vb_s, nb_s, code_c1]
  by_cases h : mI M e 0 ≤ x
  · rw [if_pos ((B2_le hx hg).mpr h), if_pos ((B2_le hx hg).mpr h), if_pos h]
  · rw [if_neg (fun q => h ((B2_le hx hg).mp q)), if_neg (fun q => h ((B2_le hx hg).mp q)), if_neg h, nb_s, code_c1]
/-- what a code does to a guess and an index; many codes -/
def zSt (q : Int32 × Int32) (c : Int32) : Int32 × Int32 := (zG q.1 (cSTEPS q.2.toNatClampNeg) c, zI q.2 c)
def zFl (f : Nat → Int32) : Nat → Int32 × Int32 → Int32 × Int32
  | 0, q => q
  | n + 1, q => zSt (zFl f n q) (f n)
theorem follow_c (hi : mI M e 1 = nI n) (hn : n < 25) : f_X0_follow e c M = some (sE M e (zSt (mI M e 0, mI M e 1) c)) := by
  unfold f_X0_follow f_X0_follow_b32 sE zSt zI
  rw [step_c hi hn, vb_s, guess_c, vb_s]
  simp only [nb_s, ci_eq, hi, nI_clamp (show n < 2 ^ 31 by omega)]
  have h1 : mI (sI M e 0 (zG (mI M e 0) (cSTEPS n) c)) e 1 = nI n := by rw [mI_sI, if_neg (by simp)]; exact hi
  rw [h1]
  by_cases h : 4 ≤ c &&& 7
  · rw [if_pos h, if_pos h]
  · rw [if_neg h, if_neg h, Int32.sub_eq_add_neg]
theorem zSt_i {q : Int32 × Int32} : ∃ m, m < 25 ∧ (zSt q c).2 = nI m := zC_at
theorem zSt_B {q : Int32 × Int32} : B2 (zSt q c).1 := zG_B2
theorem zFl_i {q : Int32 × Int32} (h : ∃ m, m < 25 ∧ q.2 = nI m) : ∃ m, m < 25 ∧ (zFl f k q).2 = nI m := by
  cases k with
  | zero => exact h
  | succ k => exact zSt_i
theorem zFl_B {q : Int32 × Int32} (h : B2 q.1) : B2 (zFl f k q).1 := by
  cases k with
  | zero => exact h
  | succ k => exact zSt_B
theorem zFl_congr {q : Int32 × Int32} (h : ∀ j, j < k → f j = w j) : zFl f k q = zFl w k q := by
  induction k with
  | zero => rfl
  | succ k ih => show zSt (zFl f k q) (f k) = zSt (zFl w k q) (w k); rw [ih fun j hj => h j (by omega), h k (by omega)]
theorem zFl_add {q : Int32 × Int32} {m : Nat} (h1 : ∀ j, j < k → f j = w j) {u : Nat → Int32} (h2 : ∀ j, j < m → f (k + j) = u j) : zFl f (k + m) q = zFl u m (zFl w k q) := by
  induction m with
  | zero => exact zFl_congr h1
  | succ m ih => show zSt (zFl f (k + m) q) (f (k + m)) = zSt (zFl u m (zFl w k q)) (u m); rw [ih fun j hj => h2 j (by omega), h2 m (by omega)]
theorem codeAt_c (hn : n < 8) : f_X2_codeAt p (nI n) M = some (mI M (p + 1) n) := by
  unfold f_X2_codeAt
  rw [if_neg (nI_pos (by omega)), if_neg (show ¬ (8 : Int32) ≤ nI n from nI_ge (b := 8) hn (by decide)), gd_s (nI_ix hn (by decide)), nI_clamp (by omega)]
theorem meanAt_c (hn : n < 8) : f_X2_meanAt p (nI n) M = some (mI M (p + 2) n) := by
  unfold f_X2_meanAt
  rw [if_neg (nI_pos (by omega)), if_neg (show ¬ (8 : Int32) ≤ nI n from nI_ge (b := 8) hn (by decide)), gd_s (nI_ix hn (by decide)), nI_clamp (by omega)]
theorem all_go (h1 : p ≠ e) (h2 : p + 1 ≠ e) (hq : q ≤ 8) (hp : mI M p 2 = nI q) {z : Int32 × Int32} (hz : ∃ m, m < 25 ∧ z.2 = nI m) : ∀ (d j n : Nat), j + d = q → d < n → f_X0_followAll_b2 e p n (nI j) (sE M e (zFl (mI M (p + 1)) j z)) = some (sE M e (zFl (mI M (p + 1)) q z)) := by
  intro d
  induction d with
  | zero =>
    intro j n hj hn
    obtain ⟨n, rfl⟩ : ∃ k, n = k + 1 := ⟨n - 1, by omega⟩
    have hj : j = q := by omega
    subst hj
    unfold f_X0_followAll_b2
    rw [mI_sEn h1, hp, if_pos (nI_le (Nat.le_refl _) (by omega))]
  | succ d ih =>
    intro j n hj hn
    obtain ⟨n, rfl⟩ : ∃ k, n = k + 1 := ⟨n - 1, by omega⟩
    obtain ⟨m, hm1, hm2⟩ := zFl_i (f := mI M (p + 1)) (k := j) hz
    rw [f_X0_followAll_b2, mI_sEn h1, hp, if_neg (nI_ge (by omega) (by omega)), codeAt_c (by omega), vb_s, mI_sEn h2, follow_c (n := m) (by rw [mI_sE1]; exact hm2) hm1, vb_s, nb_s, ← nI_succ, sE_sE, mI_sE0, mI_sE1]
    exact ih (j + 1) n (by omega) (by omega)
theorem all_c (h1 : p ≠ e) (h2 : p + 1 ≠ e) (hq : q ≤ 8) (hp : mI M p 2 = nI q) (hz : ∃ m, m < 25 ∧ mI M e 1 = nI m) : f_X0_followAll e p M = some (sE M e (zFl (mI M (p + 1)) q (mI M e 0, mI M e 1))) := by
  have h := all_go (M := M) h1 h2 hq hp (z := (mI M e 0, mI M e 1)) hz q 0 lfuel (by omega) (by unfold lfuel; omega)
  unfold f_X0_followAll
  rw [show zFl (mI M (p + 1)) 0 (mI M e 0, mI M e 1) = (mI M e 0, mI M e 1) from rfl, sE_self] at h
  exact h
theorem isAt_c {g1 i1 : Int32} : f_X0_isAt e g1 i1 M = some (if mI M e 0 = g1 ∧ mI M e 1 = i1 then 1 else 0) := by
  unfold f_X0_isAt
  by_cases h1 : mI M e 0 = g1
  · by_cases h2 : mI M e 1 = i1
    · rw [if_pos h1, if_pos h2, if_pos ⟨h1, h2⟩]
    · rw [if_pos h1, if_neg h2, if_neg (fun q => h2 q.2)]
  · rw [if_neg h1, if_neg (fun q => h1 q.1)]
/-- the nearest code: of a distance f, from j on, the best so far -/
def zNr (f : Nat → Int32) : Nat → Nat → Nat → Nat
  | 0, _, t => t
  | d + 1, j, t => zNr f d (j + 1) (if f t ≤ f j then t else j)
def zFar (g s x : Int32) (j : Nat) : Int32 := zS (zG g s (nI j) - x)
theorem near_go (hi : mI M e 1 = nI n) (hn : n < 25) (hx : B2 x) : ∀ (d j t m : Nat), j + d = 16 → t < 16 → d < m → f_X0_nearestCodeFor_b19 e x m (nI t) (zFar (mI M e 0) (cSTEPS n) x t) (nI j) M = some (nI (zNr (zFar (mI M e 0) (cSTEPS n) x) d j t)) := by
  intro d
  induction d with
  | zero =>
    intro j t m hj ht hm
    obtain ⟨m, rfl⟩ : ∃ k, m = k + 1 := ⟨m - 1, by omega⟩
    have hj : j = 16 := by omega
    subst hj
    unfold f_X0_nearestCodeFor_b19 zNr
    rw [if_pos (show (16 : Int32) ≤ nI 16 by decide)]
  | succ d ih =>
    intro j t m hj ht hm
    obtain ⟨m, rfl⟩ : ∃ k, m = k + 1 := ⟨m - 1, by omega⟩
    rw [f_X0_nearestCodeFor_b19, if_neg (show ¬ (16 : Int32) ≤ nI j from nI_ge (b := 16) (by omega) (by decide)), step_c hi hn, vb_s, guess_c, vb_s, dist_c zG_B2 hx, vb_s]
    unfold f_X0_nearestCodeFor_b54
    simp only [nb_s]
    rw [← nI_succ]
    show (if zFar (mI M e 0) (cSTEPS n) x t ≤ zFar (mI M e 0) (cSTEPS n) x j then _ else f_X0_nearestCodeFor_b19 e x m (nI j) (zFar (mI M e 0) (cSTEPS n) x j) (nI (j + 1)) M) = _
    unfold zNr
    by_cases h : zFar (mI M e 0) (cSTEPS n) x t ≤ zFar (mI M e 0) (cSTEPS n) x j
    · rw [if_pos h, if_pos h]; exact ih (j + 1) t m (by omega) ht (by omega)
    · rw [if_neg h, if_neg h]; exact ih (j + 1) j m (by omega) (by omega) (by omega)
theorem near_c (hi : mI M e 1 = nI n) (hn : n < 25) (hx : B2 x) : f_X0_nearestCodeFor e x M = some (nI (zNr (zFar (mI M e 0) (cSTEPS n) x) 15 1 0)) := by
  unfold f_X0_nearestCodeFor
  rw [step_c hi hn, vb_s, guess_c, vb_s, dist_c zG_B2 hx, vb_s]
  exact near_go hi hn hx 15 1 0 lfuel rfl (by decide) (by decide)
end CEND
