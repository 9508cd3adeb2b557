/-! THE PURE PART. Rows of the reference as functions; a voice's part of the row -/
/-- a memory with another row of ints at an address -/
def sA (M : Mem) (a : Nat) (f : Nat → Int32) : Mem := (fun b => if b = a then f else M.1 b, M.2)
theorem sA_eq (M : Mem) (a : Nat) : sA M a (mI M a) = M := by
  have h : (fun b => if b = a then mI M a else M.1 b) = M.1 := by
    funext b
    by_cases hb : b = a
    · subst hb; simp; rfl
    · simp [hb]
  show ((fun b => if b = a then mI M a else M.1 b), M.2) = M
  rw [h]
theorem mI_sA {M : Mem} {a : Nat} {f : Nat → Int32} : mI (sA M a f) a = f := by funext j; simp [mI, sA]
theorem mI_sAn {M : Mem} {a b : Nat} {f : Nat → Int32} (h : b ≠ a) : mI (sA M a f) b = mI M b := by funext j; simp [mI, sA, h]
theorem mR_sA {M : Mem} {a b j : Nat} {f : Nat → Int32} : mR (sA M a f) b j = mR M b j := rfl
theorem mJ_sA {M : Mem} {a b : Nat} {f : Nat → Int32} : mJ (sA M a f) b = mJ M b := rfl
theorem mD_sA {M : Mem} {a b : Nat} {f : Nat → Int32} : mD (sA M a f) b = mD M b := rfl
theorem sI_sA {M : Mem} {a k : Nat} {f : Nat → Int32} {x : Int32} : sI (sA M a f) a k x = sA M a (upd f k x) := by
  show ((fun b => if b = a then upd (if b = a then f else M.1 b) k x else (if b = a then f else M.1 b)), M.2) = _
  have h : (fun b => if b = a then upd (if b = a then f else M.1 b) k x else (if b = a then f else M.1 b)) = fun b => if b = a then upd f k x else M.1 b := by
    funext b
    by_cases hb : b = a <;> simp [hb]
  rw [h]
  rfl
theorem sI_sAn {M : Mem} {a b k : Nat} {f : Nat → Int32} {x : Int32} (h : b ≠ a) : sI (sA M a f) b k x = sA (sI M b k x) a f := by
  show ((fun c => if c = b then upd (if c = a then f else M.1 c) k x else (if c = a then f else M.1 c)), M.2) = ((fun c => if c = a then f else if c = b then upd (M.1 c) k x else M.1 c), M.2)
  congr 1
  funext c
  by_cases hc : c = a
  · subst hc
    simp [Ne.symm h]
  · simp [hc]
/-- a voice's part of a row -/
def pv (v : Nat) (r w : Nat → Int32) : Nat → Int32 := fun i => if 5 + 207 * v ≤ i ∧ i < 5 + 207 * v + 207 then w (i - (5 + 207 * v)) else r i
theorem pv_at {v k : Nat} {r w : Nat → Int32} (hk : k < 207) : pv v r w (5 + 207 * v + k) = w k := by
  unfold pv
  rw [if_pos (by omega), Nat.add_sub_cancel_left]
theorem pv_lo {v i : Nat} {r w : Nat → Int32} (hi : i < 5) : pv v r w i = r i := by
  unfold pv
  rw [if_neg (by omega)]
theorem pv_upd {v k : Nat} {r w : Nat → Int32} {x : Int32} (hk : k < 207) : upd (pv v r w) (5 + 207 * v + k) x = pv v r (upd w k x) := by
  funext i
  unfold upd pv
  by_cases h1 : i = 5 + 207 * v + k
  · subst h1
    simp [hk, Nat.add_sub_cancel_left]
  · by_cases h2 : 5 + 207 * v ≤ i ∧ i < 5 + 207 * v + 207
    · simp only [if_neg h1, if_pos h2]
      rw [if_neg (by omega)]
    · simp only [if_neg h1, if_neg h2]
theorem pv_up0 {v i : Nat} {r w : Nat → Int32} {x : Int32} (hi : i < 5) : upd (pv v r w) i x = pv v (upd r i x) w := by
  funext j
  unfold upd pv
  by_cases h1 : j = i
  · subst h1
    simp only [if_true]
    rw [if_neg (by omega)]
  · simp only [if_neg h1]
theorem pv_id (v : Nat) (r : Nat → Int32) : pv v r (fun k => r (5 + 207 * v + k)) = r := by
  funext i
  unfold pv
  by_cases h : 5 + 207 * v ≤ i ∧ i < 5 + 207 * v + 207
  · rw [if_pos h]
    show r _ = r i
    congr 1
    omega
  · rw [if_neg h]
theorem zA {a b : Nat} : nI a + nI b = nI (a + b) := (Int32.ofNat_add a b).symm
theorem zM {a b : Nat} : nI a * nI b = nI (a * b) := (Int32.ofNat_mul a b).symm
theorem nI_ix {a n : Nat} (h : a < n) (hn : n < 100000) : ix (nI a) n := by
  rintro (h1 | h1)
  · exact nI_pos (n := a) (by omega) h1
  · rw [nI_clamp (by omega)] at h1
    omega
theorem vx_eq {v k : Nat} {p : Int32} (hp : p = nI k) : ((5 : Int32) + (207 : Int32) * nI v) + p = nI (5 + 207 * v + k) := by
  subst hp
  rw [show (5 : Int32) = nI 5 from rfl, show (207 : Int32) = nI 207 from rfl, zM, zA, zA]
theorem upd_at {f : Nat → Int32} {k j : Nat} {x : Int32} : upd f k x j = if j = k then x else f j := rfl
section VOICE
variable {M : Mem} {mo v k : Nat} {r w : Nat → Int32} {p x : Int32}
theorem of_v (hp : p = nI k) (hv : v < 3) (hk : k < 207) : f_X9_of mo (nI v) p (sA M (mo + 1) (pv v r w)) = some (w k) := by
  unfold f_X9_of
  rw [vx_eq hp, gd_s (nI_ix (by omega) (by omega)), mI_sA, nI_clamp (by omega), pv_at hk]
theorem put_v (hp : p = nI k) (hv : v < 3) (hk : k < 207) : f_X9_put mo (nI v) p x (sA M (mo + 1) (pv v r w)) = some (sA M (mo + 1) (pv v r (upd w k x))) := by
  unfold f_X9_put
  rw [vx_eq hp, gd_s (nI_ix (by omega) (by omega)), nb_s, nI_clamp (by omega), sI_sA, pv_upd hk]
theorem add_v (hp : p = nI k) (hv : v < 3) (hk : k < 207) : f_X9_add mo (nI v) p x (sA M (mo + 1) (pv v r w)) = some (sA M (mo + 1) (pv v r (upd w k (w k + x)))) := by
  unfold f_X9_add
  rw [vx_eq hp, gd_s (nI_ix (by omega) (by omega)), gd_s (nI_ix (by omega) (by omega)), nb_s, nI_clamp (by omega), sI_sA, mI_sA, pv_at hk, pv_upd hk]
theorem of_l (k : Nat) (hv : v < 3) (hk : k < 207) : f_X9_of mo (nI v) (OfNat.ofNat k) (sA M (mo + 1) (pv v r w)) = some (w k) := of_v rfl hv hk
theorem put_l (k : Nat) (hv : v < 3) (hk : k < 207) : f_X9_put mo (nI v) (OfNat.ofNat k) x (sA M (mo + 1) (pv v r w)) = some (sA M (mo + 1) (pv v r (upd w k x))) := put_v rfl hv hk
theorem add_l (k : Nat) (hv : v < 3) (hk : k < 207) : f_X9_add mo (nI v) (OfNat.ofNat k) x (sA M (mo + 1) (pv v r w)) = some (sA M (mo + 1) (pv v r (upd w k (w k + x)))) := add_v rfl hv hk
end VOICE
/-- the sizes, the guess and index behind a code -/
def zS (a : Int32) : Int32 := if 0 ≤ a then a else -a
theorem size_v {p : Int32} {M : Mem} : f_X9_size p M = some (zS p) := by
  unfold f_X9_size zS
  split <;> rfl
def zC (t : Int32) : Int32 := if 0 ≤ t then if t ≤ 24 then t else 24 else 0
def zI (i c : Int32) : Int32 := zC (if 4 ≤ c &&& 7 then i + 2 * ((c &&& 7) - 3) else i - 1)
theorem index_v1 {i c t : Int32} {M : Mem} : f_X9_indexBehind_b23 i c t M = some (zC t) := by
  unfold f_X9_indexBehind_b23 zC
  split
  · split <;> rfl
  · rfl
theorem index_v {i c : Int32} {M : Mem} : f_X9_indexBehind i c M = some (zI i c) := by
  unfold f_X9_indexBehind zI
  rw [nb_s]
  split <;> exact index_v1
/-- the guess behind a code at a step -/
def zG (g s c : Int32) : Int32 := let d := s / 8 + (if c &&& 4 ≤ 0 then 0 else s) + (if c &&& 2 ≤ 0 then 0 else s / 2) + (if c &&& 1 ≤ 0 then 0 else s / 4)
  let t := if c &&& 8 ≤ 0 then g + d else g - d
  if t ≤ 2000 then if -2000 ≤ t then t else -2000 else 2000
theorem guess_v {mo n : Nat} {g i c : Int32} {M : Mem} (hi : i = nI n) (hn : n < 25) : f_X9_guessBehind mo g i c M = some (zG g (mI M (mo + 5) n) c) := by
  subst hi
  unfold f_X9_guessBehind
  rw [gd_s (nI_ix hn (by decide)), nb_s, nI_clamp (by omega)]
  unfold f_X9_guessBehind_b25 f_X9_guessBehind_b40 f_X9_guessBehind_b55 f_X9_guessBehind_b76 zG
  simp only [nb_s]
  split <;> split <;> split <;> split <;> split <;> first | rfl | (split <;> rfl)
section VOICE2
variable {M : Mem} {mo v k n : Nat} {r w : Nat → Int32} {p x c : Int32}
/-- what a code does to a guess and an index of a voice -/
def zF (T w : Nat → Int32) (e : Nat) (c : Int32) : Nat → Int32 := upd (upd w e (zG (w e) (T (w (e + 1)).toNatClampNeg) c)) (e + 1) (zI (w (e + 1)) c)
theorem follow_v {e : Nat} (hp : p = nI e) (hv : v < 3) (he : e < 206) (hi : w (e + 1) = nI n) (hn : n < 25) : f_X9_follow mo (nI v) p c (sA M (mo + 1) (pv v r w)) = some (sA M (mo + 1) (pv v r (zF (mI M (mo + 5)) w e c))) := by
  have hp1 : p + 1 = nI (e + 1) := by rw [hp]; exact zA
  unfold f_X9_follow
  rw [of_v hp1 hv (by omega), vb_s, of_v hp hv (by omega), vb_s, guess_v hi hn, vb_s, put_v hp hv (by omega), vb_s, index_v, vb_s, put_v hp1 hv (by omega), vb_s, mI_sAn (by omega)]
  unfold zF
  rw [hi, nI_clamp (by omega)]
/-- what a heard code does -/
def zH (T w : Nat → Int32) (c m : Int32) : Nat → Int32 :=
  let f := zF T w 26 c
  let e := zS (f 26 - m)
  let a := upd (upd (upd f 29 (f 29 + 1)) 33 (f 33 + e)) 35 (f 35 + f 26)
  upd a 34 (if e ≤ f 34 then f 34 else e)
theorem hear_v {m : Int32} (hv : v < 3) (hi : w 27 = nI n) (hn : n < 25) : f_X9_hear mo (nI v) c m (sA M (mo + 1) (pv v r w)) = some (sA M (mo + 1) (pv v r (zH (mI M (mo + 5)) w c m))) := by
  unfold f_X9_hear
  rw [follow_v (p := 26) (e := 26) rfl hv (by decide) hi hn, vb_s, of_l 26 hv (by decide), vb_s, size_v, vb_s, add_l 29 hv (by decide), vb_s, add_l 33 hv (by decide), vb_s, add_l 35 hv (by decide), vb_s, of_l 34 hv (by decide), vb_s]
  simp only [vb_s, f_X9_hear_b80, zH, upd_at, Nat.reduceEqDiff, ↓reduceIte]
  by_cases h : zS (zF (mI M (mo + 5)) w 26 c 26 - m) ≤ zF (mI M (mo + 5)) w 26 c 34
  · rw [if_pos h, if_pos h, put_l 34 hv (by decide), vb_s]
  · rw [if_neg h, if_neg h, put_l 34 hv (by decide), vb_s]
end VOICE2
