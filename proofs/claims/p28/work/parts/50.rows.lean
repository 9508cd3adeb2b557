/-! THE PURE PART. Rows of the reference as functions; a voice's part of the row -/
theorem sA_eq (M : Mem) (a : Nat) : sA M a (mI M a) = M := by
  have h : (fun b => if b = a then mI M a else M.1 b) = M.1 := by
    funext b
    by_cases hb : b = a
    · subst hb; simp; rfl
    · simp [hb]
  show ((fun b => if b = a then mI M a else M.1 b), M.2) = M
  rw [h]
theorem mI_sA {M : Mem} {a : Nat} {f : Nat → Int32} : mI (sA M a f) a = f := by funext j; simp [mI, sA]
theorem mI_sAn {M : Mem} {a b : Nat} {f : Nat → Int32} (h : b ≠ a) : mI (sA M a f) b = mI M b := by funext j; simp [mI, sA, h]
theorem mR_sA {M : Mem} {a b j : Nat} {f : Nat → Int32} : mR (sA M a f) b j = mR M b j := rfl
theorem mJ_sA {M : Mem} {a b : Nat} {f : Nat → Int32} : mJ (sA M a f) b = mJ M b := rfl
theorem mD_sA {M : Mem} {a b : Nat} {f : Nat → Int32} : mD (sA M a f) b = mD M b := rfl
theorem sI_sA {M : Mem} {a k : Nat} {f : Nat → Int32} {x : Int32} : sI (sA M a f) a k x = sA M a (upd f k x) := by
  show ((fun b => if b = a then upd (if b = a then f else M.1 b) k x else (if b = a then f else M.1 b)), M.2) = _
  have h : (fun b => if b = a then upd (if b = a then f else M.1 b) k x else (if b = a then f else M.1 b)) = fun b => if b = a then upd f k x else M.1 b := by
    funext b
    by_cases hb : b = a <;> simp [hb]
  rw [h]
  rfl
theorem sI_sAn {M : Mem} {a b k : Nat} {f : Nat → Int32} {x : Int32} (h : b ≠ a) : sI (sA M a f) b k x = sA (sI M b k x) a f := by
  show ((fun c => if c = b then upd (if c = a then f else M.1 c) k x else (if c = a then f else M.1 c)), M.2) = ((fun c => if c = a then f else if c = b then upd (M.1 c) k x else M.1 c), M.2)
  congr 1
  funext c
  by_cases hc : c = a
  · subst hc
    simp [Ne.symm h]
  · simp [hc]
/-- a voice's part of a row -/
def pv (v : Nat) (r w : Nat → Int32) : Nat → Int32 := fun i => if 5 + 207 * v ≤ i ∧ i < 5 + 207 * v + 207 then w (i - (5 + 207 * v)) else r i
theorem pv_at {v k : Nat} {r w : Nat → Int32} (hk : k < 207) : pv v r w (5 + 207 * v + k) = w k := by
  unfold pv
  rw [if_pos (by omega), Nat.add_sub_cancel_left]
theorem pv_lo {v i : Nat} {r w : Nat → Int32} (hi : i < 5) : pv v r w i = r i := by
  unfold pv
  rw [if_neg (by omega)]
theorem pv_upd {v k : Nat} {r w : Nat → Int32} {x : Int32} (hk : k < 207) : upd (pv v r w) (5 + 207 * v + k) x = pv v r (upd w k x) := by
  funext i
  unfold upd pv
  by_cases h1 : i = 5 + 207 * v + k
  · subst h1
    simp [hk, Nat.add_sub_cancel_left]
  · by_cases h2 : 5 + 207 * v ≤ i ∧ i < 5 + 207 * v + 207
    · simp only [if_neg h1, if_pos h2]
      rw [if_neg (by omega)]
    · simp only [if_neg h1, if_neg h2]
theorem pv_up0 {v i : Nat} {r w : Nat → Int32} {x : Int32} (hi : i < 5) : upd (pv v r w) i x = pv v (upd r i x) w := by
  funext j
  unfold upd pv
  by_cases h1 : j = i
  · subst h1
    simp only [if_true]
    rw [if_neg (by omega)]
  · simp only [if_neg h1]
theorem pv_id (v : Nat) (r : Nat → Int32) : pv v r (fun k => r (5 + 207 * v + k)) = r := by
  funext i
  unfold pv
  by_cases h : 5 + 207 * v ≤ i ∧ i < 5 + 207 * v + 207
  · rw [if_pos h]
    show r _ = r i
    congr 1
    omega
  · rw [if_neg h]
theorem zA {a b : Nat} : nI a + nI b = nI (a + b) := (Int32.ofNat_add a b).symm
theorem zM {a b : Nat} : nI a * nI b = nI (a * b) := (Int32.ofNat_mul a b).symm
theorem nI_ix {a n : Nat} (h : a < n) (hn : n < 100000) : ix (nI a) n := by
  rintro (h1 | h1)
  · exact nI_pos (n := a) (by omega) h1
  · rw [nI_clamp (by omega)] at h1
    omega
theorem vx_eq {v k : Nat} {p : Int32} (hp : p = nI k) : ((5 : Int32) + (207 : Int32) * nI v) + p = nI (5 + 207 * v + k) := by
  subst hp
  rw [show (5 : Int32) = nI 5 from rfl, show (207 : Int32) = nI 207 from rfl, zM, zA, zA]
theorem upd_at {f : Nat → Int32} {k j : Nat} {x : Int32} : upd f k x j = if j = k then x else f j := rfl
section VOICE
variable {M : Mem} {mo v k : Nat} {r w : Nat → Int32} {p x : Int32}
end VOICE
/-- the sizes, the guess and index behind a code -/
def zS (a : Int32) : Int32 := if 0 ≤ a then a else -a
def zC (t : Int32) : Int32 := if 0 ≤ t then if t ≤ 24 then t else 24 else 0
def zI (i c : Int32) : Int32 := zC (if 4 ≤ c &&& 7 then i + 2 * ((c &&& 7) - 3) else i - 1)
/-- the guess behind a code at a step -/
def zG (g s c : Int32) : Int32 := let d := s / 8 + (if c &&& 4 ≤ 0 then 0 else s) + (if c &&& 2 ≤ 0 then 0 else s / 2) + (if c &&& 1 ≤ 0 then 0 else s / 4)
  let t := if c &&& 8 ≤ 0 then g + d else g - d
  if t ≤ 2000 then if -2000 ≤ t then t else -2000 else 2000
section VOICE2
variable {M : Mem} {mo v k n : Nat} {r w : Nat → Int32} {p x c : Int32}
/-- what a code does to a guess and an index of a voice -/
def zF (T w : Nat → Int32) (e : Nat) (c : Int32) : Nat → Int32 := upd (upd w e (zG (w e) (T (w (e + 1)).toNatClampNeg) c)) (e + 1) (zI (w (e + 1)) c)
/-- what a heard code does -/
def zH (T w : Nat → Int32) (c m : Int32) : Nat → Int32 :=
  let f := zF T w 26 c
  let e := zS (f 26 - m)
  let a := upd (upd (upd f 29 (f 29 + 1)) 33 (f 33 + e)) 35 (f 35 + f 26)
  upd a 34 (if e ≤ f 34 then f 34 else e)
end VOICE2
/-! the reference's deeds on a voice's part of the row -/
section MODEL
variable {M : Mem} {mo v n q : Nat} {r w T : Nat → Int32} {p x c : Int32}
/-- the head of the row: settings and SAID -/
theorem hd_ix {k : Nat} (hk : k < 5) : ix (no_index (OfNat.ofNat k) : Int32) 626 := nI_ix (a := k) (by omega) (by decide)
theorem hd_get {k : Nat} (hk : k < 5) : mI (sA M (mo + 1) (pv v r w)) (mo + 1) (no_index (OfNat.ofNat k) : Int32).toNatClampNeg = r k := by
  rw [mI_sA, show (OfNat.ofNat k : Int32).toNatClampNeg = k from nI_clamp (n := k) (by omega), pv_lo hk]
theorem hd_put {k : Nat} (hk : k < 5) : sI (sA M (mo + 1) (pv v r w)) (mo + 1) (no_index (OfNat.ofNat k) : Int32).toNatClampNeg x = sA M (mo + 1) (pv v (upd r k x) w) := by
  rw [show (OfNat.ofNat k : Int32).toNatClampNeg = k from nI_clamp (n := k) (by omega), sI_sA, pv_up0 hk]
def zMk (r w : Nat → Int32) : Int32 := if w 2 + 1 < r 0 then 0 else 1
def zCS (r w : Nat → Int32) : Int32 := if w 38 < 8 then 1 else if r 2 ≤ w 4 + zMk r w then 0 else 1
/-- the code of a sample by a guess and a step -/
def zD (s d : Int32) (b : Int32) : Int32 :=
  let d1 := if d < s then d else d - s
  let b1 := if d < s then b else b + 4
  let d2 := if d1 < s / 2 then d1 else d1 - s / 2
  let b2 := if d1 < s / 2 then b1 else b1 + 2
  if d2 < s / 4 then b2 else b2 + 1
def zK (x g s : Int32) : Int32 := zD s (zS (x - g)) (if g ≤ x then 0 else 8)
/-- the mean of what was gathered, held against the gate -/
def zMean (r w : Nat → Int32) : Int32 := if r 1 ≤ zS (w 3 / w 2) then w 3 / w 2 else 0
/-- a code is made of a mean m -/
def zMC1 (T w : Nat → Int32) (m : Int32) : Int32 := zK m (w 0) (T (w 1).toNatClampNeg)
def zMC (T w : Nat → Int32) (m : Int32) : Nat → Int32 :=
  let a := upd (upd w 3 0) 2 0
  let b := if w 4 = 0 then upd (upd a 24 (w 0)) 25 (w 1) else a
  let d := upd (upd (upd b (5 + (w 4).toNatClampNeg) (zMC1 T w m)) (13 + (w 4).toNatClampNeg) m) 4 (w 4 + 1)
  zF T (upd d 22 (d 22 + 1)) 0 (zMC1 T w m)
theorem upd_ne {f : Nat → Int32} {k j : Nat} {x : Int32} (h : j ≠ k) : upd f k x j = f j := if_neg h
theorem upd_eq {f : Nat → Int32} {k : Nat} {x : Int32} : upd f k x k = x := if_pos rfl
/-- codes and means go to the packet at b, and are cleared -/
def zCp (w : Nat → Int32) (b j : Nat) : Nat → Int32 := fun i => if b + j ≤ i ∧ i < b + 16 then w (i - b + 5) else if 5 + j ≤ i ∧ i < 21 then 0 else w i
theorem zCp_16 {b : Nat} : zCp w b 16 = w := by
  funext i
  unfold zCp
  rw [if_neg (by omega), if_neg (by omega)]
theorem zCp_step {b j : Nat} (hb : 21 ≤ b) (hj : j < 16) : zCp (upd (upd w (b + j) (w (5 + j))) (5 + j) 0) b (j + 1) = zCp w b j := by
  funext i
  unfold zCp upd
  by_cases h1 : b + j ≤ i ∧ i < b + 16
  · rw [if_pos h1]
    by_cases h2 : i = b + j
    · subst h2
      rw [if_neg (by omega), if_neg (by omega)]
      simp only [if_neg (show ¬ b + j = 5 + j by omega), ↓reduceIte]
      congr 1
      omega
    · rw [if_pos (by omega)]
      simp only [if_neg (show ¬ i - b + 5 = 5 + j by omega), if_neg (show ¬ i - b + 5 = b + j by omega)]
  · rw [if_neg h1, if_neg (by omega)]
    by_cases h3 : 5 + j ≤ i ∧ i < 21
    · rw [if_pos h3]
      by_cases h4 : i = 5 + j
      · rw [if_neg (by omega)]
        simp only [if_pos h4]
      · rw [if_pos (by omega)]
    · rw [if_neg h3, if_neg (by omega)]
      simp only [if_neg (show ¬ i = 5 + j by omega), if_neg (show ¬ i = b + j by omega)]
theorem row_put {k : Nat} (hp : p = nI (5 + 207 * v + k)) (hv : v < 3) (hk : k < 207) : sI (sA M (mo + 1) (pv v r w)) (mo + 1) p.toNatClampNeg x = sA M (mo + 1) (pv v r (upd w k x)) := by
  rw [hp, nI_clamp (by omega), sI_sA, pv_upd hk]
theorem row_get {k : Nat} (hp : p = nI (5 + 207 * v + k)) (hv : v < 3) (hk : k < 207) : mI (sA M (mo + 1) (pv v r w)) (mo + 1) p.toNatClampNeg = w k := by
  rw [hp, nI_clamp (by omega), mI_sA, pv_at hk]
theorem row_ix {k : Nat} (hp : p = nI (5 + 207 * v + k)) (hv : v < 3) (hk : k < 207) : ix p 626 := by
  rw [hp]
  exact nI_ix (by omega) (by decide)
/-- what follows the copying in makePacket -/
def zMT (w : Nat → Int32) (h : Int32) : Nat → Int32 :=
  let a := upd w 23 (if h = 0 then w 23 + 1 else 0)
  let b := upd a 4 0
  let c := upd b 21 (b 21 + 1)
  upd c 38 (c 38 + 1)
end MODEL
/-! the reference's packets; what saying does -/
section MODEL2
variable {M : Mem} {mo v n q : Nat} {r w T : Nat → Int32} {p x c : Int32}
theorem at_add {k c : Nat} : nI (5 + 207 * v + k) + (no_index (OfNat.ofNat c) : Int32) = nI (5 + 207 * v + (k + c)) := by
  rw [show (OfNat.ofNat c : Int32) = nI c from rfl, zA, Nat.add_assoc]
def zMP1 (w : Nat → Int32) (q : Nat) (h : Int32) : Nat → Int32 := upd (upd (upd (upd (upd w (39 + 21 * q + 0) (w 21)) (39 + 21 * q + 1) (w 4)) (39 + 21 * q + 2) (if h = 0 then 0 else 1)) (39 + 21 * q + 3) (if h = 0 then -10000 else w 24)) (39 + 21 * q + 4) (if h = 0 then -10000 else w 25)
def zMPh (w : Nat → Int32) (q : Nat) (h : Int32) : Nat → Int32 := zMT (zCp (zMP1 w q h) (39 + 21 * q + 5) 0) h
/-- whether a packet gets a head -/
def zHas (r w : Nat → Int32) : Int32 := if w 21 = 0 then 1 else if w 23 + 1 < r 3 then 0 else 1
def zMP (r w : Nat → Int32) : Nat → Int32 := zMPh w (w 38).toNatClampNeg (zHas r w)
/-- saying: gathering first -/
def zGa (w : Nat → Int32) (x : Int32) : Nat → Int32 := upd (upd w 3 (w 3 + x)) 2 (w 2 + 1)
theorem zMC_at {m : Int32} {k q4 : Nat} (hc : w 4 = nI q4) (hq : q4 < 8) (hk : 26 ≤ k) : zMC T w m k = w k := by
  have e2 : (w 4).toNatClampNeg = q4 := by rw [hc, nI_clamp (by omega)]
  unfold zMC zF
  rw [e2]
  by_cases h : w 4 = 0
  · simp only [if_pos h]
    rw [upd_ne (by omega), upd_ne (by omega), upd_ne (by omega), upd_ne (by omega), upd_ne (by omega), upd_ne (by omega), upd_ne (by omega), upd_ne (by omega), upd_ne (by omega), upd_ne (by omega)]
  · simp only [if_neg h]
    rw [upd_ne (by omega), upd_ne (by omega), upd_ne (by omega), upd_ne (by omega), upd_ne (by omega), upd_ne (by omega), upd_ne (by omega), upd_ne (by omega)]
/-- a full packet is closed -/
def zCl (r w : Nat → Int32) : Nat → Int32 := if w 4 < r 2 then w else zMP r w
/-- a voice behind a sample; the code told -/
def zSayW (T r w : Nat → Int32) (x : Int32) : Nat → Int32 := if zMk r w = 0 then zGa w x else zMC T (zGa w x) (zMean r (zGa w x))
def zSayC (T r w : Nat → Int32) (x : Int32) : Int32 := if zMk r w = 0 then -10000 else zMC1 T (zGa w x) (zMean r (zGa w x))
def zSaid (r : Nat → Int32) : Nat → Int32 := upd r 4 (r 4 + 1)
/-- the first packet goes off the wire: those behind it move up -/
def zMv (w : Nat → Int32) (j e : Nat) : Nat → Int32 := fun i => if j ≤ i ∧ i < e then w (i + 21) else w i
theorem zMv_e {e : Nat} : zMv w e e = w := by
  funext i
  unfold zMv
  rw [if_neg (by omega)]
theorem zMv_step {j e : Nat} (hj : j < e) : zMv (upd w j (w (j + 21))) (j + 1) e = zMv w j e := by
  funext i
  unfold zMv upd
  by_cases h1 : i = j
  · subst h1
    rw [if_neg (by omega), if_pos (by omega)]
    exact (if_pos ⟨Nat.le_refl _, hj⟩).symm
  · by_cases h2 : j ≤ i ∧ i < e
    · rw [if_pos (by omega), if_pos h2]
      simp only [if_neg (show ¬ i + 21 = j by omega)]
    · rw [if_neg (by omega), if_neg h2]
      simp only [if_neg h1]
def zZr (w : Nat → Int32) (j e : Nat) : Nat → Int32 := fun i => if j ≤ i ∧ i < e then 0 else w i
theorem zZr_e {e : Nat} : zZr w e e = w := by
  funext i
  unfold zZr
  rw [if_neg (by omega)]
theorem zZr_step {j e : Nat} (hj : j < e) : zZr (upd w j 0) (j + 1) e = zZr w j e := by
  funext i
  unfold zZr upd
  by_cases h1 : i = j
  · subst h1
    rw [if_neg (by omega), if_pos (by omega)]
    exact (if_pos ⟨Nat.le_refl _, hj⟩).symm
  · by_cases h2 : j ≤ i ∧ i < e
    · rw [if_pos (by omega), if_pos h2]
    · rw [if_neg (by omega), if_neg h2]
      simp only [if_neg h1]
/-- the wire without its first packet; q more wait than before -/
def zTk (w : Nat → Int32) : Nat → Int32 :=
  let a := upd w 38 (w 38 + (-1))
  let e := 39 + 21 * (w 38 + (-1)).toNatClampNeg
  zZr (zMv a 39 e) e (e + 21)
end MODEL2
/-! the reference's wire: losing, swapping, a head that is taken -/
section MODEL3
variable {M : Mem} {mo v n q : Nat} {r w T : Nat → Int32} {p x c : Int32}
def zLo (w : Nat → Int32) : Nat → Int32 := upd (zTk w) 36 (zTk w 36 + 1)
/-- the first two packets, places from j on, change places -/
def zSw (w : Nat → Int32) (j : Nat) : Nat → Int32 := fun i => if j ≤ i ∧ i < 60 then w (i + 21) else if j + 21 ≤ i ∧ i < 81 then w (i - 21) else w i
theorem zSw_e : zSw w 60 = w := by
  funext i
  unfold zSw
  rw [if_neg (by omega), if_neg (by omega)]
theorem zSw_step {j : Nat} (h1 : 39 ≤ j) (hj : j < 60) : zSw (upd (upd w j (w (j + 21))) (j + 21) (w j)) (j + 1) = zSw w j := by
  funext i
  unfold zSw upd
  by_cases h2 : j ≤ i ∧ i < 60
  · by_cases h3 : i = j
    · subst h3
      rw [if_neg (by omega), if_neg (by omega), if_pos h2]
      simp only [if_neg (show ¬ i = i + 21 by omega), ↓reduceIte]
    · rw [if_pos (by omega), if_pos h2]
      simp only [if_neg (show ¬ i + 21 = j + 21 by omega), if_neg (show ¬ i + 21 = j by omega)]
  · by_cases h4 : j + 21 ≤ i ∧ i < 81
    · by_cases h5 : i = j + 21
      · subst h5
        rw [if_neg (by omega), if_neg (by omega)]
        simp only [↓reduceIte]
        rw [if_neg h2, if_pos h4, Nat.add_sub_cancel]
      · rw [if_neg (by omega), if_pos (by omega), if_neg h2, if_pos h4]
        simp only [if_neg (show ¬ i - 21 = j + 21 by omega), if_neg (show ¬ i - 21 = j by omega)]
    · rw [if_neg (by omega), if_neg (by omega), if_neg h2, if_neg h4]
      simp only [if_neg (show ¬ i = j + 21 by omega), if_neg (show ¬ i = j by omega)]
def zTH (w : Nat → Int32) (g i : Int32) : Nat → Int32 := upd (upd (upd w 32 (w 32 + (if w 26 = g ∧ w 27 = i then 0 else 1))) 26 g) 27 i
end MODEL3
/-! the reference's delivering -/
section MODEL4
variable {M : Mem} {mo v n q : Nat} {r w T : Nat → Int32} {p x c : Int32}
theorem upd_self {k : Nat} : upd w k (w k) = w := by
  funext i
  unfold upd
  by_cases h : i = k
  · subst h; exact if_pos rfl
  · exact if_neg h
theorem upd_upd {k : Nat} {x y : Int32} : upd (upd w k x) k y = upd w k y := by
  funext i
  unfold upd
  by_cases h : i = k
  · rw [if_pos h, if_pos h]
  · rw [if_neg h, if_neg h, if_neg h]
/-- the guess fades, once for each packet that misses -/
def zFd : Nat → Int32 → Int32
  | 0, g => g
  | k + 1, g => zFd k (3 * g / 4)
end MODEL4
/-! the reference hears a packet -/
section MODEL5
variable {M : Mem} {mo v n q : Nat} {r w T : Nat → Int32} {p x c : Int32}
theorem zN_of {t : Int32} {k : Nat} (h0 : 0 ≤ t) (h1 : t ≤ nI k) (hk : k < 2 ^ 31) : ∃ n, n ≤ k ∧ t = nI n := by
  rw [Int32.le_iff_toInt_le] at h0 h1
  rw [nI_toInt hk] at h1
  have h2 : (0 : Int32).toInt = 0 := by decide
  refine ⟨t.toInt.toNat, by omega, Int32.toInt_inj.mp ?_⟩
  rw [nI_toInt (by omega)]
  omega
theorem zC_at {t : Int32} : ∃ n, n < 25 ∧ zC t = nI n := by
  unfold zC
  by_cases h : 0 ≤ t
  · rw [if_pos h]
    by_cases h2 : t ≤ 24
    · rw [if_pos h2]
      obtain ⟨n, h3, h4⟩ := zN_of (k := 24) h h2 (by decide)
      exact ⟨n, by omega, h4⟩
    · rw [if_neg h2]
      exact ⟨24, by decide, rfl⟩
  · rw [if_neg h]
    exact ⟨0, by decide, rfl⟩
theorem zH_27 {m : Int32} : ∃ n, n < 25 ∧ zH T w c m 27 = nI n := by
  have h : zH T w c m 27 = zI (w 27) c := rfl
  rw [h]
  exact zC_at
theorem zH_at {m : Int32} {k : Nat} (hk : 36 ≤ k) : zH T w c m k = w k := by
  unfold zH zF
  rw [upd_ne (by omega), upd_ne (by omega), upd_ne (by omega), upd_ne (by omega), upd_ne (by omega), upd_ne (by omega)]
def zHs (T : Nat → Int32) : Nat → Nat → (Nat → Int32) → (Nat → Int32)
  | 0, _, w => w
  | d + 1, j, w => zHs T d (j + 1) (zH T w (w (44 + j)) (w (52 + j)))
end MODEL5
/-! the reference's delivering, whole -/
section MODEL6
variable {M : Mem} {mo v n q : Nat} {r w T : Nat → Int32} {p x c : Int32}
/-- behind the fading: the head, the codes, what is awaited -/
def zD1 (w : Nat → Int32) (mis : Int32) : Nat → Int32 := upd w 30 (w 30 + mis)
def zD2 (w : Nat → Int32) : Nat → Int32 := if w 41 = 1 then zTH w (w 42) (w 43) else w
def zD3 (T w : Nat → Int32) (num : Int32) (k : Nat) : Nat → Int32 := zTk (upd (zHs T k 0 w) 28 (num + 1))
theorem zHs_at {k : Nat} (hk : 36 ≤ k) : ∀ (d j : Nat) (w : Nat → Int32), zHs T d j w k = w k := by
  intro d
  induction d with
  | zero => intro j w; rfl
  | succ d ih =>
    intro j w
    show zHs T d (j + 1) _ k = w k
    rw [ih, zH_at hk]
def zDv (T w : Nat → Int32) : Nat → Int32 :=
  let a := upd w 37 (w 37 + 1)
  if w 28 ≤ w 39 then zD3 T (zD2 (zD1 (upd a 26 (zFd (w 39 - w 28).toNatClampNeg (w 26))) (w 39 - w 28))) (w 39) (w 40).toNatClampNeg
  else zTk (upd a 31 (w 31 + 1))
def zDa (w : Nat → Int32) : Int32 := if w 28 ≤ w 39 then w 39 - w 28 else -10000
end MODEL6
/-! the reference's rows put aside and back -/
section MODEL7
variable {M : Mem} {mo v n q : Nat} {r w T s : Nat → Int32} {p x c : Int32}
/-- the first places of a row out of another row -/
def zUp (s r : Nat → Int32) (j e : Nat) : Nat → Int32 := fun i => if j ≤ i ∧ i < e then r i else s i
theorem zUp_e {e : Nat} : zUp s r e e = s := by
  funext i
  unfold zUp
  rw [if_neg (by omega)]
theorem zUp_step {j e : Nat} (hj : j < e) : zUp (upd s j (r j)) r (j + 1) e = zUp s r j e := by
  funext i
  unfold zUp upd
  by_cases h1 : i = j
  · subst h1
    rw [if_neg (by omega), if_pos rfl, if_pos ⟨Nat.le_refl _, hj⟩]
  · by_cases h2 : j ≤ i ∧ i < e
    · rw [if_pos (by omega), if_pos h2]
    · rw [if_neg (by omega), if_neg h2, if_neg h1]
end MODEL7
