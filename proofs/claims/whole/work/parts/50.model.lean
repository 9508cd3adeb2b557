/-! the reference's deeds on a voice's part of the row -/
section MODEL
variable {M : Mem} {mo v n q : Nat} {r w T : Nat → Int32} {p x c : Int32}
theorem of_s (hv : v < 3) {k : Nat} (hk : k < 207) : f_X9_of mo (nI v) (no_index (OfNat.ofNat k)) (sA M (mo + 1) (pv v r w)) = some (w k) := of_v rfl hv hk
theorem put_s (hv : v < 3) {k : Nat} (hk : k < 207) : f_X9_put mo (nI v) (no_index (OfNat.ofNat k)) x (sA M (mo + 1) (pv v r w)) = some (sA M (mo + 1) (pv v r (upd w k x))) := put_v rfl hv hk
theorem add_s (hv : v < 3) {k : Nat} (hk : k < 207) : f_X9_add mo (nI v) (no_index (OfNat.ofNat k)) x (sA M (mo + 1) (pv v r w)) = some (sA M (mo + 1) (pv v r (upd w k (w k + x)))) := add_v rfl hv hk
/-- the head of the row: settings and SAID -/
theorem hd_ix {k : Nat} (hk : k < 5) : ix (no_index (OfNat.ofNat k) : Int32) 626 := nI_ix (a := k) (by omega) (by decide)
theorem hd_get {k : Nat} (hk : k < 5) : mI (sA M (mo + 1) (pv v r w)) (mo + 1) (no_index (OfNat.ofNat k) : Int32).toNatClampNeg = r k := by
  rw [mI_sA, show (OfNat.ofNat k : Int32).toNatClampNeg = k from nI_clamp (n := k) (by omega), pv_lo hk]
theorem hd_put {k : Nat} (hk : k < 5) : sI (sA M (mo + 1) (pv v r w)) (mo + 1) (no_index (OfNat.ofNat k) : Int32).toNatClampNeg x = sA M (mo + 1) (pv v (upd r k x) w) := by
  rw [show (OfNat.ofNat k : Int32).toNatClampNeg = k from nI_clamp (n := k) (by omega), sI_sA, pv_up0 hk]
def zMk (r w : Nat → Int32) : Int32 := if w 2 + 1 < r 0 then 0 else 1
theorem makes_v (hv : v < 3) : f_X9_makesCode mo (nI v) (sA M (mo + 1) (pv v r w)) = some (zMk r w) := by
  unfold f_X9_makesCode zMk
  rw [of_l 2 hv (by decide), vb_s, gd_s (hd_ix (k := 0) (by decide)), hd_get (k := 0) (by decide)]
  split <;> rfl
def zCS (r w : Nat → Int32) : Int32 := if w 38 < 8 then 1 else if r 2 ≤ w 4 + zMk r w then 0 else 1
theorem can_v (hv : v < 3) : f_X9_canSay mo (nI v) (sA M (mo + 1) (pv v r w)) = some (zCS r w) := by
  unfold f_X9_canSay f_X9_canSay_b31 zCS
  rw [of_l 38 hv (by decide), vb_s, of_l 4 hv (by decide), vb_s, makes_v hv, vb_s, gd_s (hd_ix (k := 2) (by decide)), hd_get (k := 2) (by decide), gd_s (hd_ix (k := 2) (by decide))]
  by_cases h : w 38 < 8
  · rw [if_pos h, if_pos h]
  · rw [if_neg h, if_neg h]
    unfold zMk
    by_cases h2 : w 2 + 1 < r 0
    · rw [if_pos h2, if_pos rfl]
      split <;> rfl
    · rw [if_neg h2, if_neg (by decide)]
      split <;> rfl
/-- the code of a sample by a guess and a step -/
def zD (s d : Int32) (b : Int32) : Int32 :=
  let d1 := if d < s then d else d - s
  let b1 := if d < s then b else b + 4
  let d2 := if d1 < s / 2 then d1 else d1 - s / 2
  let b2 := if d1 < s / 2 then b1 else b1 + 2
  if d2 < s / 4 then b2 else b2 + 1
def zK (x g s : Int32) : Int32 := zD s (zS (x - g)) (if g ≤ x then 0 else 8)
theorem code_v1 {g s d b i : Int32} : f_X9_codeOf_b27 mo x g i s d b M = some (zD s d b) := by
  unfold f_X9_codeOf_b27 f_X9_codeOf_b46 f_X9_codeOf_b67 zD
  simp only [nb_s]
  split <;> split <;> split <;> rfl
theorem code_v {g i : Int32} (hi : i = nI n) (hn : n < 25) : f_X9_codeOf mo x g i M = some (zK x g (mI M (mo + 5) n)) := by
  subst hi
  unfold f_X9_codeOf zK
  rw [gd_s (nI_ix hn (by decide)), nb_s, nI_clamp (by omega), size_v, vb_s, code_v1, code_v1]
  split <;> rfl
/-- the mean of what was gathered, held against the gate -/
def zMean (r w : Nat → Int32) : Int32 := if r 1 ≤ zS (w 3 / w 2) then w 3 / w 2 else 0
/-- a code is made of a mean m -/
def zMC1 (T w : Nat → Int32) (m : Int32) : Int32 := zK m (w 0) (T (w 1).toNatClampNeg)
def zMC (T w : Nat → Int32) (m : Int32) : Nat → Int32 :=
  let a := upd (upd w 3 0) 2 0
  let b := if w 4 = 0 then upd (upd a 24 (w 0)) 25 (w 1) else a
  let d := upd (upd (upd b (5 + (w 4).toNatClampNeg) (zMC1 T w m)) (13 + (w 4).toNatClampNeg) m) 4 (w 4 + 1)
  zF T (upd d 22 (d 22 + 1)) 0 (zMC1 T w m)
theorem upd_ne {f : Nat → Int32} {k j : Nat} {x : Int32} (h : j ≠ k) : upd f k x j = f j := if_neg h
theorem upd_eq {f : Nat → Int32} {k : Nat} {x : Int32} : upd f k x k = x := if_pos rfl
theorem make_v2 {m c4 : Int32} (hv : v < 3) (hi : w 1 = nI n) (hn : n < 25) (hq : q < 8) (hc : c4 = nI q) : f_X9_makeCode_b104 mo (nI v) m c c4 (sA M (mo + 1) (pv v r w)) = some (c, sA M (mo + 1) (pv v r (zF (mI M (mo + 5)) (upd (upd (upd (upd w (5 + q) c) (13 + q) m) 4 (c4 + 1)) 22 (upd (upd (upd w (5 + q) c) (13 + q) m) 4 (c4 + 1) 22 + 1)) 0 c))) := by
  subst hc
  unfold f_X9_makeCode_b104
  rw [put_v (p := 5 + nI q) (k := 5 + q) (zA (a := 5)) hv (by omega), vb_s, put_v (p := 13 + nI q) (k := 13 + q) (zA (a := 13)) hv (by omega), vb_s, put_l 4 hv (by decide), vb_s, add_l 22 hv (by decide), vb_s, follow_v (p := 0) (e := 0) (n := n) rfl hv (by decide) ?_ hn, vb_s]
  rw [upd_ne (by decide), upd_ne (by decide), upd_ne (by omega), upd_ne (by omega), hi]
theorem make_v1 {m : Int32} (hv : v < 3) (hi : w 1 = nI n) (hn : n < 25) (hq : q < 8) (hc : w 4 = nI q) : f_X9_makeCode_b32 mo (nI v) m (sA M (mo + 1) (pv v r w)) = some (zMC1 (mI M (mo + 5)) w m, sA M (mo + 1) (pv v r (zMC (mI M (mo + 5)) w m))) := by
  unfold f_X9_makeCode_b32
  rw [put_l 3 hv (by decide), vb_s, put_l 2 hv (by decide), vb_s, of_l 0 hv (by decide), vb_s, of_l 1 hv (by decide), vb_s]
  simp only [upd_at, Nat.reduceEqDiff, ↓reduceIte]
  rw [code_v hi hn, vb_s, of_l 4 hv (by decide), vb_s, mI_sAn (by omega)]
  simp only [upd_at, Nat.reduceEqDiff, ↓reduceIte]
  have e1 : zK m (w 0) (mI M (mo + 5) n) = zMC1 (mI M (mo + 5)) w m := by
    unfold zMC1
    rw [hi, nI_clamp (by omega)]
  have e2 : (w 4).toNatClampNeg = q := by rw [hc, nI_clamp (by omega)]
  rw [e1]
  unfold zMC
  rw [e2]
  by_cases h : w 4 = 0
  · rw [if_pos h, vb_s, put_l 24 hv (by decide), vb_s, of_l 1 hv (by decide), vb_s, put_l 25 hv (by decide), vb_s, make_v2 (n := n) hv (by simp only [upd_at, Nat.reduceEqDiff, ↓reduceIte]; exact hi) hn hq hc]
    simp only [if_pos h, upd_at, Nat.reduceEqDiff, ↓reduceIte]
  · rw [if_neg h, make_v2 (n := n) hv (by simp only [upd_at, Nat.reduceEqDiff, ↓reduceIte]; exact hi) hn hq hc]
    simp only [if_neg h]
theorem make_v (hv : v < 3) (hi : w 1 = nI n) (hn : n < 25) (hq : q < 8) (hc : w 4 = nI q) (h2 : ¬ w 2 = 0) : f_X9_makeCode mo (nI v) (sA M (mo + 1) (pv v r w)) = some (zMC1 (mI M (mo + 5)) w (zMean r w), sA M (mo + 1) (pv v r (zMC (mI M (mo + 5)) w (zMean r w)))) := by
  unfold f_X9_makeCode zMean
  rw [of_l 3 hv (by decide), vb_s, of_l 2 hv (by decide), vb_s, gd_s h2, nb_s, size_v, vb_s, gd_s (hd_ix (k := 1) (by decide)), hd_get (k := 1) (by decide)]
  split <;> exact make_v1 hv hi hn hq hc
/-- codes and means go to the packet at b, and are cleared -/
def zCp (w : Nat → Int32) (b j : Nat) : Nat → Int32 := fun i => if b + j ≤ i ∧ i < b + 16 then w (i - b + 5) else if 5 + j ≤ i ∧ i < 21 then 0 else w i
theorem zCp_16 {b : Nat} : zCp w b 16 = w := by
  funext i
  unfold zCp
  rw [if_neg (by omega), if_neg (by omega)]
theorem zCp_step {b j : Nat} (hb : 21 ≤ b) (hj : j < 16) : zCp (upd (upd w (b + j) (w (5 + j))) (5 + j) 0) b (j + 1) = zCp w b j := by
  funext i
  unfold zCp upd
  by_cases h1 : b + j ≤ i ∧ i < b + 16
  · rw [if_pos h1]
    by_cases h2 : i = b + j
    · subst h2
      rw [if_neg (by omega), if_neg (by omega)]
      simp only [if_neg (show ¬ b + j = 5 + j by omega), ↓reduceIte]
      congr 1
      omega
    · rw [if_pos (by omega)]
      simp only [if_neg (show ¬ i - b + 5 = 5 + j by omega), if_neg (show ¬ i - b + 5 = b + j by omega)]
  · rw [if_neg h1, if_neg (by omega)]
    by_cases h3 : 5 + j ≤ i ∧ i < 21
    · rw [if_pos h3]
      by_cases h4 : i = 5 + j
      · rw [if_neg (by omega)]
        simp only [if_pos h4]
      · rw [if_pos (by omega)]
    · rw [if_neg h3, if_neg (by omega)]
      simp only [if_neg (show ¬ i = 5 + j by omega), if_neg (show ¬ i = b + j by omega)]
theorem row_put {k : Nat} (hp : p = nI (5 + 207 * v + k)) (hv : v < 3) (hk : k < 207) : sI (sA M (mo + 1) (pv v r w)) (mo + 1) p.toNatClampNeg x = sA M (mo + 1) (pv v r (upd w k x)) := by
  rw [hp, nI_clamp (by omega), sI_sA, pv_upd hk]
theorem row_get {k : Nat} (hp : p = nI (5 + 207 * v + k)) (hv : v < 3) (hk : k < 207) : mI (sA M (mo + 1) (pv v r w)) (mo + 1) p.toNatClampNeg = w k := by
  rw [hp, nI_clamp (by omega), mI_sA, pv_at hk]
theorem row_ix {k : Nat} (hp : p = nI (5 + 207 * v + k)) (hv : v < 3) (hk : k < 207) : ix p 626 := by
  rw [hp]
  exact nI_ix (by omega) (by decide)
/-- what follows the copying in makePacket -/
def zMT (w : Nat → Int32) (h : Int32) : Nat → Int32 :=
  let a := upd w 23 (if h = 0 then w 23 + 1 else 0)
  let b := upd a 4 0
  let c := upd b 21 (b 21 + 1)
  upd c 38 (c 38 + 1)
theorem packet_tail {x2 h : Int32} {w : Nat → Int32} (hv : v < 3) (n : Nat) : f_X9_makePacket_b145 mo (nI v) (n + 1) x2 h 16 (sA M (mo + 1) (pv v r w)) = some (sA M (mo + 1) (pv v r (zMT w h))) := by
  unfold f_X9_makePacket_b145 f_X9_makePacket_b209
  rw [if_pos (by decide), of_l 23 hv (by decide), vb_s, put_l 23 hv (by decide), vb_s, put_l 23 hv (by decide), vb_s, put_l 4 hv (by decide), vb_s, put_l 4 hv (by decide), vb_s, add_l 21 hv (by decide), vb_s, add_l 21 hv (by decide), vb_s, add_l 38 hv (by decide), vb_s, add_l 38 hv (by decide), vb_s]
  unfold zMT
  by_cases hh : h = 0
  · rw [if_pos hh]
    simp only [if_pos hh]
  · rw [if_neg hh]
    simp only [if_neg hh]
theorem packet_copy {x2 h : Int32} {b : Nat} (hv : v < 3) (hb : x2 + 5 = nI (5 + 207 * v + b)) (hb1 : 21 ≤ b) (hb2 : b + 16 ≤ 207) : ∀ (d j n : Nat) (w : Nat → Int32), j + d = 16 → d < n → f_X9_makePacket_b145 mo (nI v) n x2 h (nI j) (sA M (mo + 1) (pv v r w)) = some (sA M (mo + 1) (pv v r (zMT (zCp w b j) h))) := by
  intro d
  induction d with
  | zero =>
    intro j n w hj hn
    have hj : j = 16 := by omega
    subst hj
    obtain ⟨n, rfl⟩ : ∃ k, n = k + 1 := ⟨n - 1, by omega⟩
    rw [zCp_16]
    exact packet_tail hv n
  | succ d ih =>
    intro j n w hj hn
    obtain ⟨n, rfl⟩ : ∃ k, n = k + 1 := ⟨n - 1, by omega⟩
    unfold f_X9_makePacket_b145
    have hp : x2 + 5 + nI j = nI (5 + 207 * v + (b + j)) := by rw [hb, zA, Nat.add_assoc]
    rw [if_neg (show ¬ (16 : Int32) ≤ nI j from nI_ge (a := j) (b := 16) (by omega) (by decide)), of_v (p := 5 + nI j) (k := 5 + j) (zA (a := 5)) hv (by omega), vb_s, gd_s (row_ix hp hv (by omega)), nb_s, row_put hp hv (by omega), put_v (p := 5 + nI j) (k := 5 + j) (zA (a := 5)) hv (by omega), vb_s, nb_s, ← nI_succ, ih (j + 1) n _ (by omega) (by omega), zCp_step hb1 (by omega)]
end MODEL
