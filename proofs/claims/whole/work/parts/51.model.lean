/-! the reference's packets; what saying does -/
section MODEL2
variable {M : Mem} {mo v n q : Nat} {r w T : Nat → Int32} {p x c : Int32}
theorem at_add {k c : Nat} : nI (5 + 207 * v + k) + (no_index (OfNat.ofNat c) : Int32) = nI (5 + 207 * v + (k + c)) := by
  rw [show (OfNat.ofNat c : Int32) = nI c from rfl, zA, Nat.add_assoc]
theorem packet_at : f_X9_packetAt (nI v) (nI q) M = some (nI (5 + 207 * v + (39 + 21 * q))) := by
  unfold f_X9_packetAt
  rw [show (5 : Int32) = nI 5 from rfl, show (207 : Int32) = nI 207 from rfl, show (39 : Int32) = nI 39 from rfl, show (21 : Int32) = nI 21 from rfl, zM, zM, zA, zA, zA, Nat.add_assoc]
def zMP1 (w : Nat → Int32) (q : Nat) (h : Int32) : Nat → Int32 := upd (upd (upd (upd (upd w (39 + 21 * q + 0) (w 21)) (39 + 21 * q + 1) (w 4)) (39 + 21 * q + 2) (if h = 0 then 0 else 1)) (39 + 21 * q + 3) (if h = 0 then -10000 else w 24)) (39 + 21 * q + 4) (if h = 0 then -10000 else w 25)
def zMPh (w : Nat → Int32) (q : Nat) (h : Int32) : Nat → Int32 := zMT (zCp (zMP1 w q h) (39 + 21 * q + 5) 0) h
theorem packet_head {h : Int32} (hv : v < 3) (hq : q < 8) : f_X9_makePacket_b45 mo (nI v) (nI (5 + 207 * v + (39 + 21 * q))) h (sA M (mo + 1) (pv v r w)) = some (sA M (mo + 1) (pv v r (zMPh w q h))) := by
  have A0 := at_add (v := v) (k := 39 + 21 * q) (c := 0)
  have A1 := at_add (v := v) (k := 39 + 21 * q) (c := 1)
  have A2 := at_add (v := v) (k := 39 + 21 * q) (c := 2)
  have A3 := at_add (v := v) (k := 39 + 21 * q) (c := 3)
  have A4 := at_add (v := v) (k := 39 + 21 * q) (c := 4)
  have A5 := at_add (v := v) (k := 39 + 21 * q) (c := 5)
  unfold f_X9_makePacket_b45
  rw [of_l 21 hv (by decide), vb_s, gd_s (row_ix A0 hv (by omega)), nb_s, row_put A0 hv (by omega), of_l 4 hv (by decide), vb_s, gd_s (row_ix A1 hv (by omega)), nb_s, row_put A1 hv (by omega), upd_ne (show 4 ≠ 39 + 21 * q + 0 by omega)]
  unfold f_X9_makePacket_b91 f_X9_makePacket_b116 f_X9_makePacket_b141
  by_cases hh : h = 0
  · rw [if_pos hh, gd_s (row_ix A2 hv (by omega)), nb_s, row_put A2 hv (by omega), if_pos hh, gd_s (row_ix A3 hv (by omega)), nb_s, row_put A3 hv (by omega), if_pos hh, gd_s (row_ix A4 hv (by omega)), nb_s, row_put A4 hv (by omega)]
    rw [show (0 : Int32) = nI 0 from rfl, packet_copy (b := 39 + 21 * q + 5) hv A5 (by omega) (by omega) 16 0 lfuel _ rfl (by decide)]
    unfold zMPh zMP1
    simp only [if_pos hh]
    rfl
  · rw [if_neg hh, gd_s (row_ix A2 hv (by omega)), nb_s, row_put A2 hv (by omega), if_neg hh, of_l 24 hv (by decide), vb_s, gd_s (row_ix A3 hv (by omega)), nb_s, row_put A3 hv (by omega), if_neg hh, of_l 25 hv (by decide), vb_s, gd_s (row_ix A4 hv (by omega)), nb_s, row_put A4 hv (by omega)]
    rw [show (0 : Int32) = nI 0 from rfl, packet_copy (b := 39 + 21 * q + 5) hv A5 (by omega) (by omega) 16 0 lfuel _ rfl (by decide)]
    unfold zMPh zMP1
    simp only [if_neg hh]
    rw [upd_ne (show 24 ≠ 39 + 21 * q + 2 by omega), upd_ne (show 24 ≠ 39 + 21 * q + 1 by omega), upd_ne (show 24 ≠ 39 + 21 * q + 0 by omega), upd_ne (show 25 ≠ 39 + 21 * q + 3 by omega), upd_ne (show 25 ≠ 39 + 21 * q + 2 by omega), upd_ne (show 25 ≠ 39 + 21 * q + 1 by omega), upd_ne (show 25 ≠ 39 + 21 * q + 0 by omega)]
/-- whether a packet gets a head -/
def zHas (r w : Nat → Int32) : Int32 := if w 21 = 0 then 1 else if w 23 + 1 < r 3 then 0 else 1
def zMP (r w : Nat → Int32) : Nat → Int32 := zMPh w (w 38).toNatClampNeg (zHas r w)
theorem packet_v (hv : v < 3) (hw : w 38 = nI q) (hq : q < 8) : f_X9_makePacket mo (nI v) (sA M (mo + 1) (pv v r w)) = some (sA M (mo + 1) (pv v r (zMP r w))) := by
  unfold f_X9_makePacket f_X9_makePacket_b40 zMP zHas
  rw [of_l 38 hv (by decide), vb_s, hw, packet_at, vb_s, of_l 21 hv (by decide), vb_s, of_l 23 hv (by decide), vb_s, gd_s (hd_ix (k := 3) (by decide)), hd_get (k := 3) (by decide), packet_head hv hq, packet_head hv hq, nI_clamp (by omega)]
  by_cases h1 : w 21 = 0
  · rw [if_pos h1, if_pos h1]
  · rw [if_neg h1, if_neg h1]
    split <;> rfl
/-- saying: gathering first -/
def zGa (w : Nat → Int32) (x : Int32) : Nat → Int32 := upd (upd w 3 (w 3 + x)) 2 (w 2 + 1)
theorem zMC_at {m : Int32} {k q4 : Nat} (hc : w 4 = nI q4) (hq : q4 < 8) (hk : 26 ≤ k) : zMC T w m k = w k := by
  have e2 : (w 4).toNatClampNeg = q4 := by rw [hc, nI_clamp (by omega)]
  unfold zMC zF
  rw [e2]
  by_cases h : w 4 = 0
  · simp only [if_pos h]
    rw [upd_ne (by omega), upd_ne (by omega), upd_ne (by omega), upd_ne (by omega), upd_ne (by omega), upd_ne (by omega), upd_ne (by omega), upd_ne (by omega), upd_ne (by omega), upd_ne (by omega)]
  · simp only [if_neg h]
    rw [upd_ne (by omega), upd_ne (by omega), upd_ne (by omega), upd_ne (by omega), upd_ne (by omega), upd_ne (by omega), upd_ne (by omega), upd_ne (by omega)]
/-- a full packet is closed -/
def zCl (r w : Nat → Int32) : Nat → Int32 := if w 4 < r 2 then w else zMP r w
theorem say_v1 (hv : v < 3) (hw : ¬ w 4 < r 2 → w 38 = nI q ∧ q < 8) : f_X9_sayNow_b45 mo (nI v) p c (sA M (mo + 1) (pv v r w)) = some (c, sA M (mo + 1) (pv v r (zCl r w))) := by
  unfold f_X9_sayNow_b45 zCl
  rw [of_l 4 hv (by decide), vb_s, gd_s (hd_ix (k := 2) (by decide)), hd_get (k := 2) (by decide)]
  by_cases h : w 4 < r 2
  · rw [if_pos h, if_pos h]
  · rw [if_neg h, if_neg h, packet_v hv (hw h).1 (hw h).2, vb_s]
/-- a voice behind a sample; the code told -/
def zSayW (T r w : Nat → Int32) (x : Int32) : Nat → Int32 := if zMk r w = 0 then zGa w x else zMC T (zGa w x) (zMean r (zGa w x))
def zSayC (T r w : Nat → Int32) (x : Int32) : Int32 := if zMk r w = 0 then -10000 else zMC1 T (zGa w x) (zMean r (zGa w x))
def zSaid (r : Nat → Int32) : Nat → Int32 := upd r 4 (r 4 + 1)
theorem say_v {q4 : Nat} (hv : v < 3) (hi : w 1 = nI n) (hn : n < 25) (hc : w 4 = nI q4) (hq4 : q4 < 8) (h2 : ¬ w 2 + 1 = 0) (hw : ¬ zSayW (mI M (mo + 5)) r w x 4 < r 2 → w 38 = nI q ∧ q < 8) : f_X9_sayNow mo (nI v) x (sA M (mo + 1) (pv v r w)) = some (zSayC (mI M (mo + 5)) r w x, sA M (mo + 1) (pv v (zSaid r) (zCl (zSaid r) (zSayW (mI M (mo + 5)) r w x)))) := by
  have e38 : zSayW (mI M (mo + 5)) r w x 38 = w 38 := by
    unfold zSayW
    split
    · rfl
    · exact (zMC_at (w := zGa w x) (q4 := q4) (k := 38) hc hq4 (by decide)).trans rfl
  unfold f_X9_sayNow
  rw [makes_v hv, vb_s, add_l 3 hv (by decide), vb_s, add_l 2 hv (by decide), vb_s, gd_s (hd_ix (k := 4) (by decide)), gd_s (hd_ix (k := 4) (by decide)), nb_s, hd_get (k := 4) (by decide), hd_put (k := 4) (by decide), upd_ne (show 2 ≠ 3 by decide)]
  by_cases h : zMk r w = 0
  · rw [if_pos h]
    have hz : zSayW (mI M (mo + 5)) r w x = zGa w x := if_pos h
    have hz2 : zSayC (mI M (mo + 5)) r w x = -10000 := if_pos h
    rw [hz] at hw e38 ⊢
    rw [hz2]
    exact say_v1 (r := zSaid r) (w := zGa w x) (q := q) hv (fun g => by rw [e38]; exact hw g)
  · rw [if_neg h]
    have hz : zSayW (mI M (mo + 5)) r w x = zMC (mI M (mo + 5)) (zGa w x) (zMean r (zGa w x)) := if_neg h
    have hz2 : zSayC (mI M (mo + 5)) r w x = zMC1 (mI M (mo + 5)) (zGa w x) (zMean r (zGa w x)) := if_neg h
    rw [hz] at hw e38 ⊢
    rw [hz2]
    have hm := make_v (M := M) (mo := mo) (r := zSaid r) (w := zGa w x) (q := q4) (n := n) hv hi hn hq4 hc h2
    have hmm : zMean (zSaid r) (zGa w x) = zMean r (zGa w x) := rfl
    rw [hmm] at hm
    refine (congrArg (fun o => cb o _) hm).trans ?_
    rw [cb_s]
    exact say_v1 (r := zSaid r) (q := q) hv (fun g => by rw [e38]; exact hw g)
/-- the first packet goes off the wire: those behind it move up -/
def zMv (w : Nat → Int32) (j e : Nat) : Nat → Int32 := fun i => if j ≤ i ∧ i < e then w (i + 21) else w i
theorem zMv_e {e : Nat} : zMv w e e = w := by
  funext i
  unfold zMv
  rw [if_neg (by omega)]
theorem zMv_step {j e : Nat} (hj : j < e) : zMv (upd w j (w (j + 21))) (j + 1) e = zMv w j e := by
  funext i
  unfold zMv upd
  by_cases h1 : i = j
  · subst h1
    rw [if_neg (by omega), if_pos (by omega)]
    exact (if_pos ⟨Nat.le_refl _, hj⟩).symm
  · by_cases h2 : j ≤ i ∧ i < e
    · rw [if_pos (by omega), if_pos h2]
      simp only [if_neg (show ¬ i + 21 = j by omega)]
    · rw [if_neg (by omega), if_neg h2]
      simp only [if_neg h1]
def zZr (w : Nat → Int32) (j e : Nat) : Nat → Int32 := fun i => if j ≤ i ∧ i < e then 0 else w i
theorem zZr_e {e : Nat} : zZr w e e = w := by
  funext i
  unfold zZr
  rw [if_neg (by omega)]
theorem zZr_step {j e : Nat} (hj : j < e) : zZr (upd w j 0) (j + 1) e = zZr w j e := by
  funext i
  unfold zZr upd
  by_cases h1 : i = j
  · subst h1
    rw [if_neg (by omega), if_pos (by omega)]
    exact (if_pos ⟨Nat.le_refl _, hj⟩).symm
  · by_cases h2 : j ≤ i ∧ i < e
    · rw [if_pos (by omega), if_pos h2]
    · rw [if_neg (by omega), if_neg h2]
      simp only [if_neg h1]
theorem take_zero (hv : v < 3) {e : Nat} (he : e + 21 ≤ 207) : ∀ (d j n : Nat) (w : Nat → Int32), e ≤ j → j + d = e + 21 → d < n → f_X9_takeFirst_b54 mo (nI v) n (nI (5 + 207 * v + e)) (nI (5 + 207 * v + j)) (sA M (mo + 1) (pv v r w)) = some (sA M (mo + 1) (pv v r (zZr w j (e + 21)))) := by
  intro d
  induction d with
  | zero =>
    intro j n w h1 hj hn
    obtain ⟨n, rfl⟩ : ∃ k, n = k + 1 := ⟨n - 1, by omega⟩
    have hj : j = e + 21 := by omega
    subst hj
    unfold f_X9_takeFirst_b54
    rw [if_pos (by rw [at_add (c := 21)]; exact nI_le (Nat.le_refl _) (by omega)), zZr_e]
  | succ d ih =>
    intro j n w h1 hj hn
    obtain ⟨n, rfl⟩ : ∃ k, n = k + 1 := ⟨n - 1, by omega⟩
    unfold f_X9_takeFirst_b54
    rw [if_neg (by rw [at_add (c := 21)]; exact nI_ge (by omega) (by omega)), gd_s (row_ix rfl hv (by omega)), nb_s, row_put rfl hv (by omega), nb_s, ← nI_succ, Nat.add_assoc (5 + 207 * v), ih (j + 1) n _ (by omega) (by omega) (by omega), zZr_step (by omega)]
theorem take_move (hv : v < 3) {e : Nat} (he : e + 21 ≤ 207) : ∀ (d j n : Nat) (w : Nat → Int32), j + d = e → d < n → f_X9_takeFirst_b26 mo (nI v) n (nI (5 + 207 * v + e)) (nI (5 + 207 * v + j)) (sA M (mo + 1) (pv v r w)) = some (sA M (mo + 1) (pv v r (zZr (zMv w j e) e (e + 21)))) := by
  intro d
  induction d with
  | zero =>
    intro j n w hj hn
    obtain ⟨n, rfl⟩ : ∃ k, n = k + 1 := ⟨n - 1, by omega⟩
    have hj : j = e := by omega
    subst hj
    unfold f_X9_takeFirst_b26
    rw [if_pos (nI_le (Nat.le_refl _) (by omega)), take_zero hv he 21 j lfuel w (Nat.le_refl _) rfl (by decide), zMv_e]
  | succ d ih =>
    intro j n w hj hn
    obtain ⟨n, rfl⟩ : ∃ k, n = k + 1 := ⟨n - 1, by omega⟩
    unfold f_X9_takeFirst_b26
    rw [if_neg (nI_ge (by omega) (by omega)), gd_s (row_ix (at_add (c := 21)) hv (by omega)), gd_s (row_ix rfl hv (by omega)), nb_s, row_get (at_add (c := 21)) hv (by omega), row_put rfl hv (by omega), nb_s, ← nI_succ, Nat.add_assoc (5 + 207 * v), ih (j + 1) n _ (by omega) (by omega), zMv_step (by omega)]
/-- the wire without its first packet; q more wait than before -/
def zTk (w : Nat → Int32) : Nat → Int32 :=
  let a := upd w 38 (w 38 + (-1))
  let e := 39 + 21 * (w 38 + (-1)).toNatClampNeg
  zZr (zMv a 39 e) e (e + 21)
theorem take_v (hv : v < 3) (hw : w 38 = nI (q + 1)) (hq : q < 8) : f_X9_takeFirst mo (nI v) (sA M (mo + 1) (pv v r w)) = some (sA M (mo + 1) (pv v r (zTk w))) := by
  have e1 : w 38 + (-1) = nI q := by
    rw [hw, nI_succ, Int32.add_assoc]
    exact Int32.add_zero _
  have e0 : f_X9_packetAt (nI v) 0 (sA M (mo + 1) (pv v r (upd w 38 (nI q)))) = some (nI (5 + 207 * v + 39)) := packet_at (q := 0)
  unfold f_X9_takeFirst zTk
  rw [add_l 38 hv (by decide), vb_s, e1, of_l 38 hv (by decide), vb_s, upd_eq, packet_at, vb_s, e0, vb_s, nI_clamp (by omega), take_move hv (by omega) (21 * q) 39 lfuel _ rfl (by unfold lfuel; omega)]
end MODEL2
