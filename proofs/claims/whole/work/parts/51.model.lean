/-! the reference's packets; what saying does -/
section MODEL2
variable {M : Mem} {mo v n q : Nat} {r w T : Nat → Int32} {p x c : Int32}
theorem at_add {k c : Nat} : nI (5 + 207 * v + k) + (no_index (OfNat.ofNat c) : Int32) = nI (5 + 207 * v + (k + c)) := by
  rw [show (OfNat.ofNat c : Int32) = nI c from rfl, zA, Nat.add_assoc]
theorem packet_at : f_X9_packetAt (nI v) (nI q) M = some (nI (5 + 207 * v + (39 + 21 * q))) := by
  unfold f_X9_packetAt
  rw [show (5 : Int32) = nI 5 from rfl, show (207 : Int32) = nI 207 from rfl, show (39 : Int32) = nI 39 from rfl, show (21 : Int32) = nI 21 from rfl, zM, zM, zA, zA, zA, Nat.add_assoc]
def zMP1 (w : Nat → Int32) (q : Nat) (h : Int32) : Nat → Int32 := upd (upd (upd (upd (upd w (39 + 21 * q + 0) (w 21)) (39 + 21 * q + 1) (w 4)) (39 + 21 * q + 2) (if h = 0 then 0 else 1)) (39 + 21 * q + 3) (if h = 0 then -10000 else w 24)) (39 + 21 * q + 4) (if h = 0 then -10000 else w 25)
def zMPh (w : Nat → Int32) (q : Nat) (h : Int32) : Nat → Int32 := zMT (zCp (zMP1 w q h) (39 + 21 * q + 5) 0) h
theorem packet_head {h : Int32} (hv : v < 3) (hq : q < 8) : f_X9_makePacket_b45 mo (nI v) (nI (5 + 207 * v + (39 + 21 * q))) h (sA M (mo + 1) (pv v r w)) = some (sA M (mo + 1) (pv v r (zMPh w q h))) := by
  have A0 := at_add (v := v) (k := 39 + 21 * q) (c := 0)
  have A1 := at_add (v := v) (k := 39 + 21 * q) (c := 1)
  have A2 := at_add (v := v) (k := 39 + 21 * q) (c := 2)
  have A3 := at_add (v := v) (k := 39 + 21 * q) (c := 3)
  have A4 := at_add (v := v) (k := 39 + 21 * q) (c := 4)
  have A5 := at_add (v := v) (k := 39 + 21 * q) (c := 5)
  unfold f_X9_makePacket_b45
  rw [of_l 21 hv (by decide), vb_s, gd_s (row_ix A0 hv (by omega)), nb_s, row_put A0 hv (by omega), of_l 4 hv (by decide), vb_s, gd_s (row_ix A1 hv (by omega)), nb_s, row_put A1 hv (by omega), upd_ne (show 4 ≠ 39 + 21 * q + 0 by omega)]
  unfold f_X9_makePacket_b91 f_X9_makePacket_b116 f_X9_makePacket_b141
  by_cases hh : h = 0
  · rw [if_pos hh, gd_s (row_ix A2 hv (by omega)), nb_s, row_put A2 hv (by omega), if_pos hh, gd_s (row_ix A3 hv (by omega)), nb_s, row_put A3 hv (by omega), if_pos hh, gd_s (row_ix A4 hv (by omega)), nb_s, row_put A4 hv (by omega)]
    rw [show (0 : Int32) = nI 0 from rfl, packet_copy (b := 39 + 21 * q + 5) hv A5 (by omega) (by omega) 16 0 lfuel _ rfl (by decide)]
    unfold zMPh zMP1
    simp only [if_pos hh]
    rfl
  · rw [if_neg hh, gd_s (row_ix A2 hv (by omega)), nb_s, row_put A2 hv (by omega), if_neg hh, of_l 24 hv (by decide), vb_s, gd_s (row_ix A3 hv (by omega)), nb_s, row_put A3 hv (by omega), if_neg hh, of_l 25 hv (by decide), vb_s, gd_s (row_ix A4 hv (by omega)), nb_s, row_put A4 hv (by omega)]
    rw [show (0 : Int32) = nI 0 from rfl, packet_copy (b := 39 + 21 * q + 5) hv A5 (by omega) (by omega) 16 0 lfuel _ rfl (by decide)]
    unfold zMPh zMP1
    simp only [if_neg hh]
    rw [upd_ne (show 24 ≠ 39 + 21 * q + 2 by omega), upd_ne (show 24 ≠ 39 + 21 * q + 1 by omega), upd_ne (show 24 ≠ 39 + 21 * q + 0 by omega), upd_ne (show 25 ≠ 39 + 21 * q + 3 by omega), upd_ne (show 25 ≠ 39 + 21 * q + 2 by omega), upd_ne (show 25 ≠ 39 + 21 * q + 1 by omega), upd_ne (show 25 ≠ 39 + 21 * q + 0 by omega)]
/-- whether a packet gets a head -/
def zHas (r w : Nat → Int32) : Int32 := if w 21 = 0 then 1 else if w 23 + 1 < r 3 then 0 else 1
def zMP (r w : Nat → Int32) : Nat → Int32 := zMPh w (w 38).toNatClampNeg (zHas r w)
theorem packet_v (hv : v < 3) (hw : w 38 = nI q) (hq : q < 8) : f_X9_makePacket mo (nI v) (sA M (mo + 1) (pv v r w)) = some (sA M (mo + 1) (pv v r (zMP r w))) := by
  unfold f_X9_makePacket f_X9_makePacket_b40 zMP zHas
  rw [of_l 38 hv (by decide), vb_s, hw, packet_at, vb_s, of_l 21 hv (by decide), vb_s, of_l 23 hv (by decide), vb_s, gd_s (hd_ix (k := 3) (by decide)), hd_get (k := 3) (by decide), packet_head hv hq, packet_head hv hq, nI_clamp (by omega)]
  by_cases h1 : w 21 = 0
  · rw [if_pos h1, if_pos h1]
  · rw [if_neg h1, if_neg h1]
    split <;> rfl
/-- saying: gathering first -/
def zGa (w : Nat → Int32) (x : Int32) : Nat → Int32 := upd (upd w 3 (w 3 + x)) 2 (w 2 + 1)
end MODEL2
