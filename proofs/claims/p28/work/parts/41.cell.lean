/-! the script's numbers -/
def gX (G : Gt) (b L : Nat) (xs : Nat → Int32) : Prop := (va_X b L xs (gS G) (gS G).heap ∧ b < gB G) ∧ L ≤ 260
def cellv (xs : Nat → Int32) (L : Nat) (i : Int32) : Int32 := if Int32.ofNat L ≤ i then (2127912214 : Int32) * (i + 1) else xs i.toNatClampNeg
set_option maxHeartbeats 4000000 in
theorem k_L_cell (G : Gt) (hG : gOK G) {b L : Nat} {xs : Nat → Int32} (hX0 : gX G b L xs) (l : Launch) (i : Int32) (M : Mem) (h0 : 0 ≤ i) : Kc G l yL_cell cL_cell 2 (some .int) ({ frames := 0, cells := 0, slots := 0, locals := 0 } : Room) [.ref b, .int i] M (some (.int (cellv xs L i))) M := by
  refine start (by decide) (Nat.le_of_ble_eq_true rfl) ?_
  intro p e s m args below meth c ls hx hb hr hown hml hlocks hts hV hM hl
  have hown : s.vm.findClass "FoldedVoicesLaw" = some m.cls := hown
  have hX : va_X b L xs s s.heap := (hX0.1.1.kept (hM.2.1.2 b hX0.1.2)).moved hV
  have hbl : b < s.heap.size := Nat.lt_of_lt_of_le hX0.1.2 hM.2.1.1
  have hbA : ¬ gA G b := by unfold gA; have := hX0.1.2; omega
  have hS : va_S (gA G) s.heap s.heap [] := va_S.rf
  have hl : lv_has ls 2 [(0, .ref b), (1, .int i)] := hl
  refine lv_iload_n hx hb dL_cell_0 rfl (lv_at hl 1 rfl) ?_
  refine lv_aload_n hx hb dL_cell_1 rfl (lv_at hl 0 rfl) ?_
  refine va_slen hx hb hX hbl hbA hS dL_cell_2 ?_
  unfold cellv
  refine lv_icmp_ge (tgt := 12) hx hb dL_cell_3 (by decide) (fun g => ?_) (fun g => ?_)
  · rw [if_pos g]
    refine lv_ldc hx hb hown (tk_294 hts) dL_cell_12 ?_
    refine lv_iload_n hx hb dL_cell_14 rfl (lv_at hl 1 rfl) ?_
    refine lv_iconst (v := 1) hx hb dL_cell_15 (by decide) ?_
    refine lv_iadd hx hb dL_cell_16 ?_
    refine lv_imul hx hb dL_cell_17 ?_
    exact e_i hx hb hr hlocks hM hS dL_cell_18
  · rw [if_neg g]
    refine lv_aload_n hx hb dL_cell_6 rfl (lv_at hl 0 rfl) ?_
    refine lv_iload_n hx hb dL_cell_7 rfl (lv_at hl 1 rfl) ?_
    have hi : ix i L := by
      have hL := hX0.2
      have e1 : (Int32.ofNat L).toInt = (L : Int) := nI_toInt (n := L) (by omega)
      rw [Int32.le_iff_toInt_le, e1] at g
      rw [Int32.le_iff_toInt_le] at h0
      have z : (0 : Int32).toInt = 0 := by decide
      rintro (h1 | h1)
      · rw [Int32.lt_iff_toInt_lt] at h1; omega
      · have e2 : i.toNatClampNeg = i.toInt.toNat := rfl
        omega
    refine va_sld hx hb hX hbl hbA hS hi dL_cell_8 ?_
    refine lv_goto (tgt := 18) hx hb dL_cell_9 (by decide) ?_
    exact e_i hx hb hr hlocks hM hS dL_cell_18
