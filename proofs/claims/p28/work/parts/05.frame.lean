/-! MEMORY: what the objects of both systems hold, by address and slot; kinds of addresses; the heap holds a memory -/
abbrev Mem : Type := (Nat → Nat → Int32) × (Nat → Nat → Nat) × (Nat → Int64) × (Nat → UInt64)
def mI (M : Mem) (a k : Nat) : Int32 := M.1 a k
def sI (M : Mem) (a k : Nat) (v : Int32) : Mem := (fun b => if b = a then upd (M.1 b) k v else M.1 b, M.2)
def mR (M : Mem) (a k : Nat) : Nat := M.2.1 a k
def sR (M : Mem) (a k : Nat) (v : Nat) : Mem := (M.1, fun b j => if b = a ∧ j = k then v else M.2.1 b j, M.2.2)
def mJ (M : Mem) (a : Nat) : Int64 := M.2.2.1 a
def sJ (M : Mem) (a : Nat) (v : Int64) : Mem := (M.1, M.2.1, fun b => if b = a then v else M.2.2.1 b, M.2.2.2)
def mD (M : Mem) (a : Nat) : UInt64 := M.2.2.2 a
def sD (M : Mem) (a : Nat) (v : UInt64) : Mem := (M.1, M.2.1, M.2.2.1, fun b => if b = a then v else M.2.2.2 b)
/-- the start of the law, the classes' numbers and slots, the array classes' numbers (0 int, 1 char, 2 Packet, 3 Voice, 4 State, 5 long, 6 double), the kinds of addresses -/
abbrev Gt : Type := State × va_G × (Nat → ClassId) × (Nat → Nat)
def gS (G : Gt) : State := G.1
def gD (G : Gt) : va_G := G.2.1
def gC (G : Gt) : Nat → ClassId := G.2.2.1
def gK (G : Gt) : Nat → Nat := G.2.2.2
def gB (G : Gt) : Nat := (gS G).heap.size
abbrev gT (G : Gt) : List (ClassId × FieldType) := [(gC G 0, .int), (gC G 1, .char), (gC G 2, .object "FoldedVoices$Packet"), (gC G 3, .object "FoldedVoices$Voice"), (gC G 4, .object "FoldedVoices$State")]
def cob (M : Mem) (a : Nat) : Nat → Option va_E := fun k => match k with
  | 1 => some (.inr (0, [.int (mI M a 0), .int (mI M a 1)]))
  | 2 => some (.inr (1, [.ref (a + 1), .int (mI M a 1), .int (mI M a 2), .int (mI M a 3), .int (mI M a 4), .int (mI M a 5), .int (mI M a 6), .int (mI M a 7), .int (mI M a 8), .int (mI M a 9)]))
  | 3 => some (.inr (2, [.ref (a + 1), .ref (a + 2), .int (mI M a 2), .int (mI M a 3), .int (mI M a 4), .ref (a + 3)]))
  | 4 => some (.inr (3, [.ref (a + 1), .int (mI M a 1), .int (mI M a 2), .int (mI M a 3), .ref (a + 2), .int (mI M a 5), .int (mI M a 6), .int (mI M a 7), .ref (a + 6), .ref (a + 7), .int (mI M a 10)]))
  | 5 => some (.inr (4, [.ref (a + 1)]))
  | 6 => some (.inr (5, [.ref (a + 1), .ref (a + 2)]))
  | 7 => some (.inr (6, [.ref (a + 1), .int (mI M a 1), .int (mI M a 2), .int (mI M a 3), .int (mI M a 4), .int (mI M a 5), .int (mI M a 6)]))
  | 8 => some (.inr (7, [.ref (a + 1), .ref (a + 9), .ref (a + 11), .int (mI M a 3), .int (mI M a 4)]))
  | 9 => some (.inr (8, [.ref (a + 1), .ref (a + 137), .int (mI M a 2), .ref (a + 273), .int (mI M a 4), .ref (a + 274), .ref (a + 276), .ref (a + 277)]))
  | _ => none
/-- the cell of an address of kind k: 1 to 10 an object; 1000 + n an int row of n, 5000 + n a char row, 6000 + n a row of packets, 7000 + n of voices, 8000 + n of states, 9000 + n of longs, 10000 + n of doubles -/
def cel (G : Gt) (M : Mem) (a : Nat) : Option va_E :=
  if gK G a < 1000 then cob M a (gK G a)
  else if gK G a < 5000 then some (.inl (gC G 0, gK G a - 1000, .inl (mI M a)))
  else if gK G a < 6000 then some (.inl (gC G 1, gK G a - 5000, .inl (mI M a)))
  else if gK G a < 7000 then some (.inl (gC G 2, gK G a - 6000, .inr (.inr (.inr (.inr fun j => some (mR M a j))))))
  else if gK G a < 8000 then some (.inl (gC G 3, gK G a - 7000, .inr (.inr (.inr (.inr fun j => some (a + 3 + 44 * j))))))
  else if gK G a < 9000 then some (.inl (gC G 4, gK G a - 8000, .inr (.inr (.inr (.inr fun j => some (mR M a j))))))
  else if gK G a < 10000 then some (.inl (gC G 5, gK G a - 9000, .inr (.inl fun _ => mJ M a)))
  else some (.inl (gC G 6, gK G a - 10000, .inr (.inr (.inr (.inl fun _ => mD M a)))))
/-- references that change keep their kinds -/
def wfM (G : Gt) (M : Mem) : Prop := (∀ a j, gK G a = 6008 → j < 8 → gK G (mR M a j) = 3) ∧ (∀ a j, gK G a = 8006 → j < 6 → gK G (mR M a j) = 6)
def Mh (G : Gt) (M : Mem) (H : Heap) : Prop := (∀ a e, cel G M a = some e → va_at (gD G) vwCl (a, e) H) ∧ (gB G ≤ H.size ∧ ∀ q : Nat, q < gB G → H[q]? = (gS G).heap[q]?) ∧ wfM G M
/-- words that stay true when the tables warm up -/
def tw (w : Cond) : Bool := match w with
  | .fieldLinkNest .. => true
  | .methodLinkNest .. => true
  | .arrayClass _ => true
  | w => w.onTables && w.keepsFace
theorem tw_moves {s U : State} {a a' : Array Value} {w : Cond} (hW : s.WarmedH U.vm) (ht : tw w = true) (h : w.before a s = true) : w.before a' U = true := by
  cases w with
  | fieldLinkNest _ _ _ _ _ _ => exact va_Nw.use rfl (va_Nw.warmF hW (va_Nw.of rfl h))
  | methodLinkNest _ _ _ _ => exact va_Nw.use rfl (va_Nw.warmM hW (va_Nw.of rfl h))
  | arrayClass ty => exact word_at hW (Or.inr ⟨_, rfl⟩) h
  | _ =>
    have hq := ht
    simp only [tw, Bool.and_eq_true] at hq
    exact va_tabs hq.1 (rfl : (s.setVm U.vm).vm = U.vm) (Cond.before_shiftedFace (State.Shifted.of_warmed hW) _ hq.2 h)
/-- the texts of the exceptions, by their places in the class's pool -/
def lw_strs : List (Nat × String) := []
def KK (U : State) : Prop := (∀ w ∈ lw_tbl, tw w = true → ∀ a : Array Value, w.before a U = true) ∧ ∀ q ∈ lw_strs, ∃ a : Nat, vk_R "FoldedVoices" q.1 q.2 a U
theorem KK.moves {s U : State} (hW : s.WarmedH U.vm) (h : KK s) : KK U := ⟨fun w hw ht a => tw_moves (a := #[]) hW ht (h.1 w hw ht #[]), fun q hq => by
  obtain ⟨a, ha⟩ := h.2 q hq
  exact ⟨a, ha.warm hW⟩⟩
theorem KK.blind {U : State} {g : JFrame} {mk : MethodId} {a : Array Value} (h : KK U) : KK (U.calling g mk a) := KK.moves (show U.WarmedH (U.calling g mk a).vm from State.WarmedH.refl U) h
theorem Mh.one {G : Gt} {M : Mem} {H : Heap} (h : Mh G M H) {a : Nat} {e : va_E} (hc : cel G M a = some e) : va_P (gD G) vwCl [(a, e)] H := fun k q hk => by
  match k, hk with
  | 0, hk => cases hk; exact h.1 a e hc
  | k + 1, hk => simp at hk
theorem Mh.put {G : Gt} {M M' : Mem} {H H1 : Heap} (h : Mh G M H) {a : Nat} {e : va_E} (hc : cel G M' a = some e) (he : va_at (gD G) vwCl (a, e) H1) (hz : H1.size = H.size) (hq : ∀ q : Nat, q ≠ a → H1[q]? = H[q]?) (hne : ∀ b, b ≠ a → cel G M' b = cel G M b) (ha : gB G ≤ a) (hw : wfM G M') : Mh G M' H1 := by
  refine ⟨fun b e1 hb => ?_, ⟨by rw [hz]; exact h.2.1.1, fun q hlt => by rw [hq q (by omega)]; exact h.2.1.2 q hlt⟩, hw⟩
  by_cases hba : b = a
  · subst hba
    rw [hc] at hb
    cases hb
    exact he
  · rw [hne b hba] at hb
    exact (h.1 b e1 hb).kept (hq b hba)
def gA (G : Gt) : Nat → Prop := fun q => gB G ≤ q
theorem gA_new {G : Gt} {M : Mem} {H : Heap} (h : Mh G M H) : ∀ q : Nat, H.size ≤ q → gA G q := fun q hq => Nat.le_trans h.2.1.1 hq
theorem cel_sI {G : Gt} {M : Mem} {a k : Nat} {v : Int32} (b : Nat) (hb : b ≠ a) : cel G (sI M a k v) b = cel G M b := by
  have e1 : mI (sI M a k v) b = mI M b := by funext j; simp [mI, sI, hb]
  have e2 : mR (sI M a k v) b = mR M b := rfl
  have e3 : mJ (sI M a k v) b = mJ M b := rfl
  have e4 : mD (sI M a k v) b = mD M b := rfl
  simp only [cel, cob, e1, e2, e3, e4]
theorem cel_sR {G : Gt} {M : Mem} {a k : Nat} {v : Nat} (b : Nat) (hb : b ≠ a) : cel G (sR M a k v) b = cel G M b := by
  have e1 : mI (sR M a k v) b = mI M b := rfl
  have e2 : mR (sR M a k v) b = mR M b := by funext j; simp [mR, sR, hb]
  have e3 : mJ (sR M a k v) b = mJ M b := rfl
  have e4 : mD (sR M a k v) b = mD M b := rfl
  simp only [cel, cob, e1, e2, e3, e4]
theorem cel_sJ {G : Gt} {M : Mem} {a : Nat} {v : Int64} (b : Nat) (hb : b ≠ a) : cel G (sJ M a v) b = cel G M b := by
  have e1 : mI (sJ M a v) b = mI M b := rfl
  have e2 : mR (sJ M a v) b = mR M b := rfl
  have e3 : mJ (sJ M a v) b = mJ M b := by simp [mJ, sJ, hb]
  have e4 : mD (sJ M a v) b = mD M b := rfl
  simp only [cel, cob, e1, e2, e3, e4]
theorem cel_sD {G : Gt} {M : Mem} {a : Nat} {v : UInt64} (b : Nat) (hb : b ≠ a) : cel G (sD M a v) b = cel G M b := by
  have e1 : mI (sD M a v) b = mI M b := rfl
  have e2 : mR (sD M a v) b = mR M b := rfl
  have e3 : mJ (sD M a v) b = mJ M b := rfl
  have e4 : mD (sD M a v) b = mD M b := by simp [mD, sD, hb]
  simp only [cel, cob, e1, e2, e3, e4]
theorem mI_sI {M : Mem} {a k : Nat} {v : Int32} {b j : Nat} : mI (sI M a k v) b j = if b = a ∧ j = k then v else mI M b j := by
  by_cases h : b = a
  · subst h
    by_cases h2 : j = k
    · subst h2; simp [mI, sI, upd]
    · simp [mI, sI, upd, h2]
  · simp [mI, sI, h]
theorem mI_sR {M : Mem} {a k : Nat} {v : Nat} {b j : Nat} : mI (sR M a k v) b j = mI M b j := rfl
theorem mI_sJ {M : Mem} {a : Nat} {v : Int64} {b j : Nat} : mI (sJ M a v) b j = mI M b j := rfl
theorem mI_sD {M : Mem} {a : Nat} {v : UInt64} {b j : Nat} : mI (sD M a v) b j = mI M b j := rfl
theorem mR_sI {M : Mem} {a k : Nat} {v : Int32} {b j : Nat} : mR (sI M a k v) b j = mR M b j := rfl
theorem mR_sR {M : Mem} {a k : Nat} {v : Nat} {b j : Nat} : mR (sR M a k v) b j = if b = a ∧ j = k then v else mR M b j := rfl
theorem mR_sJ {M : Mem} {a : Nat} {v : Int64} {b j : Nat} : mR (sJ M a v) b j = mR M b j := rfl
theorem mR_sD {M : Mem} {a : Nat} {v : UInt64} {b j : Nat} : mR (sD M a v) b j = mR M b j := rfl
theorem mJ_sI {M : Mem} {a k : Nat} {v : Int32} {b : Nat} : mJ (sI M a k v) b = mJ M b := rfl
theorem mJ_sR {M : Mem} {a k : Nat} {v : Nat} {b : Nat} : mJ (sR M a k v) b = mJ M b := rfl
theorem mJ_sJ {M : Mem} {a : Nat} {v : Int64} {b : Nat} : mJ (sJ M a v) b = if b = a then v else mJ M b := rfl
theorem mJ_sD {M : Mem} {a : Nat} {v : UInt64} {b : Nat} : mJ (sD M a v) b = mJ M b := rfl
theorem mD_sI {M : Mem} {a k : Nat} {v : Int32} {b : Nat} : mD (sI M a k v) b = mD M b := rfl
theorem mD_sR {M : Mem} {a k : Nat} {v : Nat} {b : Nat} : mD (sR M a k v) b = mD M b := rfl
theorem mD_sJ {M : Mem} {a : Nat} {v : Int64} {b : Nat} : mD (sJ M a v) b = mD M b := rfl
theorem mD_sD {M : Mem} {a : Nat} {v : UInt64} {b : Nat} : mD (sD M a v) b = if b = a then v else mD M b := rfl
theorem wfM.sI {G : Gt} {M : Mem} {a k : Nat} {v : Int32} (h : wfM G M) : wfM G (sI M a k v) := h
theorem wfM.sJ {G : Gt} {M : Mem} {a : Nat} {v : Int64} (h : wfM G M) : wfM G (sJ M a v) := h
theorem wfM.sD {G : Gt} {M : Mem} {a : Nat} {v : UInt64} (h : wfM G M) : wfM G (sD M a v) := h
theorem wfM.sR {G : Gt} {M : Mem} {a k : Nat} {v : Nat} (h : wfM G M) (h1 : gK G a = 6008 → gK G v = 3) (h2 : gK G a = 8006 → gK G v = 6) : wfM G (sR M a k v) := by
  refine ⟨fun b j hb hj => ?_, fun b j hb hj => ?_⟩
  · rw [mR_sR]
    split
    · rename_i q; rw [q.1] at hb; exact h1 hb
    · exact h.1 b j hb hj
  · rw [mR_sR]
    split
    · rename_i q; rw [q.1] at hb; exact h2 hb
    · exact h.2 b j hb hj
