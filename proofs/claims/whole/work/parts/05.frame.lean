/-! MEMORY: what the objects of both systems hold, by address and slot; kinds of addresses; the heap holds a memory -/
abbrev Mem : Type := (Nat → Nat → Int32) × (Nat → Nat → Nat) × (Nat → Int64) × (Nat → UInt64)
def mI (M : Mem) (a k : Nat) : Int32 := M.1 a k
def sI (M : Mem) (a k : Nat) (v : Int32) : Mem := (fun b => if b = a then upd (M.1 b) k v else M.1 b, M.2)
def mR (M : Mem) (a k : Nat) : Nat := M.2.1 a k
def sR (M : Mem) (a k : Nat) (v : Nat) : Mem := (M.1, fun b j => if b = a ∧ j = k then v else M.2.1 b j, M.2.2)
def mJ (M : Mem) (a : Nat) : Int64 := M.2.2.1 a
def sJ (M : Mem) (a : Nat) (v : Int64) : Mem := (M.1, M.2.1, fun b => if b = a then v else M.2.2.1 b, M.2.2.2)
def mD (M : Mem) (a : Nat) : UInt64 := M.2.2.2 a
def sD (M : Mem) (a : Nat) (v : UInt64) : Mem := (M.1, M.2.1, M.2.2.1, fun b => if b = a then v else M.2.2.2 b)
/-- the start of the law, the classes' numbers and slots, the array classes' numbers (0 int, 1 char, 2 Packet, 3 Voice, 4 State, 5 long, 6 double), the kinds of addresses -/
abbrev Gt : Type := State × va_G × (Nat → ClassId) × (Nat → Nat)
def gS (G : Gt) : State := G.1
def gD (G : Gt) : va_G := G.2.1
def gC (G : Gt) : Nat → ClassId := G.2.2.1
def gK (G : Gt) : Nat → Nat := G.2.2.2
def gB (G : Gt) : Nat := (gS G).heap.size
abbrev gT (G : Gt) : List (ClassId × FieldType) := [(gC G 0, .int), (gC G 1, .char), (gC G 2, .object "FoldedVoices$Packet"), (gC G 3, .object "FoldedVoices$Voice"), (gC G 4, .object "FoldedVoices$State"), (gC G 5, .long), (gC G 6, .double)]
def cob (M : Mem) (a : Nat) : Nat → Option va_E := fun k => match k with
  | 1 => some (.inr (0, [.int (mI M a 0), .int (mI M a 1)]))
  | 2 => some (.inr (1, [.ref (a + 1), .int (mI M a 1), .int (mI M a 2), .int (mI M a 3), .int (mI M a 4), .int (mI M a 5), .int (mI M a 6), .int (mI M a 7), .int (mI M a 8), .int (mI M a 9)]))
  | 3 => some (.inr (2, [.ref (a + 1), .ref (a + 2), .int (mI M a 2), .int (mI M a 3), .int (mI M a 4), .ref (a + 3)]))
  | 4 => some (.inr (3, [.ref (a + 1), .int (mI M a 1), .int (mI M a 2), .int (mI M a 3), .ref (a + 2), .int (mI M a 5), .int (mI M a 6), .int (mI M a 7), .ref (a + 6), .ref (a + 7), .int (mI M a 10)]))
  | 5 => some (.inr (4, [.ref (a + 1)]))
  | 6 => some (.inr (5, [.ref (a + 1), .ref (a + 2)]))
  | 7 => some (.inr (6, [.ref (a + 1), .int (mI M a 1), .int (mI M a 2), .int (mI M a 3), .int (mI M a 4), .int (mI M a 5), .int (mI M a 6)]))
  | 8 => some (.inr (7, [.ref (a + 1), .ref (a + 9), .ref (a + 11), .int (mI M a 3), .int (mI M a 4)]))
  | 9 => some (.inr (8, [.ref (a + 1), .ref (a + 137), .int (mI M a 2), .ref (a + 273), .int (mI M a 4), .ref (a + 274), .ref (a + 276), .ref (a + 277)]))
  | 10 => some (.inr (9, [.ref (a + 1), .ref (a + 2), .int (mI M a 2), .ref (a + 3), .int (mI M a 4), .ref (a + 4), .ref (a + 5), .int (mI M a 7), .ref (a + 6), .int (mI M a 9), .int (mI M a 10), .int (mI M a 11), .ref (a + 7), .ref (a + 8), .ref (a + 9), .long (mJ M a)]))
  | _ => none
/-- the cell of an address of kind k: 1 to 10 an object; 1000 + n an int row of n, 5000 + n a char row, 6000 + n a row of packets, 7000 + n of voices, 8000 + n of states, 9000 + n of longs, 10000 + n of doubles -/
def cel (G : Gt) (M : Mem) (a : Nat) : Option va_E :=
  if gK G a < 1000 then cob M a (gK G a)
  else if gK G a < 5000 then some (.inl (gC G 0, gK G a - 1000, .inl (mI M a)))
  else if gK G a < 6000 then some (.inl (gC G 1, gK G a - 5000, .inl (mI M a)))
  else if gK G a < 7000 then some (.inl (gC G 2, gK G a - 6000, .inr (.inr (.inr (.inr fun j => some (mR M a j))))))
  else if gK G a < 8000 then some (.inl (gC G 3, gK G a - 7000, .inr (.inr (.inr (.inr fun j => some (a + 3 + 44 * j))))))
  else if gK G a < 9000 then some (.inl (gC G 4, gK G a - 8000, .inr (.inr (.inr (.inr fun j => some (mR M a j))))))
  else if gK G a < 10000 then some (.inl (gC G 5, gK G a - 9000, .inr (.inl fun _ => mJ M a)))
  else some (.inl (gC G 6, gK G a - 10000, .inr (.inr (.inr (.inl fun _ => mD M a)))))
/-- references that change keep their kinds -/
def wfM (G : Gt) (M : Mem) : Prop := (∀ a j, gK G a = 6008 → j < 8 → gK G (mR M a j) = 3) ∧ (∀ a j, gK G a = 8006 → j < 6 → gK G (mR M a j) = 6)
def Mh (G : Gt) (M : Mem) (H : Heap) : Prop := (∀ a e, cel G M a = some e → va_at (gD G) vwCl (a, e) H) ∧ (gB G ≤ H.size ∧ ∀ q : Nat, q < gB G → H[q]? = (gS G).heap[q]?) ∧ wfM G M
/-- words that stay true when the tables warm up -/
def tw (w : Cond) : Bool := match w with
  | .fieldLinkNest .. => true
  | .methodLinkNest .. => true
  | .arrayClass _ => true
  | w => w.onTables && w.keeps
theorem tw_moves {s U : State} {a a' : Array Value} {w : Cond} (hW : s.WarmedH U.vm) (ht : tw w = true) (h : w.before a s = true) : w.before a' U = true := by
  cases w with
  | fieldLinkNest _ _ _ _ _ _ => exact va_Nw.use rfl (va_Nw.warmF hW (va_Nw.of rfl h))
  | methodLinkNest _ _ _ _ => exact va_Nw.use rfl (va_Nw.warmM hW (va_Nw.of rfl h))
  | arrayClass ty => exact word_at hW (Or.inr ⟨_, rfl⟩) h
  | _ => exact word_at hW (Or.inl ht) h
def KK (U : State) : Prop := ∀ w ∈ lw_tbl, tw w = true → ∀ a : Array Value, w.before a U = true
theorem KK.moves {s U : State} (hW : s.WarmedH U.vm) (h : KK s) : KK U := fun w hw ht a => tw_moves (a := #[]) hW ht (h w hw ht #[])
theorem KK.same {u U : State} (e : u.vm = U.vm) (h : KK u) : KK U := fun w hw ht a => by
  cases w with
  | arrayClass ty => have := h _ hw ht a; simpa [Cond.before, Cond.holds, Cond.value, State.arrayClass?, e] using this
  | fieldLinkNest _ _ _ _ _ _ => exact va_tabs rfl e (h _ hw ht a)
  | methodLinkNest _ _ _ _ => exact va_tabs rfl e (h _ hw ht a)
  | _ => exact va_tabs (by have q := ht; simp only [tw, Bool.and_eq_true] at q; exact q.1) e (h _ hw ht a)
theorem zz_look : True := trivial
