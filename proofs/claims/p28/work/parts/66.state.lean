/-! THE CLASS. States, all of the object; what a change leaves -/
def vo (r : Nat → Int32) (v : Nat) : Nat → Int32 := fun k => r (5 + 207 * v + k)
/-- a state of the class holds a row -/
def RS (M : Mem) (s n : Nat) (r : Nat → Int32) : Prop := (∀ v, v < 3 → RV M (s + 4 + 44 * v) (vo r v) ∧ WB n (vo r v)) ∧ (RSet M (s + 2) r ∧ RB r) ∧ mI M (s + 5) 1 + mI M (s + 49) 1 + mI M (s + 93) 1 = r 4
def bI (b : Bool) : Int32 := if b then 1 else 0
/-- the object at x: n bounds the packets; r the row, q the snapshot, b whether there is one, g the saved rows, c how many; t the text, l its length -/
def CI (x : Nat) (M : Mem) (n : Nat) (r q : Nat → Int32) (b : Bool) (g : Nat → Nat → Int32) (c : Nat) (t : Nat → Int32) (l : Nat) : Prop :=
  RS M (x + 1) n r ∧ (mI M x 2 = bI b ∧ (b = true → RS M (x + 137) n q)) ∧ (mI M x 4 = nI c ∧ c ≤ 6 ∧ ∀ j, j < c → RS M (mR M (x + 273) j) n (g j)) ∧ ((∀ j, j < 6 → ∃ i, i < 6 ∧ mR M (x + 273) j = x + 279 + 136 * i) ∧ ∀ i j, i < 6 → j < 6 → mR M (x + 273) i = mR M (x + 273) j → i = j) ∧ (WS M (x + 1) ∧ WS M (x + 137) ∧ ∀ i, i < 6 → WS M (x + 279 + 136 * i)) ∧ mI M (x + 274) 1 = nI l ∧ l ≤ 60 ∧ ∀ i, i < l → mI M (x + 275) i = t i ∧ ∃ a, 33 ≤ a ∧ a ≤ 126 ∧ t i = nI a
/-- nothing outside the object has changed -/
def Out (x : Nat) (M M' : Mem) : Prop := (∀ b, b < x ∨ x + 1095 ≤ b → mI M' b = mI M b) ∧ (∀ b, b < x ∨ x + 1095 ≤ b → mR M' b = mR M b) ∧ M'.2.2 = M.2.2
section CSTATE
variable {M M1 M' : Mem} {x a s d n m c l v e : Nat} {r q r' w t : Nat → Int32} {g : Nat → Nat → Int32} {b : Bool} {y : Int32}
theorem Out.rf : Out x M M := ⟨fun _ _ => rfl, fun _ _ => rfl, rfl⟩
theorem Out.trans (h : Out x M M1) (h2 : Out x M1 M') : Out x M M' := ⟨fun b hb => (h2.1 b hb).trans (h.1 b hb), fun b hb => (h2.2.1 b hb).trans (h.2.1 b hb), h2.2.2.trans h.2.2⟩
theorem Out.of2 (h : ∀ b, b < x ∨ x + 1095 ≤ b → mI M' b = mI M b) (h2 : M'.2 = M.2) : Out x M M' := ⟨h, fun _ _ => mR_of2 h2, by rw [h2]⟩
theorem FrV.out (h : FrV M M' a) (h1 : x ≤ a) (h2 : a + 44 ≤ x + 1095) : Out x M M' := ⟨fun b hb => h.1 b (by omega), fun b hb => h.2.1 b (by omega), h.2.2⟩
theorem WS.fr (h : WS M s) (hb : ∀ b, s + 4 ≤ b → b < s + 136 → mI M' b = mI M b) (hr : ∀ b, s + 4 ≤ b → b < s + 136 → mR M' b = mR M b) : WS M' s := fun v hv => (h v hv).same (fun b h1 h2 => hb b (by omega) (by omega)) (hr _ (by omega) (by omega))
theorem RS.fr (h : RS M s n r) (hW : WS M s) (hb : ∀ b, s + 3 ≤ b → b < s + 136 → mI M' b = mI M b) (hr : ∀ b, s + 4 ≤ b → b < s + 136 → mR M' b = mR M b) : RS M' s n r := by
  refine ⟨fun v hv => ⟨(h.1 v hv).1.tr (VoEq.same (fun b h1 h2 => hb b (by omega) (by omega)) (hr _ (by omega) (by omega)) (hW v hv).1), (h.1 v hv).2⟩, ⟨fun i hi => ?_, h.2.1.2⟩, ?_⟩
  · rw [hb (s + 2 + 1) (by omega) (by omega)]
    exact h.2.1.1 i hi
  · rw [hb (s + 5) (by omega) (by omega), hb (s + 49) (by omega) (by omega), hb (s + 93) (by omega) (by omega)]
    exact h.2.2
theorem RS.mono (h : RS M s n r) (hm : n ≤ m) : RS M s m r := ⟨fun v hv => ⟨(h.1 v hv).1, (h.1 v hv).2.mono hm⟩, h.2⟩
theorem RB.congr (h : RB r) (hw : ∀ i, i < 4 → r i = q i) : RB q := by
  unfold RB
  rw [← hw 0 (by decide), ← hw 1 (by decide), ← hw 2 (by decide), ← hw 3 (by decide)]
  exact h
theorem RS.congr (h : RS M s n r) (hw : ∀ i, i < 626 → r i = q i) : RS M s n q := by
  refine ⟨fun v hv => ⟨(h.1 v hv).1.congr fun i hi => hw _ (by omega), (h.1 v hv).2.congr fun i hi => hw _ (by omega)⟩, ⟨fun i hi => (h.2.1.1 i hi).trans (hw i (by omega)), h.2.1.2.congr fun i hi => hw i (by omega)⟩, h.2.2.trans (hw 4 (by decide))⟩
theorem RS.tr (h : RS M s n r) (hE : StEq M' d M s) : RS M' d n r := by
  refine ⟨fun v hv => ⟨(h.1 v hv).1.tr (hE.1 v hv), (h.1 v hv).2⟩, ⟨fun i hi => (hE.2 i hi).trans (h.2.1.1 i hi), h.2.1.2⟩, ?_⟩
  have e0 : mI M' (d + 5) 1 = mI M (s + 5) 1 := (hE.1 0 (by decide)).1.1 (1, 1) (by decide)
  have e1 : mI M' (d + 49) 1 = mI M (s + 49) 1 := (hE.1 1 (by decide)).1.1 (1, 1) (by decide)
  have e2 : mI M' (d + 93) 1 = mI M (s + 93) 1 := (hE.1 2 (by decide)).1.1 (1, 1) (by decide)
  rw [e0, e1, e2]
  exact h.2.2
theorem CI.mono (h : CI x M n r q b g c t l) (hm : n ≤ m) : CI x M m r q b g c t l := ⟨h.1.mono hm, ⟨h.2.1.1, fun hb => (h.2.1.2 hb).mono hm⟩, ⟨h.2.2.1.1, h.2.2.1.2.1, fun j hj => (h.2.2.1.2.2 j hj).mono hm⟩, h.2.2.2⟩
/-- a change that no state sees -/
theorem CI.fr (h : CI x M n r q b g c t l) (hb : ∀ b, x ≤ b → b < x + 1095 → b ≠ x + 274 → b ≠ x + 276 → b ≠ x + 277 → b ≠ x + 278 → mI M' b = mI M b) (hr : ∀ b, x ≤ b → b < x + 1095 → mR M' b = mR M b) (h1 : mI M' (x + 274) 1 = mI M (x + 274) 1) : CI x M' n r q b g c t l := by
  obtain ⟨a1, ⟨a2, a3⟩, ⟨a4, a5, a6⟩, ⟨a7, a8⟩, ⟨a9, a10, a11⟩, a12, a13, a14⟩ := h
  have e273 : mR M' (x + 273) = mR M (x + 273) := hr _ (by omega) (by omega)
  have e0 : mI M' x = mI M x := hb x (by omega) (by omega) (by omega) (by omega) (by omega) (by omega)
  refine ⟨a1.fr a9 (fun b _ _ => hb b (by omega) (by omega) (by omega) (by omega) (by omega) (by omega)) (fun b _ _ => hr b (by omega) (by omega)), ⟨by rw [e0]; exact a2, fun hbt => (a3 hbt).fr a10 (fun b _ _ => hb b (by omega) (by omega) (by omega) (by omega) (by omega) (by omega)) (fun b _ _ => hr b (by omega) (by omega))⟩, ⟨by rw [e0]; exact a4, a5, fun j hj => ?_⟩, ⟨fun j hj => by rw [e273]; exact a7 j hj, fun i j hi hj => by rw [e273]; exact a8 i j hi hj⟩, ⟨a9.fr (fun b _ _ => hb b (by omega) (by omega) (by omega) (by omega) (by omega) (by omega)) (fun b _ _ => hr b (by omega) (by omega)), a10.fr (fun b _ _ => hb b (by omega) (by omega) (by omega) (by omega) (by omega) (by omega)) (fun b _ _ => hr b (by omega) (by omega)), fun i hi => (a11 i hi).fr (fun b _ _ => hb b (by omega) (by omega) (by omega) (by omega) (by omega) (by omega)) (fun b _ _ => hr b (by omega) (by omega))⟩, h1.trans a12, a13, fun i hi => by rw [hb (x + 275) (by omega) (by omega) (by omega) (by omega) (by omega) (by omega)]; exact a14 i hi⟩
  obtain ⟨i, hi, ei⟩ := a7 j (by omega)
  rw [e273]
  have hw := a11 i hi
  rw [← ei] at hw
  exact (a6 j hj).fr hw (fun b _ _ => hb b (by omega) (by omega) (by omega) (by omega) (by omega) (by omega)) (fun b _ _ => hr b (by omega) (by omega))
/-- a change of one live voice -/
theorem CI.live (h : CI x M n r q b g c t l) (hv : v < 3) (hF : FrV M M' (x + 5 + 44 * v)) (hV : RV M' (x + 5 + 44 * v) w) (hW : WR M' (x + 5 + 44 * v)) (hB : WB m w) (hm : n ≤ m) (hs : mI M' (x + 5 + 44 * v + 1) 1 = mI M (x + 5 + 44 * v + 1) 1 + y) (hr : ∀ i, i ≠ 4 → r' i = r i) (hr4 : r' 4 = r 4 + y) : CI x M' m (pv v r' w) q b g c t l ∧ Out x M M' := by
  refine ⟨?_, hF.out (by omega) (by omega)⟩
  obtain ⟨a1, ⟨a2, a3⟩, ⟨a4, a5, a6⟩, ⟨a7, a8⟩, ⟨a9, a10, a11⟩, a12, a13, a14⟩ := h
  have hb := hF.1
  have hR := hF.2.1
  have e273 : mR M' (x + 273) = mR M (x + 273) := hR _ (by omega)
  refine ⟨⟨fun u hu => ?_, ⟨fun i hi => ?_, a1.2.1.2.congr fun i hi => ?_⟩, ?_⟩, ⟨by rw [hb x (by omega)]; exact a2, fun hbt => ((a3 hbt).mono hm).fr a10 (fun b _ _ => hb b (by omega)) (fun b _ _ => hR b (by omega))⟩, ⟨by rw [hb x (by omega)]; exact a4, a5, fun j hj => ?_⟩, ⟨fun j hj => by rw [e273]; exact a7 j hj, fun i j hi hj => by rw [e273]; exact a8 i j hi hj⟩, ⟨fun u hu => ?_, a10.fr (fun b _ _ => hb b (by omega)) (fun b _ _ => hR b (by omega)), fun i hi => (a11 i hi).fr (fun b _ _ => hb b (by omega)) (fun b _ _ => hR b (by omega))⟩, by rw [hb _ (by omega)]; exact a12, a13, fun i hi => by rw [hb _ (by omega)]; exact a14 i hi⟩
  · by_cases huv : u = v
    · subst huv
      have e : ∀ i, i < 207 → w i = vo (pv u r' w) u i := fun i hi => (pv_at hi).symm
      exact ⟨hV.congr e, hB.congr e⟩
    · have e : ∀ i, i < 207 → vo r u i = vo (pv v r' w) u i := fun i hi => by
        unfold vo pv
        rw [if_neg (by omega), hr _ (by omega)]
      have h1 := a1.1 u hu
      exact ⟨(h1.1.tr (VoEq.same (fun b _ _ => hb b (by omega)) (hR _ (by omega)) (a9 u hu).1)).congr e, (h1.2.mono hm).congr e⟩
  · rw [hb _ (by omega), pv_lo (by omega), hr _ (by omega)]
    exact a1.2.1.1 i hi
  · rw [pv_lo (by omega), hr _ (by omega)]
  · rw [pv_lo (by decide), hr4, ← a1.2.2]
    have k : ∀ u, u < 3 → u ≠ v → mI M' (x + 1 + 5 + 44 * u) 1 = mI M (x + 1 + 5 + 44 * u) 1 := fun u _ hne => by rw [hb _ (by omega)]
    have k0 := k 0 (by decide)
    have k1 := k 1 (by decide)
    have k2 := k 2 (by decide)
    match v, hv, hs, k0, k1, k2 with
    | 0, _, hs, k0, k1, k2 =>
      have hs : mI M' (x + 1 + 5) 1 = mI M (x + 1 + 5) 1 + y := hs
      have k1 : mI M' (x + 1 + 49) 1 = mI M (x + 1 + 49) 1 := k1 (by decide)
      have k2 : mI M' (x + 1 + 93) 1 = mI M (x + 1 + 93) 1 := k2 (by decide)
      rw [hs, k1, k2]
      generalize mI M (x + 1 + 5) 1 = A
      generalize mI M (x + 1 + 49) 1 = B
      generalize mI M (x + 1 + 93) 1 = C
      rw [Int32.add_assoc A, Int32.add_comm y, ← Int32.add_assoc A, Int32.add_assoc, Int32.add_comm y, ← Int32.add_assoc]
    | 1, _, hs, k0, k1, k2 =>
      have hs : mI M' (x + 1 + 49) 1 = mI M (x + 1 + 49) 1 + y := hs
      have k0 : mI M' (x + 1 + 5) 1 = mI M (x + 1 + 5) 1 := k0 (by decide)
      have k2 : mI M' (x + 1 + 93) 1 = mI M (x + 1 + 93) 1 := k2 (by decide)
      rw [hs, k0, k2]
      generalize mI M (x + 1 + 5) 1 = A
      generalize mI M (x + 1 + 49) 1 = B
      generalize mI M (x + 1 + 93) 1 = C
      rw [← Int32.add_assoc A, Int32.add_assoc (A + B), Int32.add_comm y, ← Int32.add_assoc]
    | 2, _, hs, k0, k1, k2 =>
      have hs : mI M' (x + 1 + 93) 1 = mI M (x + 1 + 93) 1 + y := hs
      have k0 : mI M' (x + 1 + 5) 1 = mI M (x + 1 + 5) 1 := k0 (by decide)
      have k1 : mI M' (x + 1 + 49) 1 = mI M (x + 1 + 49) 1 := k1 (by decide)
      rw [hs, k0, k1]
      exact (Int32.add_assoc _ _ _).symm
  · obtain ⟨i, hi, ei⟩ := a7 j (by omega)
    rw [e273]
    have hw := a11 i hi
    rw [← ei] at hw
    exact ((a6 j hj).mono hm).fr hw (fun b _ _ => hb b (by omega)) (fun b _ _ => hR b (by omega))
  · by_cases huv : u = v
    · subst huv; exact hW
    · exact (a9 u hu).same (fun b _ _ => hb b (by omega)) (hR _ (by omega))
theorem CI.rv (h : CI x M n r q b g c t l) (hv : v < 3) : RV M (x + 5 + 44 * v) (vo r v) ∧ WR M (x + 5 + 44 * v) ∧ WB n (vo r v) ∧ RSet M (x + 1 + 2) r ∧ RB r := by
  have h1 := h.1.1 v hv
  exact ⟨h1.1, h.2.2.2.2.1.1 v hv, h1.2, h.1.2.1⟩
/-- another live state: the snapshot or a saved one comes back -/
theorem CI.put (h : CI x M n r q b g c t l) (hS : RS M' (x + 1) n r') (hW : WS M' (x + 1)) (hb : ∀ b, b < x + 1 ∨ x + 137 ≤ b → mI M' b = mI M b) (h2 : M'.2 = M.2) : CI x M' n r' q b g c t l := by
  obtain ⟨a1, ⟨a2, a3⟩, ⟨a4, a5, a6⟩, ⟨a7, a8⟩, ⟨a9, a10, a11⟩, a12, a13, a14⟩ := h
  have hR : ∀ b, mR M' b = mR M b := fun b => mR_of2 h2
  refine ⟨hS, ⟨by rw [hb x (by omega)]; exact a2, fun hbt => (a3 hbt).fr a10 (fun b _ _ => hb b (by omega)) (fun b _ _ => hR b)⟩, ⟨by rw [hb x (by omega)]; exact a4, a5, fun j hj => ?_⟩, ⟨fun j hj => by rw [hR]; exact a7 j hj, fun i j hi hj => by rw [hR]; exact a8 i j hi hj⟩, ⟨hW, a10.fr (fun b _ _ => hb b (by omega)) (fun b _ _ => hR b), fun i hi => (a11 i hi).fr (fun b _ _ => hb b (by omega)) (fun b _ _ => hR b)⟩, by rw [hb _ (by omega)]; exact a12, a13, fun i hi => by rw [hb _ (by omega)]; exact a14 i hi⟩
  obtain ⟨i, hi, ei⟩ := a7 j (by omega)
  rw [hR]
  have hw := a11 i hi
  rw [← ei] at hw
  exact (a6 j hj).fr hw (fun b _ _ => hb b (by omega)) (fun b _ _ => hR b)
end CSTATE
