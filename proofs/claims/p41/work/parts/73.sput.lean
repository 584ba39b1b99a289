/-- a test's code -/
def ytw (W : zPH) (f m : Nat) : Prop := (∀ j, j < m → yrj W f j) ∧ zdp W f m = 1
def yCs (W : zPH) : Prop := 0 ≤ W 0 7 ∧ ∀ k : Nat, (k : Int) < W 0 7 → (0 ≤ W 9 k ∧ W 9 k ≤ 4) ∧ (W 9 k = 1 → (1 ≤ W 10 k ∧ W 10 k ≤ 7) ∧ (0 ≤ W 13 k ∧ W 13 k < 387420489) ∧ 0 ≤ W 14 k ∧ W 14 k ≤ 1600)
/-- tests that are there; and all code is theirs -/
def yTa (W : zPH) : Prop := ∀ m : Nat, (m : Int) < W 0 4 → (0 ≤ W 7 m ∧ W 7 m ≤ W 8 m ∧ W 8 m ≤ W 0 7) ∧ W 7 m = (if m = 0 then 0 else W 8 (m - 1)) ∧ ytw W (W 7 m).toNat (W 8 m - W 7 m).toNat
def yTl (W : zPH) : Int := if W 0 4 = 0 then 0 else W 8 ((W 0 4).toNat - 1)
/-- squares, pieces, names of a board under construction -/
def yOa (W : zPH) : Prop := zVd W ∧ yWm W ∧ (∀ q, ¬ zva W q → W 1 q = 0) ∧ (∀ q, W 1 q = 2 ∨ W 1 q = 3 → 0 ≤ W 2 q) ∧ ((∀ e : Nat, (e : Int) < W 0 5 → W 5 e ≠ -1) ∧ (∀ e : Nat, (e : Int) < W 0 4 → W 6 e ≠ -1) ∧ ∀ e : Nat, (e : Int) < W 0 2 → W 12 e ≠ -1) ∧ yNr W
def yOk (W : zPH) : Prop := yOa W ∧ yTa W ∧ W 0 7 = yTl W ∧ yCs W
theorem ygr_s {s : Int} (hs : 1 ≤ s ∧ s ≤ 9) : (s = 1 → ygr s = 2) ∧ (s = 2 ∨ s = 3 → ygr s = 3) ∧ (s = 8 ∨ s = 9 → ygr s = 4) ∧ (s = 7 → ygr s = 5) ∧ (s = 4 ∨ s = 5 ∨ s = 6 → ygr s = 8) ∧ (ygr s = 2 ↔ s = 1) ∧ (ygr s = 3 ↔ s = 2 ∨ s = 3) ∧ (ygr s = 4 ↔ s = 8 ∨ s = 9) ∧ (ygr s = 5 ↔ s = 7) ∧ (ygr s = 8 ↔ s = 4 ∨ s = 5 ∨ s = 6) := by
  have a1 : s = 1 → ygr s = 2 := fun z => by unfold ygr; rw [if_pos z]
  have a2 : s = 2 ∨ s = 3 → ygr s = 3 := fun z => by unfold ygr; rw [if_neg (by omega), if_pos z]
  have a3 : s = 8 ∨ s = 9 → ygr s = 4 := fun z => by unfold ygr; rw [if_neg (by omega), if_neg (by omega), if_pos z]
  have a4 : s = 7 → ygr s = 5 := fun z => by unfold ygr; rw [if_neg (by omega), if_neg (by omega), if_neg (by omega), if_pos z]
  have a5 : s = 4 ∨ s = 5 ∨ s = 6 → ygr s = 8 := fun z => by unfold ygr; rw [if_neg (by omega), if_neg (by omega), if_neg (by omega), if_neg (by omega)]
  exact ⟨a1, a2, a3, a4, a5, ⟨fun z => by omega, a1⟩, ⟨fun z => by omega, a2⟩, ⟨fun z => by omega, a3⟩, ⟨fun z => by omega, a4⟩, ⟨fun z => by omega, a5⟩⟩
section YP
variable {W : zPH} {s f w : Int} {q : Nat}
theorem yput_1 (k : Nat) : yput W s f w q 1 k = if k = q then s else W 1 k := by
  unfold yput; rw [if_neg (by decide)]
  by_cases y : k = q
  · rw [if_pos ⟨rfl, y⟩, if_pos y]
  · rw [if_neg (fun z => y z.2), if_neg (fun z => absurd z.1 (by decide)), if_neg (fun z => absurd z.1 (by decide)), if_neg (fun z => absurd z.1 (by decide)), if_neg (fun z => absurd z.1 (by decide)), if_neg (fun z => absurd z.1 (by decide)), if_neg (fun z => absurd z.1 (by decide)), if_neg (fun z => absurd z.1 (by decide)), if_neg y]
theorem yput_2 (k : Nat) : yput W s f w q 2 k = if k = q then (if ygr s = 8 then -1 else W 0 (ygr s)) else W 2 k := by
  unfold yput; rw [if_neg (by decide), if_neg (fun z => absurd z.1 (by decide))]
  by_cases y : k = q
  · rw [if_pos ⟨rfl, y⟩, if_pos y]
  · rw [if_neg (fun z => y z.2), if_neg (fun z => absurd z.1 (by decide)), if_neg (fun z => absurd z.1 (by decide)), if_neg (fun z => absurd z.1 (by decide)), if_neg (fun z => absurd z.1 (by decide)), if_neg (fun z => absurd z.1 (by decide)), if_neg (fun z => absurd z.1 (by decide)), if_neg y]
theorem yput_3 (k : Nat) : yput W s f w q 3 k = if k = q then f else W 3 k := by
  unfold yput; rw [if_neg (by decide), if_neg (fun z => absurd z.1 (by decide)), if_neg (fun z => absurd z.1 (by decide))]
  by_cases y : k = q
  · rw [if_pos ⟨rfl, y⟩, if_pos y]
  · rw [if_neg (fun z => y z.2), if_neg (fun z => absurd z.1 (by decide)), if_neg (fun z => absurd z.1 (by decide)), if_neg (fun z => absurd z.1 (by decide)), if_neg (fun z => absurd z.1 (by decide)), if_neg (fun z => absurd z.1 (by decide)), if_neg y]
theorem yput_4 (k : Nat) : yput W s f w q 4 k = if k = q then w else W 4 k := by
  unfold yput; rw [if_neg (by decide), if_neg (fun z => absurd z.1 (by decide)), if_neg (fun z => absurd z.1 (by decide)), if_neg (fun z => absurd z.1 (by decide))]
  by_cases y : k = q
  · rw [if_pos ⟨rfl, y⟩, if_pos y]
  · rw [if_neg (fun z => y z.2), if_neg (fun z => absurd z.1 (by decide)), if_neg (fun z => absurd z.1 (by decide)), if_neg (fun z => absurd z.1 (by decide)), if_neg (fun z => absurd z.1 (by decide)), if_neg y]
theorem yput_5 (h5 : 0 ≤ W 0 5) (k : Nat) : yput W s f w q 5 k = if s = 7 ∧ k = (W 0 5).toNat then (q : Int) else W 5 k := by
  unfold yput; rw [if_neg (by decide), if_neg (fun z => absurd z.1 (by decide)), if_neg (fun z => absurd z.1 (by decide)), if_neg (fun z => absurd z.1 (by decide)), if_neg (fun z => absurd z.1 (by decide))]
  by_cases y : s = 7 ∧ k = (W 0 5).toNat
  · rw [if_pos ⟨rfl, y.1, by omega⟩, if_pos y]
  · rw [if_neg (fun z => y ⟨z.2.1, by omega⟩), if_neg (fun z => absurd z.1 (by decide)), if_neg (fun z => absurd z.1 (by decide)), if_neg (fun z => absurd z.1 (by decide)), if_neg y]
theorem yput_6 (h4 : 0 ≤ W 0 4) (k : Nat) : yput W s f w q 6 k = if (s = 8 ∨ s = 9) ∧ k = (W 0 4).toNat then (q : Int) else W 6 k := by
  unfold yput; rw [if_neg (by decide), if_neg (fun z => absurd z.1 (by decide)), if_neg (fun z => absurd z.1 (by decide)), if_neg (fun z => absurd z.1 (by decide)), if_neg (fun z => absurd z.1 (by decide)), if_neg (fun z => absurd z.1 (by decide))]
  by_cases y : (s = 8 ∨ s = 9) ∧ k = (W 0 4).toNat
  · rw [if_pos ⟨rfl, y.1, by omega⟩, if_pos y]
  · rw [if_neg (fun z => y ⟨z.2.1, by omega⟩), if_neg (fun z => absurd z.1 (by decide)), if_neg (fun z => absurd z.1 (by decide)), if_neg y]
theorem yput_12 (h2 : 0 ≤ W 0 2) (k : Nat) : yput W s f w q 12 k = if s = 1 ∧ k = (W 0 2).toNat then (q : Int) else W 12 k := by
  unfold yput; rw [if_neg (by decide), if_neg (fun z => absurd z.1 (by decide)), if_neg (fun z => absurd z.1 (by decide)), if_neg (fun z => absurd z.1 (by decide)), if_neg (fun z => absurd z.1 (by decide)), if_neg (fun z => absurd z.1 (by decide)), if_neg (fun z => absurd z.1 (by decide))]
  by_cases y : s = 1 ∧ k = (W 0 2).toNat
  · rw [if_pos ⟨rfl, y.1, by omega⟩, if_pos y]
  · rw [if_neg (fun z => y ⟨z.2.1, by omega⟩), if_neg (fun z => absurd z.1 (by decide)), if_neg y]
theorem yput_8 (h4 : 0 ≤ W 0 4) (k : Nat) : yput W s f w q 8 k = if (s = 8 ∨ s = 9) ∧ k = (W 0 4).toNat then W 0 7 else W 8 k := by
  unfold yput; rw [if_neg (by decide), if_neg (fun z => absurd z.1 (by decide)), if_neg (fun z => absurd z.1 (by decide)), if_neg (fun z => absurd z.1 (by decide)), if_neg (fun z => absurd z.1 (by decide)), if_neg (fun z => absurd z.1 (by decide)), if_neg (fun z => absurd z.1 (by decide)), if_neg (fun z => absurd z.1 (by decide))]
  by_cases y : (s = 8 ∨ s = 9) ∧ k = (W 0 4).toNat
  · rw [if_pos ⟨rfl, y.1, by omega⟩, if_pos y]
  · rw [if_neg (fun z => y ⟨z.2.1, by omega⟩), if_neg y]
theorem yput_r {r : Nat} (hr : r = 7 ∨ (9 ≤ r ∧ r ≠ 12)) : yput W s f w q r = W r := by
  funext k
  unfold yput; rw [if_neg (by omega), if_neg (by omega), if_neg (by omega), if_neg (by omega), if_neg (by omega), if_neg (by omega), if_neg (by omega), if_neg (by omega), if_neg (by omega)]
/-- what a piece must be -/
def ypc (W : zPH) (s f w : Int) : Prop := (s = 1 → (0 ≤ f ∧ f < 8) ∧ 0 ≤ w ∧ w < 4) ∧ (s = 2 ∨ s = 3 ∨ s = 9 → f = 0 ∨ f = 1) ∧ (s = 4 → 0 ≤ f ∧ f < 8) ∧ (s = 5 ∨ s = 6 ∨ s = 7 → f = -1) ∧ (s = 8 → f = 0) ∧ (s = 7 → 0 ≤ W 20 (W 0 5).toNat ∧ W 20 (W 0 5).toNat < 387420489) ∧ (ygr s ≠ 8 → W 0 (ygr s) < ymx (ygr s))
theorem yput_cnt (hs : 1 ≤ s ∧ s ≤ 9) : (yput W s f w q 0 0 = W 0 0 ∧ yput W s f w q 0 1 = W 0 1 ∧ yput W s f w q 0 6 = W 0 6 + 1 ∧ yput W s f w q 0 7 = W 0 7) ∧ ((s = 1 ∧ yput W s f w q 0 2 = W 0 2 + 1) ∨ (s ≠ 1 ∧ yput W s f w q 0 2 = W 0 2)) ∧ (((s = 2 ∨ s = 3) ∧ yput W s f w q 0 3 = W 0 3 + 1) ∨ (¬ (s = 2 ∨ s = 3) ∧ yput W s f w q 0 3 = W 0 3)) ∧ (((s = 8 ∨ s = 9) ∧ yput W s f w q 0 4 = W 0 4 + 1) ∨ (¬ (s = 8 ∨ s = 9) ∧ yput W s f w q 0 4 = W 0 4)) ∧ ((s = 7 ∧ yput W s f w q 0 5 = W 0 5 + 1) ∨ (s ≠ 7 ∧ yput W s f w q 0 5 = W 0 5)) := by
  obtain ⟨g1, g2, g3, g4, g5, i2, i3, i4, i5, i8⟩ := ygr_s hs
  have z0 : ∀ k, yput W s f w q 0 k = if k = 6 then W 0 6 + 1 else if k = ygr s then W 0 k + 1 else W 0 k := yput_0 W s f w q
  have gv : ygr s = 2 ∨ ygr s = 3 ∨ ygr s = 4 ∨ ygr s = 5 ∨ ygr s = 8 := by omega
  refine ⟨⟨by rw [z0, if_neg (by decide), if_neg (by omega)], by rw [z0, if_neg (by decide), if_neg (by omega)], by rw [z0, if_pos rfl], by rw [z0, if_neg (by decide), if_neg (by omega)]⟩, ?_, ?_, ?_, ?_⟩
  · by_cases y : s = 1
    · exact Or.inl ⟨y, by rw [z0, if_neg (by decide), if_pos (i2.mpr y).symm]⟩
    · exact Or.inr ⟨y, by rw [z0, if_neg (by decide), if_neg (fun z => y (i2.mp z.symm))]⟩
  · by_cases y : s = 2 ∨ s = 3
    · exact Or.inl ⟨y, by rw [z0, if_neg (by decide), if_pos (i3.mpr y).symm]⟩
    · exact Or.inr ⟨y, by rw [z0, if_neg (by decide), if_neg (fun z => y (i3.mp z.symm))]⟩
  · by_cases y : s = 8 ∨ s = 9
    · exact Or.inl ⟨y, by rw [z0, if_neg (by decide), if_pos (i4.mpr y).symm]⟩
    · exact Or.inr ⟨y, by rw [z0, if_neg (by decide), if_neg (fun z => y (i4.mp z.symm))]⟩
  · by_cases y : s = 7
    · exact Or.inl ⟨y, by rw [z0, if_neg (by decide), if_pos (i5.mpr y).symm]⟩
    · exact Or.inr ⟨y, by rw [z0, if_neg (by decide), if_neg (fun z => y (i5.mp z.symm))]⟩
/-- numbers within a group: a piece's own list -/
theorem yput_new {r : Nat} {c c' : Int} {b : Prop} (h0 : 0 ≤ c) (hc : (b ∧ c' = c + 1) ∨ (¬ b ∧ c' = c)) {e : Nat} (he : (e : Int) < c') (hr : True) : (b ∧ e = c.toNat) ∨ (¬ (b ∧ e = c.toNat) ∧ (e : Int) < c) := by
  rcases hc with ⟨hb, hc⟩ | ⟨hb, hc⟩
  · by_cases y : e = c.toNat
    · exact Or.inl ⟨hb, y⟩
    · exact Or.inr ⟨fun z => y z.2, by omega⟩
  · exact Or.inr ⟨fun z => hb z.1, by omega⟩
theorem yput_own (hs : 1 ≤ s ∧ s ≤ 9) : yput W s f w q 1 q = s ∧ yput W s f w q 3 q = f ∧ yput W s f w q 4 q = w ∧ (s = 1 → yput W s f w q 2 q = W 0 2) ∧ (s = 2 ∨ s = 3 → yput W s f w q 2 q = W 0 3) ∧ (s = 8 ∨ s = 9 → yput W s f w q 2 q = W 0 4) ∧ (s = 7 → yput W s f w q 2 q = W 0 5) ∧ (s = 4 ∨ s = 5 ∨ s = 6 → yput W s f w q 2 q = -1) := by
  obtain ⟨g1, g2, g3, g4, g5, -⟩ := ygr_s hs
  rw [yput_1, yput_2, yput_3, yput_4, if_pos rfl, if_pos rfl, if_pos rfl, if_pos rfl]
  exact ⟨rfl, rfl, rfl, fun y => by rw [g1 y]; rfl, fun y => by rw [g2 y]; rfl, fun y => by rw [g3 y]; rfl, fun y => by rw [g4 y]; rfl, fun y => by rw [g5 y]; rfl⟩
theorem yput_va (hs : 1 ≤ s ∧ s ≤ 9) (k : Nat) : zva (yput W s f w q) k ↔ zva W k := by
  obtain ⟨⟨a, b, -⟩, -⟩ := yput_cnt (W := W) (f := f) (w := w) (q := q) hs
  unfold zva; rw [a, b]
theorem yput_old {k : Nat} (h : k ≠ q) : yput W s f w q 1 k = W 1 k ∧ yput W s f w q 2 k = W 2 k ∧ yput W s f w q 3 k = W 3 k ∧ yput W s f w q 4 k = W 4 k := by
  rw [yput_1, yput_2, yput_3, yput_4, if_neg h, if_neg h, if_neg h, if_neg h]; exact ⟨rfl, rfl, rfl, rfl⟩
/-- a piece's own cell -/
theorem yput_cell (hs : 1 ≤ s ∧ s ≤ 9) (h2 : 0 ≤ W 0 2) (h3 : 0 ≤ W 0 3) (h4 : 0 ≤ W 0 4) (h5 : 0 ≤ W 0 5) (c1 : s = 1 → (0 ≤ f ∧ f < 8) ∧ 0 ≤ w ∧ w < 4) (c2 : s = 2 ∨ s = 3 ∨ s = 9 → f = 0 ∨ f = 1) (c4 : s = 4 → 0 ≤ f ∧ f < 8) (c5 : s = 5 ∨ s = 6 ∨ s = 7 → f = -1) (c8 : s = 8 → f = 0) : (0 ≤ yput W s f w q 1 q ∧ yput W s f w q 1 q ≤ 9) ∧ (yput W s f w q 1 q = 1 → (0 ≤ yput W s f w q 2 q ∧ yput W s f w q 2 q < yput W s f w q 0 2) ∧ (0 ≤ yput W s f w q 3 q ∧ yput W s f w q 3 q < 8) ∧ (0 ≤ yput W s f w q 4 q ∧ yput W s f w q 4 q < 4) ∧ yput W s f w q 12 (yput W s f w q 2 q).toNat = (q : Int)) ∧ (yput W s f w q 1 q = 2 ∨ yput W s f w q 1 q = 3 → (-1 ≤ yput W s f w q 2 q ∧ yput W s f w q 2 q < yput W s f w q 0 3) ∧ (yput W s f w q 3 q = 0 ∨ yput W s f w q 3 q = 1)) ∧ (yput W s f w q 1 q = 4 → (0 ≤ yput W s f w q 3 q ∧ yput W s f w q 3 q < 8) ∧ yput W s f w q 2 q = -1) ∧ (yput W s f w q 1 q = 5 ∨ yput W s f w q 1 q = 6 → yput W s f w q 3 q = -1 ∧ yput W s f w q 2 q = -1) ∧ (yput W s f w q 1 q = 7 → (0 ≤ yput W s f w q 2 q ∧ yput W s f w q 2 q < yput W s f w q 0 5) ∧ yput W s f w q 3 q = -1 ∧ yput W s f w q 5 (yput W s f w q 2 q).toNat = (q : Int)) ∧ (yput W s f w q 1 q = 8 ∨ yput W s f w q 1 q = 9 → (0 ≤ yput W s f w q 2 q ∧ yput W s f w q 2 q < yput W s f w q 0 4) ∧ (yput W s f w q 3 q = 0 ∨ yput W s f w q 3 q = 1) ∧ yput W s f w q 6 (yput W s f w q 2 q).toNat = (q : Int)) ∧ (yput W s f w q 1 q = 8 → yput W s f w q 3 q = 0) := by
  obtain ⟨o1, o3, o4, n1, n2, n8, n7, n4⟩ := yput_own (W := W) (f := f) (w := w) (q := q) hs
  obtain ⟨-, k2, k3, k4, k5⟩ := yput_cnt (W := W) (f := f) (w := w) (q := q) hs
  have e12 := yput_12 (W := W) (s := s) (f := f) (w := w) (q := q) h2
  have e5 := yput_5 (W := W) (s := s) (f := f) (w := w) (q := q) h5
  have e6 := yput_6 (W := W) (s := s) (f := f) (w := w) (q := q) h4
  rw [o1, o3, o4]
  refine ⟨by omega, fun y => ?_, fun y => ?_, fun y => ?_, fun y => ?_, fun y => ?_, fun y => ?_, fun y => c8 y⟩
  · rw [n1 y]
    refine ⟨?_, (c1 y).1, (c1 y).2, ?_⟩
    · rcases k2 with z | z
      · rw [z.2]; omega
      · exact absurd y z.1
    · rw [e12, if_pos ⟨y, rfl⟩]
  · rw [n2 y]
    refine ⟨?_, c2 (y.elim (fun z => Or.inl z) (fun z => Or.inr (Or.inl z)))⟩
    rcases k3 with z | z
    · rw [z.2]; omega
    · exact absurd y z.1
  · rw [n4 (Or.inl y)]; exact ⟨c4 y, rfl⟩
  · rw [n4 (Or.inr y)]; exact ⟨c5 (y.elim Or.inl (fun z => Or.inr (Or.inl z))), rfl⟩
  · rw [n7 y]
    refine ⟨?_, c5 (Or.inr (Or.inr y)), ?_⟩
    · rcases k5 with z | z
      · rw [z.2]; omega
      · exact absurd y z.1
    · rw [e5, if_pos ⟨y, rfl⟩]
  · rw [n8 y]
    refine ⟨?_, ?_, ?_⟩
    · rcases k4 with z | z
      · rw [z.2]; omega
      · exact absurd y z.1
    · rcases y with y | y
      · exact Or.inl (c8 y)
      · exact c2 (Or.inr (Or.inr y))
    · rw [e6, if_pos ⟨y, rfl⟩]
theorem yOa_put (h : yOa W) (hs : 1 ≤ s ∧ s ≤ 9) (hq : zva W q) (hq0 : W 1 q = 0) (hc : ypc W s f w) : yOa (yput W s f w q) := by
  obtain ⟨hV, hM, hO, hm, ⟨n5, n6, n12⟩, hN⟩ := h
  obtain ⟨⟨v00, v01, v02, v03⟩, ⟨vc2, vc2', vc3, vc3', vc4, vc4', vc5, vc5'⟩, vq, v5, v6, v12⟩ := hV
  obtain ⟨md, -, ms⟩ := hM
  obtain ⟨c1, c2, c4, c5, c8, c7, cm⟩ := hc
  obtain ⟨g1, g2, g3, g4, g5, -⟩ := ygr_s hs
  have m2 : s = 1 → W 0 2 < 8 := fun y => by have := cm (by rw [g1 y]; decide); rw [g1 y] at this; exact this
  have m3 : s = 2 ∨ s = 3 → W 0 3 < 8 := fun y => by have := cm (by rw [g2 y]; decide); rw [g2 y] at this; exact this
  have m4 : s = 8 ∨ s = 9 → W 0 4 < 6 := fun y => by have := cm (by rw [g3 y]; decide); rw [g3 y] at this; exact this
  have m5 : s = 7 → W 0 5 < 8 := fun y => by have := cm (by rw [g4 y]; decide); rw [g4 y] at this; exact this
  clear cm g1 g2 g3 g4 g5
  obtain ⟨o1, o3, o4, n1, n2, n8, n7, n4⟩ := yput_own (W := W) (f := f) (w := w) (q := q) hs
  obtain ⟨⟨d0, d1, -, -⟩, k2, k3, k4, k5⟩ := yput_cnt (W := W) (f := f) (w := w) (q := q) hs
  have e12 := yput_12 (W := W) (s := s) (f := f) (w := w) (q := q) vc2
  have e5 := yput_5 (W := W) (s := s) (f := f) (w := w) (q := q) vc5
  have e6 := yput_6 (W := W) (s := s) (f := f) (w := w) (q := q) vc4
  have va := yput_va (W := W) (f := f) (w := w) (q := q) hs
  have counts : 0 ≤ yput W s f w q 0 2 ∧ yput W s f w q 0 2 ≤ 8 ∧ 0 ≤ yput W s f w q 0 3 ∧ yput W s f w q 0 3 ≤ 8 ∧ 0 ≤ yput W s f w q 0 4 ∧ yput W s f w q 0 4 ≤ 6 ∧ 0 ≤ yput W s f w q 0 5 ∧ yput W s f w q 0 5 ≤ 8 := by
    refine ⟨?_, ?_, ?_, ?_, ?_, ?_, ?_, ?_⟩
    · rcases k2 with z | z <;> rw [z.2] <;> omega
    · rcases k2 with z | z
      · rw [z.2]; have := m2 z.1; omega
      · rw [z.2]; exact vc2'
    · rcases k3 with z | z <;> rw [z.2] <;> omega
    · rcases k3 with z | z
      · rw [z.2]; have := m3 z.1; omega
      · rw [z.2]; exact vc3'
    · rcases k4 with z | z <;> rw [z.2] <;> omega
    · rcases k4 with z | z
      · rw [z.2]; have := m4 z.1; omega
      · rw [z.2]; exact vc4'
    · rcases k5 with z | z <;> rw [z.2] <;> omega
    · rcases k5 with z | z
      · rw [z.2]; have := m5 z.1; omega
      · rw [z.2]; exact vc5'
  have up2 : W 0 2 ≤ yput W s f w q 0 2 := by rcases k2 with z | z <;> rw [z.2] <;> omega
  have up3 : W 0 3 ≤ yput W s f w q 0 3 := by rcases k3 with z | z <;> rw [z.2] <;> omega
  have up4 : W 0 4 ≤ yput W s f w q 0 4 := by rcases k4 with z | z <;> rw [z.2] <;> omega
  have up5 : W 0 5 ≤ yput W s f w q 0 5 := by rcases k5 with z | z <;> rw [z.2] <;> omega
  have N5 : ∀ e : Nat, (e : Int) < yput W s f w q 0 5 → ((s = 7 ∧ e = (W 0 5).toNat) ∧ yput W s f w q 5 e = (q : Int)) ∨ ((e : Int) < W 0 5 ∧ yput W s f w q 5 e = W 5 e) := fun e he => by
    rcases yput_new (r := 0) vc5 k5 he trivial with z | z
    · exact Or.inl ⟨z, by rw [e5, if_pos z]⟩
    · exact Or.inr ⟨z.2, by rw [e5, if_neg z.1]⟩
  have N6 : ∀ e : Nat, (e : Int) < yput W s f w q 0 4 → (((s = 8 ∨ s = 9) ∧ e = (W 0 4).toNat) ∧ yput W s f w q 6 e = (q : Int)) ∨ ((e : Int) < W 0 4 ∧ yput W s f w q 6 e = W 6 e) := fun e he => by
    rcases yput_new (r := 0) vc4 k4 he trivial with z | z
    · exact Or.inl ⟨z, by rw [e6, if_pos z]⟩
    · exact Or.inr ⟨z.2, by rw [e6, if_neg z.1]⟩
  have N12 : ∀ e : Nat, (e : Int) < yput W s f w q 0 2 → ((s = 1 ∧ e = (W 0 2).toNat) ∧ yput W s f w q 12 e = (q : Int)) ∨ ((e : Int) < W 0 2 ∧ yput W s f w q 12 e = W 12 e) := fun e he => by
    rcases yput_new (r := 0) vc2 k2 he trivial with z | z
    · exact Or.inl ⟨z, by rw [e12, if_pos z]⟩
    · exact Or.inr ⟨z.2, by rw [e12, if_neg z.1]⟩
  have ne : ∀ k : Nat, W 1 k ≠ 0 → k ≠ q := fun k hk z => hk (by rw [z]; exact hq0)
  have vaq := (va q).mpr hq
  refine ⟨⟨⟨by rw [d0]; exact v00, by rw [d0]; exact v01, by rw [d1]; exact v02, by rw [d1]; exact v03⟩, counts, fun k hk => ?_, fun e he => ?_, fun e he => ?_, fun e he => ?_⟩, ⟨by rw [d0, d1]; exact md, counts, fun k => ?_⟩, fun k hk => ?_, fun k hk => ?_, ⟨fun e he => ?_, fun e he => ?_, fun e he => ?_⟩, fun e he => ?_⟩
  · by_cases y : k = q
    · subst y
      exact yput_cell hs vc2 vc3 vc4 vc5 c1 c2 c4 c5 c8
    · obtain ⟨a1, a2, a3, a4⟩ := yput_old (W := W) (s := s) (f := f) (w := w) y
      rw [a1, a2, a3, a4]
      obtain ⟨o0, o1, o2, o3, o4, o5, o6, o7⟩ := vq k ((va k).mp hk)
      refine ⟨o0, fun z => ?_, fun z => ?_, o3, o4, fun z => ?_, fun z => ?_, o7⟩
      · obtain ⟨a, b, c, d⟩ := o1 z
        refine ⟨⟨a.1, Int.lt_of_lt_of_le a.2 up2⟩, b, c, ?_⟩
        rw [e12, if_neg (fun u => by have := u.2; have := a.1; have := a.2; omega)]; exact d
      · obtain ⟨a, b⟩ := o2 z
        exact ⟨⟨a.1, Int.lt_of_lt_of_le a.2 up3⟩, b⟩
      · obtain ⟨a, b, c⟩ := o5 z
        refine ⟨⟨a.1, Int.lt_of_lt_of_le a.2 up5⟩, b, ?_⟩
        rw [e5, if_neg (fun u => by have := u.2; omega)]; exact c
      · obtain ⟨a, b, c⟩ := o6 z
        refine ⟨⟨a.1, Int.lt_of_lt_of_le a.2 up4⟩, b, ?_⟩
        rw [e6, if_neg (fun u => by have := u.2; omega)]; exact c
  · rcases N5 e he with ⟨y, z⟩ | ⟨y, z⟩
    · right
      rw [z, Int.toNat_natCast, o1, n7 y.1]
      exact ⟨Int.natCast_nonneg _, vaq, y.1, by rw [y.2]; omega⟩
    · rw [z]
      rcases v5 e y with a | ⟨a, b, c, d⟩
      · exact Or.inl a
      · right
        obtain ⟨a1, a2, -⟩ := yput_old (W := W) (s := s) (f := f) (w := w) (ne (W 5 e).toNat (by rw [c]; decide))
        rw [a1, a2]
        exact ⟨a, (va _).mpr b, c, d⟩
  · rcases N6 e he with ⟨y, z⟩ | ⟨y, z⟩
    · right
      rw [z, Int.toNat_natCast, o1, n8 y.1]
      exact ⟨Int.natCast_nonneg _, vaq, y.1, by rw [y.2]; omega⟩
    · rw [z]
      rcases v6 e y with a | ⟨a, b, c, d⟩
      · exact Or.inl a
      · right
        obtain ⟨a1, a2, -⟩ := yput_old (W := W) (s := s) (f := f) (w := w) (ne (W 6 e).toNat (by rcases c with c | c <;> rw [c] <;> decide))
        rw [a1, a2]
        exact ⟨a, (va _).mpr b, c, d⟩
  · rcases N12 e he with ⟨y, z⟩ | ⟨y, z⟩
    · right
      rw [z, Int.toNat_natCast, o1, n1 y.1]
      exact ⟨Int.natCast_nonneg _, vaq, y.1, by rw [y.2]; omega⟩
    · rw [z]
      rcases v12 e y with a | ⟨a, b, c, d⟩
      · exact Or.inl a
      · right
        obtain ⟨a1, a2, -⟩ := yput_old (W := W) (s := s) (f := f) (w := w) (ne (W 12 e).toNat (by rw [c]; decide))
        rw [a1, a2]
        exact ⟨a, (va _).mpr b, c, d⟩
  · by_cases y : k = q
    · rw [y, o1]; omega
    · rw [(yput_old (W := W) (s := s) (f := f) (w := w) y).1]; exact ms k
  · have y : k ≠ q := fun z => hk (by rw [z]; exact vaq)
    rw [(yput_old (W := W) (s := s) (f := f) (w := w) y).1]
    exact hO k (fun z => hk ((va k).mpr z))
  · by_cases y : k = q
    · rw [y, o1] at hk
      rw [y, n2 hk]; exact vc3
    · obtain ⟨a1, a2, -⟩ := yput_old (W := W) (s := s) (f := f) (w := w) y
      rw [a1] at hk
      rw [a2]; exact hm k hk
  · rcases N5 e he with ⟨y, z⟩ | ⟨y, z⟩
    · rw [z]; omega
    · rw [z]; exact n5 e y
  · rcases N6 e he with ⟨y, z⟩ | ⟨y, z⟩
    · rw [z]; omega
    · rw [z]; exact n6 e y
  · rcases N12 e he with ⟨y, z⟩ | ⟨y, z⟩
    · rw [z]; omega
    · rw [z]; exact n12 e y
  · rw [yput_r (by decide)]
    rcases N5 e he with ⟨y, z⟩ | ⟨y, z⟩
    · rw [y.2]; exact c7 y.1
    · exact hN e y
end YP
