/-- a piece's group in the class -/
def zgp (s : Int) : Int := if s = 1 then 0 else if s = 2 ∨ s = 3 then 1 else if s = 8 ∨ s = 9 then 2 else if s = 7 then 3 else -1
theorem zgp_r (s : Int) : zgp s = -1 ∨ zgp s = 0 ∨ zgp s = 1 ∨ zgp s = 2 ∨ zgp s = 3 := by
  unfold zgp; split
  · omega
  · split
    · omega
    · split
      · omega
      · split <;> omega
/-- what add() does to a table -/
def yTp (σ σ' : zPH) (t : Nat) (s f w : Int) (i p : Nat) : Prop := (∀ q, q ≠ t → q ≠ t + 2 → q ≠ t + 3 → q ≠ t + 4 → q ≠ t + 5 → q ≠ t + 6 → q ≠ t + 7 → q ≠ t + 8 → q ≠ t + 9 → q ≠ t + 12 → σ' q = σ q) ∧ (∀ j, j ≠ 4 → σ' t j = σ t j) ∧ σ' t 4 = (i : Int) + 1 ∧ (∀ k, σ' (t + 4) k = if k = i then s else σ (t + 4) k) ∧ (∀ k, σ' (t + 6) k = if k = i then f else σ (t + 6) k) ∧ (∀ k, σ' (t + 7) k = if k = i then w else σ (t + 7) k) ∧ (∀ k, σ' (t + 5) k = if k = i then (if zgp s = -1 then -1 else σ (t + 8) (zgp s).toNat) else σ (t + 5) k) ∧ (∀ k, σ' (t + 2) k = if k = p then (i : Int) else σ (t + 2) k) ∧ (∀ k, σ' (t + 3) k = if k = i then (p : Int) else σ (t + 3) k) ∧ (∀ k : Nat, σ' (t + 8) k = if (k : Int) = zgp s then σ (t + 8) k + 1 else σ (t + 8) k) ∧ (∀ k : Nat, σ' (t + 9) k = if zgp s ≠ -1 ∧ (k : Int) = 8 * zgp s + σ (t + 8) (zgp s).toNat then (i : Int) else σ (t + 9) k) ∧ ∀ k : Nat, σ' (t + 12) k = if zgp s = 2 ∧ (k : Int) = σ (t + 8) 2 then σ t 14 else σ (t + 12) k
section TA
variable {G : zG} {σ : zPH} {X : zX}
theorem s_T_groupOf {s : Int} (hs : zI s) (hX : X (some (iZ (zgp s))) σ) : MS G zm_T_groupOf 0 [iZ s] σ X := by
  unfold zgp at hX
  refine k_T_groupOf ⟨hs, fun z => ?_, fun z => ?_, fun z => ?_, fun z => ?_, fun z => ?_⟩
  · rw [if_pos z] at hX; exact hX
  · rw [if_neg (by omega), if_pos z] at hX; exact hX
  · rw [if_neg (by omega), if_neg (by omega), if_neg (by omega), if_pos z] at hX; exact hX
  · rw [if_neg (by omega), if_neg (by omega), if_pos z] at hX; exact hX
  · rw [if_neg (by omega), if_neg (by omega), if_neg (by omega), if_neg (by omega)] at hX; exact hX
/-- a group is full -/
def zfu (σ : zPH) (t : Nat) (g : Int) : Prop := g ≠ -1 ∧ (if g = 2 then (6 : Int) else 8) ≤ σ (t + 8) g.toNat
theorem s_T_isFull {t : Nat} {g : Int} (ht : zisT t) (hg : -1 ≤ g ∧ g < 4) (h8 : ∀ k, zI (σ (t + 8) k)) (h1 : zfu σ t g → X (some (iZ 1)) σ) (h0 : ¬ zfu σ t g → X (some (iZ 0)) σ) : MS G zm_T_isFull 0 [zr G t, iZ g] σ X := by
  unfold zfu at h1 h0
  have i8 := h8 g.toNat
  refine k_T_isFull ht ⟨by omega, fun z => h0 (fun y => y.1 z), fun z => ⟨by omega, by omega, fun y => ⟨⟨i8, by decide⟩, fun v => h0 (fun u => ?_), fun v => h1 ⟨z, ?_⟩⟩, fun y => ⟨⟨i8, by decide⟩, fun v => h0 (fun u => ?_), fun v => h1 ⟨z, ?_⟩⟩⟩⟩
  · have := u.2; rw [if_neg y] at this; omega
  · rw [if_neg y]; exact v
  · have := u.2; rw [if_pos y] at this; omega
  · rw [if_pos y]; exact v
theorem s_T_add0 {t : Nat} {s f w z : Int} {i p : Nat} (ht : zisT t) (hz : z = (p : Int)) (hp : p < 144) (hs : zI s) (hi : σ t 4 = (i : Int)) (hi59 : i < 59) (hno : σ (t + 2) p = -1) (h2 : ∀ p, -1 ≤ σ (t + 2) p ∧ σ (t + 2) p < 60) (h3 : ∀ i, -1 ≤ σ (t + 3) i ∧ σ (t + 3) i < 144) (h8 : ∀ k, 0 ≤ σ (t + 8) k ∧ σ (t + 8) k ≤ 8) (hfull : ¬ zfu σ t (zgp s)) (hX : ∀ σ', yTp σ σ' t s f w i p → X none σ') : MS G zm_T_add 1 [zr G t, iZ s, iZ f, iZ w, iZ z] σ X := by
  have hh := ht.h
  have gr := zgp_r s
  refine k_T_add ht (s_T_groupOf hs ⟨_, rfl, by omega, fun y => by omega, fun _ => s_T_isFull ht (by omega) (fun k => by have := h8 k; omega) (fun y => absurd y hfull) (fun _ => Or.inl ⟨rfl, ?_⟩)⟩)
  rw [hi, Int.toNat_natCast]
  refine ⟨by omega, ?_⟩
  rintro σ1 e1
  have t1 : σ1 t 4 = (i : Int) := by rw [e1, zupd_row (by omega)]; exact hi
  rw [t1, Int.toNat_natCast]
  refine ⟨by omega, ?_⟩
  rintro σ2 e2
  have t2 : σ2 t 4 = (i : Int) := by rw [e2, zupd_row (by omega)]; exact t1
  rw [t2, Int.toNat_natCast]
  refine ⟨by omega, ?_⟩
  rintro σ3 e3
  have t3 : σ3 t 4 = (i : Int) := by rw [e3, zupd_row (by omega)]; exact t2
  rw [t3, Int.toNat_natCast]
  refine ⟨by omega, ?_⟩
  rintro σ4 e4
  have t4 : σ4 t 4 = (i : Int) := by rw [e4, zupd_row (by omega)]; exact t3
  have r4 : ∀ q, q ≠ t + 4 → q ≠ t + 5 → q ≠ t + 6 → q ≠ t + 7 → σ4 q = σ q := fun q a b c d => by rw [e4, zupd_row b, e3, zupd_row d, e2, zupd_row c, e1, zupd_row a]
  have v4 : ∀ k, σ4 (t + 4) k = if k = i then s else σ (t + 4) k := fun k => by
    rw [e4, zupd_row (by omega), e3, zupd_row (by omega), e2, zupd_row (by omega), e1]
    split
    · rename_i y; rw [y, zupd_same]
    · rename_i y; rw [zupd_nk y]
  have v6 : ∀ k, σ4 (t + 6) k = if k = i then f else σ (t + 6) k := fun k => by
    rw [e4, zupd_row (by omega), e3, zupd_row (by omega), e2]
    split
    · rename_i y; rw [y, zupd_same]
    · rename_i y; rw [zupd_nk y, e1, zupd_row (by omega)]
  have v7 : ∀ k, σ4 (t + 7) k = if k = i then w else σ (t + 7) k := fun k => by
    rw [e4, zupd_row (by omega), e3]
    split
    · rename_i y; rw [y, zupd_same]
    · rename_i y; rw [zupd_nk y, e2, zupd_row (by omega), e1, zupd_row (by omega)]
  have v5 : ∀ k, σ4 (t + 5) k = if k = i then -1 else σ (t + 5) k := fun k => by
    rw [e4]
    split
    · rename_i y; rw [y, zupd_same]
    · rename_i y; rw [zupd_nk y, e3, zupd_row (by omega), e2, zupd_row (by omega), e1, zupd_row (by omega)]
  -- the put
  have last : ∀ σ5 : zPH, (∀ q, q ≠ t + 4 → q ≠ t + 5 → q ≠ t + 6 → q ≠ t + 7 → q ≠ t + 8 → q ≠ t + 9 → q ≠ t + 12 → σ5 q = σ q) → σ5 (t + 4) = σ4 (t + 4) → σ5 (t + 6) = σ4 (t + 6) → σ5 (t + 7) = σ4 (t + 7) → (∀ k, σ5 (t + 5) k = if k = i then (if zgp s = -1 then -1 else σ (t + 8) (zgp s).toNat) else σ (t + 5) k) → (∀ k : Nat, σ5 (t + 8) k = if (k : Int) = zgp s then σ (t + 8) k + 1 else σ (t + 8) k) → (∀ k : Nat, σ5 (t + 9) k = if zgp s ≠ -1 ∧ (k : Int) = 8 * zgp s + σ (t + 8) (zgp s).toNat then (i : Int) else σ (t + 9) k) → (∀ k : Nat, σ5 (t + 12) k = if zgp s = 2 ∧ (k : Int) = σ (t + 8) 2 then σ t 14 else σ (t + 12) k) → b_T_add_141 G t s f w z X σ5 := by
    intro σ5 r a4 a6 a7 a5 a8 a9 a12
    have tt : σ5 t = σ t := r t (by omega) (by omega) (by omega) (by omega) (by omega) (by omega) (by omega)
    have t22 : σ5 (t + 2) = σ (t + 2) := r _ (by omega) (by omega) (by omega) (by omega) (by omega) (by omega) (by omega)
    have t33 : σ5 (t + 3) = σ (t + 3) := r _ (by omega) (by omega) (by omega) (by omega) (by omega) (by omega) (by omega)
    unfold b_T_add_141
    rw [tt, hi]
    refine s_T_put ht hz hp (by omega) (by rw [t22]; exact h2) (by rw [t33]; exact h3) (fun σ6 ⟨u1, u2, u3⟩ => ⟨rfl, ?_⟩)
    rintro σ7 e7
    rw [t22] at u2
    rw [t22, t33, hno] at u3
    have t6 : σ6 t = σ t := by rw [u1 t (by omega) (by omega)]; exact tt
    rw [t6, hi] at e7
    have r7 : ∀ q, q ≠ t → σ7 q = σ6 q := fun q a => by rw [e7, zupd_row a]
    refine hX σ7 ⟨fun q b0 b2 b3 b4 b5 b6 b7 b8 b9 b12 => by rw [r7 q b0, u1 q b2 b3, r q b4 b5 b6 b7 b8 b9 b12], fun j hj => by rw [e7, zupd_nk hj, t6], by rw [e7, zupd_same], fun k => ?_, fun k => ?_, fun k => ?_, fun k => ?_, fun k => ?_, fun k => ?_, fun k => ?_, fun k => ?_, fun k => ?_⟩
    · rw [r7 _ (by omega), u1 _ (by omega) (by omega), a4]; exact v4 k
    · rw [r7 _ (by omega), u1 _ (by omega) (by omega), a6]; exact v6 k
    · rw [r7 _ (by omega), u1 _ (by omega) (by omega), a7]; exact v7 k
    · rw [r7 _ (by omega), u1 _ (by omega) (by omega)]; exact a5 k
    · rw [r7 _ (by omega)]; exact u2 k
    · rw [r7 _ (by omega), u3]
      by_cases y : k = i
      · rw [if_pos (by omega), if_pos y]
      · rw [if_neg (by omega), if_neg y, if_neg (fun v => by have := v.1; omega)]
    · rw [r7 _ (by omega), u1 _ (by omega) (by omega)]; exact a8 k
    · rw [r7 _ (by omega), u1 _ (by omega) (by omega)]; exact a9 k
    · rw [r7 _ (by omega), u1 _ (by omega) (by omega)]; exact a12 k
  -- the group
  have group : ∀ σ5 : zPH, (∀ q, q ≠ t + 12 → σ5 q = σ4 q) → (∀ k : Nat, σ5 (t + 12) k = if zgp s = 2 ∧ (k : Int) = σ (t + 8) 2 then σ t 14 else σ (t + 12) k) → b_T_add_86 G t s f w z X (zgp s) σ5 := by
    intro σ5 r5 a12
    have t5 : σ5 t 4 = (i : Int) := by rw [r5 t (by omega)]; exact t4
    have c8 : σ5 (t + 8) = σ (t + 8) := by rw [r5 _ (by omega)]; exact r4 _ (by omega) (by omega) (by omega) (by omega)
    refine ⟨by omega, fun y => ?_, fun y => ⟨by omega, ?_⟩⟩
    · refine last σ5 (fun q b4 b5 b6 b7 b8 b9 b12 => by rw [r5 q b12, r4 q b4 b5 b6 b7]) (r5 _ (by omega)) (r5 _ (by omega)) (r5 _ (by omega)) (fun k => by rw [r5 _ (by omega), v5, if_pos y]) (fun k => by rw [c8, if_neg (by omega)]) (fun k => by rw [r5 _ (by omega), r4 _ (by omega) (by omega) (by omega) (by omega), if_neg (fun v => v.1 y)]) a12
    · have h8g := h8 (zgp s).toNat
      have hlt : zgp s ≠ 2 → σ (t + 8) (zgp s).toNat < 8 := fun v => by
        by_cases q : σ (t + 8) (zgp s).toNat < 8
        · exact q
        · exact absurd ⟨y, by rw [if_neg v]; omega⟩ hfull
      have hlt2 : zgp s = 2 → σ (t + 8) (zgp s).toNat < 6 := fun v => by
        by_cases q : σ (t + 8) (zgp s).toNat < 6
        · exact q
        · exact absurd ⟨y, by rw [if_pos v]; omega⟩ hfull
      have hlt8 : σ (t + 8) (zgp s).toNat < 8 := by
        by_cases q : zgp s = 2
        · have := hlt2 q; omega
        · exact hlt q
      rw [t5, Int.toNat_natCast, c8]
      refine ⟨by omega, ?_⟩
      rintro σ6 e6
      have c86 : σ6 (t + 8) = σ (t + 8) := by rw [e6, zupd_row (by omega)]; exact c8
      have t6 : σ6 t 4 = (i : Int) := by rw [e6, zupd_row (by omega)]; exact t5
      rw [c86, t6]
      refine ⟨by omega, by omega, ?_⟩
      rintro σ7 e7
      have c87 : σ7 (t + 8) = σ (t + 8) := by rw [e7, zupd_row (by omega)]; exact c86
      rw [c87]
      refine ⟨by omega, by omega, ?_⟩
      rintro σ8 e8
      refine last σ8 (fun q b4 b5 b6 b7 b8 b9 b12 => by rw [e8, zupd_row b8, e7, zupd_row b9, e6, zupd_row b5, r5 q b12, r4 q b4 b5 b6 b7]) (by rw [e8, zupd_row (by omega), e7, zupd_row (by omega), e6, zupd_row (by omega), r5 _ (by omega)]) (by rw [e8, zupd_row (by omega), e7, zupd_row (by omega), e6, zupd_row (by omega), r5 _ (by omega)]) (by rw [e8, zupd_row (by omega), e7, zupd_row (by omega), e6, zupd_row (by omega), r5 _ (by omega)]) (fun k => ?_) (fun k => ?_) (fun k => ?_) (fun k => ?_)
      · rw [e8, zupd_row (by omega), e7, zupd_row (by omega), e6]
        by_cases q : k = i
        · rw [q, zupd_same, if_pos rfl, if_neg y]
        · rw [zupd_nk q, if_neg q, r5 _ (by omega), v5, if_neg q]
      · rw [e8]
        by_cases q : (k : Int) = zgp s
        · rw [show (zgp s).toNat = k by omega, zupd_same, if_pos q]
        · rw [zupd_nk (by omega), if_neg q, c87]
      · rw [e8, zupd_row (by omega), e7]
        by_cases q : (k : Int) = 8 * zgp s + σ (t + 8) (zgp s).toNat
        · rw [if_pos ⟨y, q⟩, show (zgp s * 8 + σ (t + 8) (zgp s).toNat).toNat = k by omega, zupd_same]
        · rw [if_neg (fun v => q v.2), zupd_nk (by omega), e6, zupd_row (by omega), r5 _ (by omega), r4 _ (by omega) (by omega) (by omega) (by omega)]
      · rw [e8, zupd_row (by omega), e7, zupd_row (by omega), e6, zupd_row (by omega)]; exact a12 k
  refine ⟨by omega, fun y => group σ4 (fun _ _ => rfl) (fun k => by rw [r4 _ (by omega) (by omega) (by omega) (by omega), if_neg (fun v => y v.1)]), fun y => ?_⟩
  have c84 : σ4 (t + 8) = σ (t + 8) := r4 _ (by omega) (by omega) (by omega) (by omega)
  have h82 := h8 2
  have hlt2 : σ (t + 8) 2 < 6 := by
    by_cases q : σ (t + 8) 2 < 6
    · exact q
    · exact absurd ⟨by omega, by rw [if_pos y, y]; show (6 : Int) ≤ σ (t + 8) 2; omega⟩ hfull
  rw [c84, r4 t (by omega) (by omega) (by omega) (by omega)]
  refine ⟨by omega, ?_⟩
  rintro σ5 e5
  refine group σ5 (fun q a => by rw [e5, zupd_row a]) (fun k => ?_)
  rw [e5]
  by_cases q : (k : Int) = σ (t + 8) 2
  · rw [if_pos ⟨y, q⟩, show (σ (t + 8) 2).toNat = k by omega, zupd_same]
  · rw [if_neg (fun v => q v.2), zupd_nk (by omega), r4 _ (by omega) (by omega) (by omega) (by omega)]
end TA
