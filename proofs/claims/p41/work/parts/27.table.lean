/-! what walks tell -/
/-! the table's own -/
def zin_ (V : zPH) (c r : Int) : Prop := (0 ≤ c ∧ c < V 0 0) ∧ 0 ≤ r ∧ r < V 0 1
/-- the square told by column and row -/
def zqo (c r : Int) : Nat := 12 * r.toNat + c.toNat
theorem zqo_va {V : zPH} (hV : zVd V) {c r : Int} (h : zin_ V c r) : zva V (zqo c r) ∧ (zP V (zqo c r) : Int) = r * V 0 0 + c := by
  obtain ⟨⟨a, b⟩, d, e⟩ := h
  have := hV.1
  unfold zva zP zqo
  rw [show (12 * r.toNat + c.toNat) % 12 = c.toNat by omega, show (12 * r.toNat + c.toNat) / 12 = r.toNat by omega]
  refine ⟨by omega, ?_⟩
  obtain ⟨x, hx⟩ := Int.eq_ofNat_of_zero_le d
  obtain ⟨y, hy⟩ := Int.eq_ofNat_of_zero_le this.1
  rw [hx, hy, Int.toNat_natCast, Int.toNat_natCast]
  push_cast
  omega
theorem s_T_squareAt {G : zG} {σ : zPH} {X : zX} {t : Nat} {V : zPH} (ht : zisT t) (hV : zVd V) (hd : zTd σ t V) {c r : Int} (hc : zI c) (hr : zI r) (h1 : zin_ V c r → X (some (iZ (zP V (zqo c r) : Int))) σ) (h0 : ¬ zin_ V c r → X (some (iZ (-1))) σ) : MS G zm_T_squareAt 0 [zr G t, iZ c, iZ r] σ X := by
  have hV1 := hV.1
  have e0 : σ t 0 = V 0 0 := hd.1
  have e1 : σ t 1 = V 0 1 := hd.2.1
  have no : ¬ zin_ V c r → b_T_squareAt_28 G t c r X σ := fun h => ⟨by decide, fun _ => h0 h, fun q => absurd rfl q⟩
  refine k_T_squareAt ht ⟨hc, fun h => no (fun q => by have := q.1; omega), fun h => ⟨⟨hc, by omega⟩, fun h2 => no (fun q => by have := q.1; omega), fun h2 => ⟨hr, fun h3 => no (fun q => by have := q.2; omega), fun h3 => ⟨⟨hr, by omega⟩, fun h4 => no (fun q => by have := q.2; omega), fun h4 => ⟨by decide, fun q => absurd q (by decide), fun _ => ?_⟩⟩⟩⟩⟩
  have hi : zin_ V c r := ⟨by omega, by omega⟩
  have := h1 hi
  rw [(zqo_va hV hi).2] at this
  rw [e0]; exact this
/-- a piece comes onto a square -/
def zPu (σ σ' : zPH) (t : Nat) (pc : Int) (p : Nat) : Prop := (∀ q, q ≠ t + 2 → q ≠ t + 3 → σ' q = σ q) ∧ (∀ k, σ' (t + 2) k = if k = p then pc else σ (t + 2) k) ∧ ∀ i : Nat, σ' (t + 3) i = if pc = (i : Int) then (p : Int) else if σ (t + 2) p = (i : Int) ∧ σ (t + 3) i = (p : Int) then -1 else σ (t + 3) i
theorem s_T_put {G : zG} {σ : zPH} {X : zX} {t : Nat} (ht : zisT t) {pc z : Int} {p : Nat} (hz : z = (p : Int)) (hp : p < 144) (hpc : -1 ≤ pc ∧ pc < 60) (h2 : ∀ p, -1 ≤ σ (t + 2) p ∧ σ (t + 2) p < 60) (h3 : ∀ i, -1 ≤ σ (t + 3) i ∧ σ (t + 3) i < 144) (hX : ∀ σ', zPu σ σ' t pc p → X none σ') : MS G zm_T_put 0 [zr G t, iZ pc, iZ z] σ X := by
  subst hz
  refine k_T_put ht ?_
  have a2 := h2 p
  have key : ∀ σ1 : zPH, (∀ q, q ≠ t + 3 → σ1 q = σ q) → (∀ i : Nat, σ1 (t + 3) i = if σ (t + 2) p = (i : Int) ∧ σ (t + 3) i = (p : Int) then -1 else σ (t + 3) i) → b_T_put_29 G t pc (p : Int) X σ1 := by
    intro σ1 r1 f1
    refine ⟨by omega, ?_⟩
    rintro σ35 e35
    rw [Int.toNat_natCast] at e35
    have p2 : ∀ k, σ35 (t + 2) k = if k = p then pc else σ (t + 2) k := fun k => by
      rw [e35]; split
      · rename_i q; rw [q, zupd_same]
      · rename_i q; rw [zupd_nk q, r1 _ (by omega)]
    refine ⟨by omega, fun h => hX σ35 ⟨fun q q1 q2 => by rw [e35, zupd_row q1, r1 q q2], p2, fun i => ?_⟩, fun h => ⟨by omega, ?_⟩⟩
    · rw [if_neg (by omega), e35, zupd_row (by omega), f1]
    · rintro σ47 e47
      refine hX σ47 ⟨fun q q1 q2 => by rw [e47, zupd_row q2, e35, zupd_row q1, r1 q q2], fun k => by rw [e47, zupd_row (by omega), p2], fun i => ?_⟩
      rw [e47]
      split
      · rename_i q; rw [show pc.toNat = i by omega, zupd_same]
      · rename_i q; rw [zupd_nk (by omega), e35, zupd_row (by omega), f1]
  refine ⟨by omega, ?_⟩
  rintro x3 e3
  rw [Int.toNat_natCast] at e3
  refine ⟨by omega, fun h => key σ (fun _ _ => rfl) (fun i => by rw [if_neg (by omega)]), fun h => ⟨by omega, ?_, fun hn => key σ (fun _ _ => rfl) (fun i => ?_), fun he => ⟨by omega, ?_⟩⟩⟩
  · have := h3 x3.toNat; omega
  · split
    · rename_i q; exfalso; apply hn; rw [e3, q.1, Int.toNat_natCast, q.2]
    · rfl
  · rintro σ28 e28
    refine key σ28 (fun q hq => by rw [e28, zupd_row hq]) (fun i => ?_)
    rw [e28]
    by_cases q : x3.toNat = i
    · rw [← q, zupd_same, if_pos ⟨by omega, he⟩]
    · rw [zupd_nk (by omega), if_neg (by omega)]
