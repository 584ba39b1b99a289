/-! what walks tell -/
theorem s_C_isInRound {G : zG} {σ : zPH} {X : zX} {V : zPH} {tu st s : Int} (hW : zWk σ V tu st) (hs : 0 ≤ s ∧ s < 64) (h1 : (∃ j, (zLd V tu st).1 ≤ j ∧ j < (zLd V tu st).2 ∧ zOr V tu st j = s) → X (some (iZ 1)) σ) (h0 : (¬ ∃ j, (zLd V tu st).1 ≤ j ∧ j < (zLd V tu st).2 ∧ zOr V tu st j = s) → X (some (iZ 0)) σ) : MS G zm_C_isInRound 0 [zr G 14, iZ s] σ X := by
  obtain ⟨A, N, hq, hN, e5, e6, hp, hpl⟩ := hW
  obtain ⟨eA, eN⟩ := zLd_of hq
  rw [eA, eN] at h1 h0
  have hs' := hpl s.toNat (by omega)
  refine k_C_isInRound ⟨hs, ⟨by rcases hs' with ⟨j, j1, j2, j3⟩ | ⟨-, j3⟩ <;> omega, by have := hq.1; omega⟩, fun h => h0 ?_, fun h => h1 ?_⟩
  · rintro ⟨j, j1, j2, j3⟩
    rcases hs' with ⟨j', q1, q2, q3⟩ | ⟨q1, -⟩
    · have : j = j' := by
        rcases Nat.lt_trichotomy j j' with q | q | q
        · exact absurd (by rw [j3, q2]; omega) (hq.2.2 j j' q q1)
        · exact q
        · exact absurd (by rw [j3, q2]; omega) (hq.2.2 j' j q j2)
      omega
    · exact q1 j j2 (by omega)
  · rcases hs' with ⟨j', q1, q2, q3⟩ | ⟨-, q3⟩
    · exact ⟨j', by omega, q1, by omega⟩
    · omega
theorem s_C_roundLength {G : zG} {σ : zPH} {X : zX} {V : zPH} {tu st : Int} (hW : zWk σ V tu st) (hX : X (some (iZ (((zLd V tu st).2 : Int) - ((zLd V tu st).1 : Int)))) σ) : MS G zm_C_roundLength 0 [zr G 14] σ X := by
  obtain ⟨A, N, hq, hN, e5, e6, hp, hpl⟩ := hW
  obtain ⟨eA, eN⟩ := zLd_of hq
  rw [eA, eN] at hX
  refine k_C_roundLength ?_
  unfold w_C_roundLength
  rw [e5, e6]; exact hX
/-- the least state of the round -/
def zMn (V : zPH) (tu st r : Int) : Prop := (∃ j, (zLd V tu st).1 ≤ j ∧ j < (zLd V tu st).2 ∧ zOr V tu st j = r) ∧ ∀ j, (zLd V tu st).1 ≤ j → j < (zLd V tu st).2 → r ≤ zOr V tu st j
theorem zMn_u {V : zPH} {tu st r r' : Int} (h : zMn V tu st r) (h' : zMn V tu st r') : r = r' := by
  obtain ⟨⟨j, a, b, c⟩, d⟩ := h
  obtain ⟨⟨j', a', b', c'⟩, d'⟩ := h'
  have := d j' a' b'; have := d' j a b; omega
theorem s_C_leastOfRound {G : zG} {σ : zPH} {X : zX} {V : zPH} {tu st : Int} (hV : zVd V) (hst : 0 ≤ st ∧ st < 2 ^ (V 0 4).toNat) (hW : zWk σ V tu st) (hX : ∀ r, zMn V tu st r → X (some (iZ r)) σ) : MS G zm_C_leastOfRound 6 [zr G 14] σ X := by
  obtain ⟨A, N, hq, hN, e5, e6, hp, hpl⟩ := hW
  obtain ⟨eA, eN⟩ := zLd_of hq
  unfold zMn at hX
  rw [eA, eN] at hX
  have hor := zOr_r hV (tu := tu) hst
  have hAN := hq.1
  refine k_C_leastOfRound ⟨by omega, ?_⟩
  rintro x1 e1 x2 e2
  rw [e6, Int.toNat_natCast, (hp A hAN).1] at e1
  rw [e6] at e2
  refine zLP2_ind (fun x1 x2 σ1 => σ1 = σ ∧ ∃ i : Nat, x2 = (i : Int) ∧ A ≤ i ∧ i ≤ N ∧ (∃ j, A ≤ j ∧ j < N ∧ zOr V tu st j = x1) ∧ ∀ j, A ≤ j → j < i → x1 ≤ zOr V tu st j) (fun _ x2 _ => (64 - x2).toNat) ?_ ⟨rfl, A, e2, by omega, by omega, ⟨A, by omega, hAN, e1.symm⟩, fun j q1 q2 => by omega⟩
  rintro K x1 x2 σ1 ⟨rfl, i, rfl, hA, hi, ⟨j0, a1, a2, a3⟩, hle⟩ hK
  have := hor j0
  refine ⟨by omega, fun h => hX x1 ⟨⟨j0, a1, a2, a3⟩, fun j q1 q2 => hle j q1 (by omega)⟩, fun h => ?_⟩
  have hi' := hor i
  rw [Int.toNat_natCast, (hp i (by omega)).1]
  refine ⟨by omega, by omega, ?_⟩
  rintro y e
  refine hK _ _ _ ⟨rfl, i + 1, by omega, by omega, by omega, ?_, fun j q1 q2 => ?_⟩ (by omega)
  · rw [e]; split
    · exact ⟨i, hA, by omega, rfl⟩
    · exact ⟨j0, a1, a2, a3⟩
  · rw [e]
    rcases (show j < i ∨ j = i by omega) with q | rfl
    · have := hle j q1 q; split <;> omega
    · split <;> omega
/-- the eyes lit in all, in some states of the round -/
def zEa (V : zPH) (tu st r : Int) : Prop := 0 ≤ r ∧ ∀ e, zbt r e ↔ ∀ j, (zLd V tu st).1 ≤ j → j < (zLd V tu st).2 → zbt (zEy V tu (zOr V tu st j) 255 7) e
def zEs (V : zPH) (tu st r : Int) : Prop := 0 ≤ r ∧ ∀ e, zbt r e ↔ ∃ j, (zLd V tu st).1 ≤ j ∧ j < (zLd V tu st).2 ∧ zbt (zEy V tu (zOr V tu st j) 255 7) e
theorem s_C_eyesOfRound {G : zG} {σ : zPH} {X : zX} {V : zPH} {tu st al : Int} (hV : zVd V) (hst : 0 ≤ st ∧ st < 2 ^ (V 0 4).toNat) (hW : zWk σ V tu st) (hal : zI al) (hX : ∀ r, (if al = 0 then zEs V tu st r else zEa V tu st r) → X (some (iZ r)) σ) : MS G zm_C_eyesOfRound 0 [zr G 14, iZ al] σ X := by
  obtain ⟨A, N, hq, hN, e5, e6, hp, hpl⟩ := hW
  obtain ⟨eA, eN⟩ := zLd_of hq
  unfold zEs zEa at hX
  rw [eA, eN] at hX
  have hor := zOr_r hV (tu := tu) hst
  have hAN := hq.1
  have hAo := hor A
  refine k_C_eyesOfRound ⟨by omega, by rw [e6, Int.toNat_natCast, (hp A hAN).1]; omega, ?_⟩
  rintro x2 e2 x3 e3
  rw [e6, Int.toNat_natCast, (hp A hAN).1, (hp A hAN).2] at e2
  rw [e6] at e3
  have hnn : ∀ s, 0 ≤ zEy V tu s 255 7 := fun s => zEy_b.1.1
  have hge : ∀ (i : Nat) (x : Int), A ≤ i → N ≤ i → i ≤ N → (0 ≤ x ∧ ∀ e, zbt x e ↔ (if al = 0 then zbt (zEy V tu (zOr V tu st A) 255 7) e ∨ ∃ j, A ≤ j ∧ j < i ∧ zbt (zEy V tu (zOr V tu st j) 255 7) e else zbt (zEy V tu (zOr V tu st A) 255 7) e ∧ ∀ j, A ≤ j → j < i → zbt (zEy V tu (zOr V tu st j) 255 7) e)) → X (some (iZ x)) σ := by
    rintro i x h1 h2 h3 ⟨h4, h5⟩
    have hi : i = N := by omega
    subst hi
    refine hX x ?_
    by_cases ha : al = 0
    · rw [if_pos ha]
      refine ⟨h4, fun e => ?_⟩
      rw [h5, if_pos ha]
      constructor
      · rintro (q | q)
        · exact ⟨A, by omega, hAN, q⟩
        · exact q
      · exact Or.inr
    · rw [if_neg ha]
      refine ⟨h4, fun e => ?_⟩
      rw [h5, if_neg ha]
      exact ⟨fun q => q.2, fun q => ⟨q A (by omega) hAN, q⟩⟩
  refine zLP2_ind (fun x2 x3 σ1 => σ1 = σ ∧ ∃ i : Nat, x3 = (i : Int) ∧ A ≤ i ∧ i ≤ N ∧ (0 ≤ x2 ∧ ∀ e, zbt x2 e ↔ (if al = 0 then zbt (zEy V tu (zOr V tu st A) 255 7) e ∨ ∃ j, A ≤ j ∧ j < i ∧ zbt (zEy V tu (zOr V tu st j) 255 7) e else zbt (zEy V tu (zOr V tu st A) 255 7) e ∧ ∀ j, A ≤ j → j < i → zbt (zEy V tu (zOr V tu st j) 255 7) e))) (fun _ x3 _ => (64 - x3).toNat) ?_ ⟨rfl, A, e3, by omega, by omega, by rw [e2]; exact hnn _, fun e => ?_⟩
  · rintro K x2 x3 σ1 ⟨rfl, i, rfl, hA, hi, h2⟩ hK
    refine ⟨by omega, fun h => hge i x2 hA (by omega) hi h2, fun h => ⟨hal, fun ha => ?_, fun ha => ?_⟩⟩
    · have hio := hor i
      rw [Int.toNat_natCast, (hp i (by omega)).1, (hp i (by omega)).2]
      refine ⟨by omega, by omega, ⟨h2.1, hnn _⟩, ?_⟩
      refine hK _ _ _ ⟨rfl, i + 1, by omega, by omega, by omega, zor_nn _ _, fun e => ?_⟩ (by omega)
      rw [zbt_or, h2.2, if_pos ha, if_pos ha]
      constructor
      · rintro ((q | ⟨j, j1, j2, j3⟩) | q)
        · exact Or.inl q
        · exact Or.inr ⟨j, j1, by omega, j3⟩
        · exact Or.inr ⟨i, hA, by omega, q⟩
      · rintro (q | ⟨j, j1, j2, j3⟩)
        · exact Or.inl (Or.inl q)
        · rcases (show j < i ∨ j = i by omega) with q | rfl
          · exact Or.inl (Or.inr ⟨j, j1, q, j3⟩)
          · exact Or.inr j3
    · have hio := hor i
      rw [Int.toNat_natCast, (hp i (by omega)).1, (hp i (by omega)).2]
      refine ⟨by omega, by omega, ⟨h2.1, hnn _⟩, ?_⟩
      refine hK _ _ _ ⟨rfl, i + 1, by omega, by omega, by omega, zand_nn _ _, fun e => ?_⟩ (by omega)
      rw [zbt_and, h2.2, if_neg ha, if_neg ha]
      constructor
      · rintro ⟨⟨q1, q2⟩, q3⟩
        refine ⟨q1, fun j j1 j2 => ?_⟩
        rcases (show j < i ∨ j = i by omega) with q | rfl
        · exact q2 j j1 q
        · exact q3
      · rintro ⟨q1, q2⟩
        exact ⟨⟨q1, fun j j1 j2 => q2 j j1 (by omega)⟩, q2 i hA (by omega)⟩
  · rw [e2]
    split
    · exact ⟨Or.inl, fun q => q.elim id (fun ⟨j, j1, j2, _⟩ => by omega)⟩
    · exact ⟨fun q => ⟨q, fun j j1 j2 => by omega⟩, fun q => q.1⟩
/-! the table's own -/
def zin_ (V : zPH) (c r : Int) : Prop := (0 ≤ c ∧ c < V 0 0) ∧ 0 ≤ r ∧ r < V 0 1
/-- the square told by column and row -/
def zqo (c r : Int) : Nat := 12 * r.toNat + c.toNat
theorem zqo_va {V : zPH} (hV : zVd V) {c r : Int} (h : zin_ V c r) : zva V (zqo c r) ∧ (zP V (zqo c r) : Int) = r * V 0 0 + c := by
  obtain ⟨⟨a, b⟩, d, e⟩ := h
  have := hV.1
  unfold zva zP zqo
  rw [show (12 * r.toNat + c.toNat) % 12 = c.toNat by omega, show (12 * r.toNat + c.toNat) / 12 = r.toNat by omega]
  refine ⟨by omega, ?_⟩
  obtain ⟨x, hx⟩ := Int.eq_ofNat_of_zero_le d
  obtain ⟨y, hy⟩ := Int.eq_ofNat_of_zero_le this.1
  rw [hx, hy, Int.toNat_natCast, Int.toNat_natCast]
  push_cast
  omega
theorem s_T_squareAt {G : zG} {σ : zPH} {X : zX} {t : Nat} {V : zPH} (ht : zisT t) (hV : zVd V) (hd : zTd σ t V) {c r : Int} (hc : zI c) (hr : zI r) (h1 : zin_ V c r → X (some (iZ (zP V (zqo c r) : Int))) σ) (h0 : ¬ zin_ V c r → X (some (iZ (-1))) σ) : MS G zm_T_squareAt 0 [zr G t, iZ c, iZ r] σ X := by
  have hV1 := hV.1
  have e0 : σ t 0 = V 0 0 := hd.1
  have e1 : σ t 1 = V 0 1 := hd.2.1
  have no : ¬ zin_ V c r → b_T_squareAt_28 G t c r X σ := fun h => ⟨by decide, fun _ => h0 h, fun q => absurd rfl q⟩
  refine k_T_squareAt ht ⟨hc, fun h => no (fun q => by have := q.1; omega), fun h => ⟨⟨hc, by omega⟩, fun h2 => no (fun q => by have := q.1; omega), fun h2 => ⟨hr, fun h3 => no (fun q => by have := q.2; omega), fun h3 => ⟨⟨hr, by omega⟩, fun h4 => no (fun q => by have := q.2; omega), fun h4 => ⟨by decide, fun q => absurd q (by decide), fun _ => ?_⟩⟩⟩⟩⟩
  have hi : zin_ V c r := ⟨by omega, by omega⟩
  have := h1 hi
  rw [(zqo_va hV hi).2] at this
  rw [e0]; exact this
theorem s_T_columnOf {G : zG} {σ : zPH} {X : zX} {t : Nat} {V : zPH} (ht : zisT t) (hV : zVd V) (hd : zTd σ t V) {q : Nat} {z : Int} (hq : zva V q) (hz : z = (zP V q : Int)) (hX : X (some (iZ ((q % 12 : Nat) : Int))) σ) : MS G zm_T_columnOf 0 [zr G t, iZ z] σ X := by
  subst hz
  have hV1 := hV.1
  have e0 : σ t 0 = V 0 0 := hd.1
  have hp := (zP_lt hV hq).2
  have h1 := hq.1
  have e := (zP_dm hq).2
  refine k_T_columnOf ht ⟨by omega, fun h => by omega, fun h => ⟨by omega, fun h2 => ⟨by omega, ?_⟩, fun h2 => by omega⟩⟩
  rw [e0]
  have e2 : (zP V q : Int) % V 0 0 = ((q % 12 : Nat) : Int) := by
    rw [← e]
    push_cast
    rw [Int.toNat_of_nonneg (by omega)]
  rw [e2]; exact hX
theorem s_T_rowOf {G : zG} {σ : zPH} {X : zX} {t : Nat} {V : zPH} (ht : zisT t) (hV : zVd V) (hd : zTd σ t V) {q : Nat} {z : Int} (hq : zva V q) (hz : z = (zP V q : Int)) (hX : X (some (iZ ((q / 12 : Nat) : Int))) σ) : MS G zm_T_rowOf 0 [zr G t, iZ z] σ X := by
  subst hz
  have hV1 := hV.1
  have e0 : σ t 0 = V 0 0 := hd.1
  have hp := (zP_lt hV hq).2
  have h1 := hq.1
  have e := (zP_dm hq).1
  refine k_T_rowOf ht ⟨by omega, fun h => by omega, fun h => ⟨by omega, fun h2 => ⟨by omega, ?_⟩, fun h2 => by omega⟩⟩
  rw [e0]
  have e2 : (zP V q : Int) / V 0 0 = ((q / 12 : Nat) : Int) := by
    rw [← e]
    push_cast
    rw [Int.toNat_of_nonneg (by omega)]
  rw [e2]; exact hX
theorem s_T_noSquare {G : zG} {σ : zPH} {X : zX} {t : Nat} (ht : zisT t) (hX : X (some (iZ (-1))) σ) : MS G zm_T_columnOf 0 [zr G t, iZ (-1)] σ X ∧ MS G zm_T_rowOf 0 [zr G t, iZ (-1)] σ X :=
  ⟨k_T_columnOf ht ⟨by omega, fun _ => hX, fun h => by omega⟩, k_T_rowOf ht ⟨by omega, fun _ => hX, fun h => by omega⟩⟩
/-- a piece comes onto a square -/
def zPu (σ σ' : zPH) (t : Nat) (pc : Int) (p : Nat) : Prop := (∀ q, q ≠ t + 2 → q ≠ t + 3 → σ' q = σ q) ∧ (∀ k, σ' (t + 2) k = if k = p then pc else σ (t + 2) k) ∧ ∀ i : Nat, σ' (t + 3) i = if pc = (i : Int) then (p : Int) else if σ (t + 2) p = (i : Int) ∧ σ (t + 3) i = (p : Int) then -1 else σ (t + 3) i
theorem s_T_put {G : zG} {σ : zPH} {X : zX} {t : Nat} (ht : zisT t) {pc z : Int} {p : Nat} (hz : z = (p : Int)) (hp : p < 144) (hpc : -1 ≤ pc ∧ pc < 60) (h2 : ∀ p, -1 ≤ σ (t + 2) p ∧ σ (t + 2) p < 60) (h3 : ∀ i, -1 ≤ σ (t + 3) i ∧ σ (t + 3) i < 144) (hX : ∀ σ', zPu σ σ' t pc p → X none σ') : MS G zm_T_put 0 [zr G t, iZ pc, iZ z] σ X := by
  subst hz
  refine k_T_put ht ?_
  have a2 := h2 p
  have key : ∀ σ1 : zPH, (∀ q, q ≠ t + 3 → σ1 q = σ q) → (∀ i : Nat, σ1 (t + 3) i = if σ (t + 2) p = (i : Int) ∧ σ (t + 3) i = (p : Int) then -1 else σ (t + 3) i) → b_T_put_29 G t pc (p : Int) X σ1 := by
    intro σ1 r1 f1
    refine ⟨by omega, ?_⟩
    rintro σ35 e35
    rw [Int.toNat_natCast] at e35
    have p2 : ∀ k, σ35 (t + 2) k = if k = p then pc else σ (t + 2) k := fun k => by
      rw [e35]; split
      · rename_i q; rw [q, zupd_same]
      · rename_i q; rw [zupd_nk q, r1 _ (by omega)]
    refine ⟨by omega, fun h => hX σ35 ⟨fun q q1 q2 => by rw [e35, zupd_row q1, r1 q q2], p2, fun i => ?_⟩, fun h => ⟨by omega, ?_⟩⟩
    · rw [if_neg (by omega), e35, zupd_row (by omega), f1]
    · rintro σ47 e47
      refine hX σ47 ⟨fun q q1 q2 => by rw [e47, zupd_row q2, e35, zupd_row q1, r1 q q2], fun k => by rw [e47, zupd_row (by omega), p2], fun i => ?_⟩
      rw [e47]
      split
      · rename_i q; rw [show pc.toNat = i by omega, zupd_same]
      · rename_i q; rw [zupd_nk (by omega), e35, zupd_row (by omega), f1]
  refine ⟨by omega, ?_⟩
  rintro x3 e3
  rw [Int.toNat_natCast] at e3
  refine ⟨by omega, fun h => key σ (fun _ _ => rfl) (fun i => by rw [if_neg (by omega)]), fun h => ⟨by omega, ?_, fun hn => key σ (fun _ _ => rfl) (fun i => ?_), fun he => ⟨by omega, ?_⟩⟩⟩
  · have := h3 x3.toNat; omega
  · split
    · rename_i q; exfalso; apply hn; rw [e3, q.1, Int.toNat_natCast, q.2]
    · rfl
  · rintro σ28 e28
    refine key σ28 (fun q hq => by rw [e28, zupd_row hq]) (fun i => ?_)
    rw [e28]
    by_cases q : x3.toNat = i
    · rw [← q, zupd_same, if_pos ⟨by omega, he⟩]
    · rw [zupd_nk (by omega), if_neg (by omega)]
theorem zPu.ts {σ σ' : zPH} {t p : Nat} {pc : Int} (h : zPu σ σ' t pc p) (hs : zTs σ t) (hpc : -1 ≤ pc ∧ pc < 60) (hp : p < 144) : zTs σ' t := by
  obtain ⟨r, h2, h3⟩ := h
  obtain ⟨a, b, c, d⟩ := hs
  refine ⟨by rw [r (t + 1) (by omega) (by omega)]; exact a, fun k => ?_, fun i => ?_, ?_⟩
  · rw [h2]; split
    · exact hpc
    · exact b k
  · rw [h3]; split
    · omega
    · split
      · omega
      · exact c i
  · unfold zPc at *
    rw [r t (by omega) (by omega), r (t + 4) (by omega) (by omega), r (t + 5) (by omega) (by omega), r (t + 6) (by omega) (by omega), r (t + 7) (by omega) (by omega), r (t + 8) (by omega) (by omega), r (t + 9) (by omega) (by omega)]
    exact d
/-- a piece is tried out on a square -/
def zTy (σ σ' : zPH) (t : Nat) (so lo : Int) (p : Nat) : Prop := (∀ q, q ≠ t + 2 → q ≠ t + 3 → q ≠ t + 4 → q ≠ t + 5 → q ≠ t + 6 → σ' q = σ q) ∧ (∀ i, σ' (t + 4) i = if i = 59 then so else σ (t + 4) i) ∧ (∀ i, σ' (t + 5) i = if i = 59 then -1 else σ (t + 5) i) ∧ (∀ i, σ' (t + 6) i = if i = 59 then lo else σ (t + 6) i) ∧ (∀ k, σ' (t + 2) k = if k = p then 59 else σ (t + 2) k) ∧ ∀ i : Nat, σ' (t + 3) i = if i = 59 then (p : Int) else if σ (t + 2) p = (i : Int) ∧ σ (t + 3) i = (p : Int) then -1 else σ (t + 3) i
theorem s_T_putTried {G : zG} {σ : zPH} {X : zX} {t : Nat} (ht : zisT t) {so lo z : Int} {p : Nat} (hz : z = (p : Int)) (hp : p < 144) (h2 : ∀ p, -1 ≤ σ (t + 2) p ∧ σ (t + 2) p < 60) (h3 : ∀ i, -1 ≤ σ (t + 3) i ∧ σ (t + 3) i < 144) (hX : ∀ σ', zTy σ σ' t so lo p → X none σ') : MS G zm_T_putTried 1 [zr G t, iZ so, iZ lo, iZ z] σ X := by
  refine k_T_putTried ht ?_
  rintro σ7 e7 σ15 e15 σ23 e23
  have r : ∀ q, q ≠ t + 4 → q ≠ t + 5 → q ≠ t + 6 → σ23 q = σ q := fun q q1 q2 q3 => by rw [e23, zupd_row q2, e15, zupd_row q3, e7, zupd_row q1]
  refine s_T_put ht hz hp (by decide) (by rw [r (t + 2) (by omega) (by omega) (by omega)]; exact h2) (by rw [r (t + 3) (by omega) (by omega) (by omega)]; exact h3) (fun σ' h => ⟨rfl, hX σ' ?_⟩)
  obtain ⟨a, b, c⟩ := h
  refine ⟨fun q q1 q2 q3 q4 q5 => by rw [a q q1 q2, r q q3 q4 q5], fun i => ?_, fun i => ?_, fun i => ?_, fun k => by rw [b, r (t + 2) (by omega) (by omega) (by omega)], fun i => ?_⟩
  · rw [a _ (by omega) (by omega), e23, zupd_row (by omega), e15, zupd_row (by omega), e7]
    split
    · rename_i q; rw [q, zupd_same]
    · rename_i q; rw [zupd_nk q]
  · rw [a _ (by omega) (by omega), e23]
    split
    · rename_i q; rw [q, zupd_same]
    · rename_i q; rw [zupd_nk q, e15, zupd_row (by omega), e7, zupd_row (by omega)]
  · rw [a _ (by omega) (by omega), e23, zupd_row (by omega), e15]
    split
    · rename_i q; rw [q, zupd_same]
    · rename_i q; rw [zupd_nk q, e7, zupd_row (by omega)]
  · rw [c, r (t + 2) (by omega) (by omega) (by omega), r (t + 3) (by omega) (by omega) (by omega)]
    by_cases q : i = 59
    · subst q; rfl
    · rw [if_neg q, if_neg (by omega)]
