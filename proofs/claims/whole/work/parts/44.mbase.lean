/-! The model's object -/
def zMD (σ V D : zPH) : Prop := (σ 58 42 = D 0 0 ∧ σ 58 43 = D 0 1 ∧ σ 58 68 = D 0 2 ∧ σ 58 1 = D 0 3 ∧ σ 58 2 = D 0 4 ∧ σ 58 3 = D 0 5 ∧ σ 58 72 = D 0 6) ∧ (∀ e : Nat, (e : Int) < V 0 5 → σ 83 e = D 1 e) ∧ (∀ j : Nat, (j : Int) < D 0 2 → σ 90 j = D 2 j ∧ σ 91 j = D 3 j) ∧ (∀ j : Nat, (j : Int) < D 0 3 → σ 59 j = D 4 j) ∧ (∀ j : Nat, (j : Int) < D 0 6 → σ 92 j = D 5 j)
def zWd (E W : Int) : Prop := 0 ≤ W ∧ ∀ j : Nat, (E / 27 ^ j = 0 ↔ W / 256 ^ j = 0) ∧ (E / 27 ^ j ≠ 0 → W / 256 ^ j % 256 = 96 + E / 27 ^ j % 27)
def zMN (σ V : zPH) : Prop := ∀ e : Nat, (e : Int) < V 0 5 → zWd (V 20 e) (σ 71 (8 * (σ 58 13).toNat + e)) ∧ 0 ≤ V 20 e ∧ V 20 e < 387420489
def zMR (σ : zPH) : Prop := σ 58 45 = -1 ∧ σ 58 46 = -1 ∧ σ 58 49 = -1 ∧ σ 58 50 = -1 ∧ σ 58 51 = -1 ∧ σ 58 56 = -1
/-- the model's object is the board V with D -/
def zMI (σ V D : zPH) : Prop := zMV σ V ∧ zMR σ ∧ zMD σ V D ∧ zMN σ V ∧ zmBs σ V
/-- nothing of the class has changed -/
def zfA (σ σ' : zPH) : Prop := ∀ q, q < 58 → σ' q = σ q
theorem zfA.rf {σ : zPH} : zfA σ σ := fun _ _ => rfl
theorem zfA.trans {σ σ1 σ2 : zPH} (h1 : zfA σ σ1) (h2 : zfA σ1 σ2) : zfA σ σ2 := fun q h => by rw [h2 q h, h1 q h]
/-- what looking changes -/
def zfW (σ σ' : zPH) : Prop := (∀ q, (q < 84 ∨ 89 < q) → q ≠ 58 → σ' q = σ q) ∧ ∀ k, k ≠ 55 → (k < 59 ∨ 65 < k) → σ' 58 k = σ 58 k
theorem zfW.rf {σ : zPH} : zfW σ σ := ⟨fun _ _ _ => rfl, fun _ _ _ => rfl⟩
theorem zfW.trans {σ σ1 σ2 : zPH} (h : zfW σ σ1) (h2 : zfW σ1 σ2) : zfW σ σ2 := ⟨fun q a b => by rw [h2.1 q a b, h.1 q a b], fun k hk a => by rw [h2.2 k hk a, h.2 k hk a]⟩
theorem zfN.W {σ σ' : zPH} (h : zfN σ σ') : zfW σ σ' := ⟨fun q a b => h.1 q (by omega) b, fun k hk a => h.2 k hk (by omega)⟩
theorem zfS.W {σ σ' : zPH} (h : zfS σ σ') : zfW σ σ' := h.N.W
theorem zfM.W {σ σ' : zPH} (h : zfM σ σ') : zfW σ σ' := h.S.W
theorem zfW.A {σ σ' : zPH} (h : zfW σ σ') : zfA σ σ' := fun q hq => h.1 q (by omega) (by omega)
theorem zfW.vw {σ σ' V : zPH} (h : zfW σ σ') (hv : zMV σ V) : zMV σ' V := hv.to (fun q h1 h2 => h.1 q (by omega) (by omega)) (fun k hk => h.2 k (by omega) (by omega))
theorem zMD.to {σ σ' V D : zPH} (h : zMD σ V D) (r : ∀ q, q = 83 ∨ q = 90 ∨ q = 91 ∨ q = 59 ∨ q = 92 → σ' q = σ q) (r0 : ∀ k, k = 42 ∨ k = 43 ∨ k = 68 ∨ k = 1 ∨ k = 2 ∨ k = 3 ∨ k = 72 → σ' 58 k = σ 58 k) : zMD σ' V D := by
  unfold zMD at *
  rw [r0 42 (by omega), r0 43 (by omega), r0 68 (by omega), r0 1 (by omega), r0 2 (by omega), r0 3 (by omega), r0 72 (by omega), r 83 (by omega), r 90 (by omega), r 91 (by omega), r 59 (by omega), r 92 (by omega)]
  exact h
theorem zMI.W {σ σ' V D : zPH} (h : zMI σ V D) (f : zfW σ σ') : zMI σ' V D := by
  obtain ⟨h1, h2, h3, h4, h5⟩ := h
  refine ⟨f.vw h1, ?_, h3.to (fun q hq => f.1 q (by omega) (by omega)) (fun k hk => f.2 k (by omega) (by omega)), ?_, h5.to (fun q a b => f.1 q (by omega) (by omega)) (f.2 13 (by decide) (by decide))⟩
  · unfold zMR at *
    rw [f.2 45 (by decide) (by decide), f.2 46 (by decide) (by decide), f.2 49 (by decide) (by decide), f.2 50 (by decide) (by decide), f.2 51 (by decide) (by decide), f.2 56 (by decide) (by decide)]
    exact h2
  · unfold zMN at *
    rw [f.1 71 (by decide) (by decide), f.2 13 (by decide) (by decide)]; exact h4
/-- turned mirrors and state are sound -/
theorem zMI.tu {σ V D : zPH} (hB : zBD V D) (h : zMI σ V D) : (zI (σ 58 42) ∧ 0 ≤ σ 58 42) ∧ (0 ≤ σ 58 43 ∧ σ 58 43 < 2 ^ (V 0 4).toNat) ∧ zI (σ 58 43) ∧ σ 58 56 = -1 := by
  have hr := hB.r
  obtain ⟨e1, e2, -⟩ := h.2.2.1.1
  rw [e1, e2]
  exact ⟨by omega, hB.2.2.2.1, by omega, h.2.1.2.2.2.2.2⟩
section MB
variable {G : zG} {σ V D : zPH} {X : zX}
theorem s_M_fault (hB : zBD V D) (h : zMI σ V D) {w : Int} (hw : zI w) (hX : X (some (iZ (zFau D w))) σ) : MS G zm_M_fault 0 [zr G 58, iZ w] σ X := by
  obtain ⟨-, -, -, -, a, b, -⟩ := h.2.2.1.1
  unfold zFau at hX
  refine k_M_fault ⟨hw, fun q => ⟨hw, fun q2 => ?_, fun q2 => ?_⟩, fun q => ?_⟩
  · rw [if_neg q, if_neg q2] at hX; exact hX
  · rw [if_neg q, if_pos q2] at hX; rw [b]; exact hX
  · rw [if_pos q] at hX; rw [a]; exact hX
theorem s_M_has (h : zMI σ V D) {w : Int} (hw : zI w) (hX : X (some (iZ (zHss V w))) σ) : MS G zm_M_has 0 [zr G 58, iZ w] σ X := by
  have hb := h.1.1.1
  obtain ⟨e60, e61, e62, e63, e64, e65, e66⟩ := h.1.2.1
  unfold zHss at hX
  refine k_M_has ⟨hw, fun q => ⟨by omega, ?_⟩, fun q => ⟨by omega, ?_⟩, fun q => ⟨by omega, ?_⟩, fun q => ⟨by omega, ?_⟩, fun q => ⟨by omega, ?_⟩, fun q => ⟨by omega, ?_⟩, fun q => ⟨by omega, ?_⟩, fun q => ?_⟩
  · subst q; rw [e60]; exact hX
  · subst q; rw [e61]; exact hX
  · subst q; rw [e63]; exact hX
  · subst q; rw [e64]; exact hX
  · subst q; rw [e65]; exact hX
  · subst q; rw [e66]; exact hX
  · subst q; rw [e62]; exact hX
  · rw [if_neg (by omega)] at hX; exact hX
theorem s_M_isEye (hV : zVd V) (h : zMV σ V) {k : Int} (hk : zI k) (h1 : 0 ≤ k → k < V 0 5 → X (some (iZ 1)) σ) (h0 : ¬ (0 ≤ k ∧ k < V 0 5) → X (some (iZ 0)) σ) : MS G zm_M_isEye 1 [zr G 58, iZ k] σ X := by
  have hc := hV.2.1
  have hb := h.1.1
  refine k_M_isEye ⟨by omega, ?_⟩
  rw [h.2.1.2.2.2.2.2.2]
  exact s_M_is hk (by decide) (by omega) (fun a b => ⟨1, Or.inr rfl, rfl, Or.inr rfl, h1 a (by omega)⟩) (fun a => ⟨0, Or.inl rfl, rfl, Or.inl rfl, h0 (by omega)⟩)
theorem s_M_isMirror (hV : zVd V) (h : zMV σ V) {k : Int} (hk : zI k) (h1 : 0 ≤ k → k < V 0 3 → X (some (iZ 1)) σ) (h0 : ¬ (0 ≤ k ∧ k < V 0 3) → X (some (iZ 0)) σ) : MS G zm_M_isMirror 1 [zr G 58, iZ k] σ X := by
  have hc := hV.2.1
  have hb := h.1.1
  refine k_M_isMirror ⟨by omega, ?_⟩
  rw [h.2.1.2.2.2.2.1]
  exact s_M_is hk (by decide) (by omega) (fun a b => ⟨1, Or.inr rfl, rfl, Or.inr rfl, h1 a (by omega)⟩) (fun a => ⟨0, Or.inl rfl, rfl, Or.inl rfl, h0 (by omega)⟩)
theorem zp256 (n : Nat) : (2 : Int) ^ (8 * n) = 256 ^ n := by rw [Int.pow_mul]; rfl
theorem zd256 (E : Int) (n : Nat) : E / 256 ^ n / 256 = E / 256 ^ (n + 1) := by
  rw [Int.ediv_ediv_of_nonneg (Int.le_of_lt (Int.pow_pos (by decide))), Int.pow_succ]
theorem zd256_le {E : Int} (hE : 0 ≤ E) (n : Nat) : 0 ≤ E / 256 ^ n ∧ E / 256 ^ n ≤ E := by
  induction n with
  | zero => simp; exact hE
  | succ n ih => rw [← zd256]; omega
theorem s_M_letter (hB : zBD V D) (h : zMI σ V D) {e k : Int} (he : zI e) (hk : zI k) (hX : ∀ x, zLet V e k x → X (some (iZ x)) σ) : MS G zm_M_letter 2 [zr G 58, iZ e, iZ k] σ X := by
  have hc := hB.1.2.1
  have hb := h.1.1.1
  refine k_M_letter (s_M_isEye hB.1 h.1 he (fun q1 q2 => Or.inr ⟨rfl, hk, fun qk => ⟨by omega, ?_⟩, fun qk => ?_⟩) (fun q => Or.inl ⟨rfl, hX _ (Or.inr ⟨q, rfl⟩)⟩))
  · obtain ⟨⟨hW0, hW⟩, n2, n3⟩ := h.2.2.2.1 e.toNat (by omega)
    rw [show 8 * (σ 58 13).toNat + e.toNat = (8 * σ 58 13 + e).toNat by omega] at hW hW0
    rintro x3 e3
    rw [← e3] at hW hW0
    clear e3
    generalize hE : V 20 e.toNat = E at hW n2 n3
    have h6 : E / 27 ^ 6 = 0 := Int.ediv_eq_zero_of_lt n2 n3
    have w6 : x3 / 256 ^ 6 = 0 := (hW 6).1.mp h6
    have w48 : x3 < 281474976710656 := by
      have := Int.lt_ediv_add_one_mul_self x3 (show (0 : Int) < 256 ^ 6 by decide)
      rw [w6] at this; omega
    refine zLP3_ind (fun y3 x5 x6 σ2 => y3 = x3 ∧ σ2 = σ ∧ ∃ i : Nat, x5 = (i : Int) ∧ i ≤ 6 ∧ x6 = x3 / 256 ^ i ∧ (i = 0 ∨ x3 / 256 ^ (i - 1) ≠ 0)) (fun _ x5 _ _ => (6 - x5).toNat) ?_ ⟨rfl, rfl, 0, rfl, by decide, by simp, Or.inl rfl⟩
    rintro K y3 x5 x6 σ2 ⟨rfl, hσ, i, rfl, hi, rfl, hp⟩ hK
    rw [hσ]
    have hd := zd256_le hW0 i
    refine ⟨by omega, fun q => ?_, fun q => ⟨⟨by omega, by omega⟩, ?_⟩⟩
    · have hL : E / 27 ^ i = 0 ∧ (i = 0 ∨ E / 27 ^ (i - 1) ≠ 0) := ⟨(hW i).1.mpr q, hp.elim Or.inl (fun z => Or.inr (fun y => z ((hW (i - 1)).1.mp y)))⟩
      refine ⟨⟨hk, by omega⟩, fun q3 => ⟨⟨⟨hW0, by omega⟩, by omega, by omega⟩, hX _ (Or.inl ⟨⟨q1, q2⟩, i, by rw [hE]; exact hL, Or.inl ⟨⟨qk, q3⟩, ?_⟩⟩)⟩, fun q3 => hX _ (Or.inl ⟨⟨q1, q2⟩, i, by rw [hE]; exact hL, Or.inr ⟨by omega, rfl⟩⟩)⟩
      rw [hE, show (8 * ((i : Int) - 1 - k)).toNat = 8 * (i - 1 - k.toNat) by omega, zp256]
      refine (hW (i - 1 - k.toNat)).2 (fun z => ?_)
      rcases hL.2 with y | y
      · omega
      · exact y (zd27_0 (by omega) z)
    · rintro x6' rfl
      have hi6 : i ≠ 6 := fun z => by rw [z] at q; exact q w6
      exact hK _ _ _ _ ⟨rfl, rfl, i + 1, by omega, by omega, zd256 y3 i, Or.inr (by rw [show i + 1 - 1 = i by omega]; exact q)⟩ (by omega)
  · -- k below 0
    obtain ⟨-, n2, n3⟩ := h.2.2.2.1 e.toNat (by omega)
    have h6 : V 20 e.toNat / 27 ^ 6 = 0 := Int.ediv_eq_zero_of_lt n2 n3
    have : ∀ n : Nat, V 20 e.toNat / 27 ^ n = 0 → ∃ L : Nat, V 20 e.toNat / 27 ^ L = 0 ∧ (L = 0 ∨ V 20 e.toNat / 27 ^ (L - 1) ≠ 0) := by
      intro n
      induction n with
      | zero => exact fun z => ⟨0, z, Or.inl rfl⟩
      | succ n ih =>
        intro z
        by_cases y : V 20 e.toNat / 27 ^ n = 0
        · exact ih y
        · exact ⟨n + 1, z, Or.inr y⟩
    obtain ⟨L, hL⟩ := this 6 h6
    exact hX _ (Or.inl ⟨⟨q1, q2⟩, L, hL, Or.inr ⟨by omega, rfl⟩⟩)
theorem s_M_square (hB : zBD V D) (h : zMI σ V D) {c r w : Int} (hc : zI c) (hr : zI r) (hw : zI w) (hX : ∀ x, zSqr V D c r w x → X (some (iZ x)) σ) : MS G zm_M_square 3 [zr G 58, iZ c, iZ r, iZ w] σ X := by
  obtain ⟨t1, t2, t3, t4⟩ := h.tu hB
  refine k_M_square (s_M_isSquare hB.1 h.1 hc hr (fun hi => Or.inr ⟨rfl, ?_⟩) (fun hi => Or.inl ⟨rfl, hX _ (Or.inr ⟨hi, rfl⟩)⟩))
  obtain ⟨hv, -⟩ := zqo_va hB.1 hi
  have hl := (zva.lt hB.1 hv).1
  rintro x4 e4
  have ez : x4 = ((zqo c r : Nat) : Int) := by unfold zin_ at hi; unfold zqo; omega
  obtain ⟨v1, v2, v3, v4, v5, v6, v7, v8⟩ := hB.1.2.2.1 _ hv
  have num : V 1 (zqo c r) ≠ 0 → V 1 (zqo c r) ≠ 4 → V 1 (zqo c r) ≠ 5 → V 1 (zqo c r) ≠ 6 → X (some (iZ (V 2 (zqo c r)))) σ → MS G zm_M_numberAt 1 [zr G 58, iZ x4] σ (fun v σ82 => ∃ z82 : Int, v = some (iZ z82) ∧ X (some (iZ z82)) σ82) := fun a b c' d hx => by
    have hE := h.1.2.2.2.2.1 _ hv (by have := h.2.1.2.1; omega)
    rw [ez]
    refine s_M_numberAt' h.1.1 (by omega) ⟨_, rfl, ?_⟩
    rw [hE.2 a b c' d]; exact hx
  refine s_M_sortAt hB.1 h.1 ez hv ⟨_, rfl, hw, fun q => ⟨by omega, fun q2 => ?_, fun q2 => ⟨hw, fun q3 => ?_, fun q3 => ⟨hw, fun q4 => ?_, fun q4 => ?_⟩⟩⟩, fun q => ?_⟩
  · exact hX _ (Or.inl ⟨hi, by rw [if_neg q, if_pos q2]⟩)
  · have hx := hX (V 2 (zqo c r)) (Or.inl ⟨hi, by rw [if_neg q, if_neg q2, if_pos q3]⟩)
    have i1 : zI (V 1 (zqo c r)) := by omega
    refine ⟨hw, fun z => absurd q3 z, fun _ => ⟨i1, fun z => ?_, fun z => ⟨i1, fun z2 => ?_, fun z2 => ⟨i1, fun z3 => num q2 z z2 z3 hx, fun z3 => ?_⟩⟩⟩⟩
    · rw [(v4 z).2] at hx; exact hx
    · rw [(v5 (Or.inl z2)).2] at hx; exact hx
    · rw [(v5 (Or.inr z3)).2] at hx; exact hx
  · have hx := hX (zFm V (D 0 0) (D 0 1) (zqo c r)) (Or.inl ⟨hi, by rw [if_neg q, if_neg q2, if_neg q3, if_pos q4]⟩)
    have i1 : zI (V 1 (zqo c r)) := by omega
    have nof : V 3 (zqo c r) = -1 → V 1 (zqo c r) = 5 ∨ V 1 (zqo c r) = 6 ∨ V 1 (zqo c r) = 7 → X (some (iZ (-1))) σ := fun a b => by
      unfold zFm zlkv at hx
      rw [if_neg q2, if_neg (by omega), if_neg (by omega), a] at hx; exact hx
    refine ⟨hw, fun _ => ⟨i1, fun z => nof (v5 (Or.inl z)).1 (Or.inl z), fun z => ⟨i1, fun z2 => nof (v5 (Or.inr z2)).1 (Or.inr (Or.inl z2)), fun z2 => ⟨i1, fun z3 => ?_, fun z3 => nof (v6 z3).2.1 (Or.inr (Or.inr z3))⟩⟩⟩, fun z => absurd z q3⟩
    refine s_M_formAt hB.1 h.1 ez hv q2 z z2 z3 t1 ⟨t3, t2.1⟩ ⟨_, rfl, ?_⟩
    rw [h.2.2.1.1.1, h.2.2.1.1.2.1]; exact hx
  · exact hX _ (Or.inl ⟨hi, by rw [if_neg q, if_neg q2, if_neg q3, if_neg q4]⟩)
  · exact hX _ (Or.inl ⟨hi, by rw [if_pos q]⟩)
/-- light of the board as it is -/
theorem s_M_shineNow (hB : zBD V D) (h : zMI σ V D) {st : Int} (hst : zI st ∧ 0 ≤ st) (hX : ∀ σ', zMI σ' V D → zfM σ σ' → zmLt σ' V (D 0 0) st 255 → X none σ') : MS G zm_M_shines 4 [zr G 58, iZ st] σ X := by
  obtain ⟨t1, t2, t3, t4⟩ := h.tu hB
  refine s_M_shines hB.1 h.1 t1 hst (Or.inl ⟨t4, rfl⟩) (fun σ' M F L => hX σ' (h.W F.W) F ?_)
  rw [← h.2.2.1.1.1]; exact L
theorem s_M_light (hB : zBD V D) (h : zMI σ V D) {c r w : Int} (hc : zI c) (hr : zI r) (hw : zI w) (hX : ∀ σ' x, zLgt V D c r w x → zMI σ' V D → zfA σ σ' → X (some (iZ x)) σ') : MS G zm_M_light 5 [zr G 58, iZ c, iZ r, iZ w] σ X := by
  obtain ⟨t1, t2, t3, t4⟩ := h.tu hB
  have e43 := h.2.2.1.1.2.1
  refine k_M_light (s_M_isSquare hB.1 h.1 hc hr (fun hi => Or.inr ⟨rfl, ?_⟩) (fun hi => Or.inl ⟨rfl, hX σ _ (Or.inr ⟨fun z => hi z.1, rfl⟩) h zfA.rf⟩))
  refine s_M_is hw (by decide) (by decide) (fun a b => Or.inr ⟨rfl, ?_⟩) (fun a => Or.inl ⟨rfl, hX σ _ (Or.inr ⟨fun z => by omega, rfl⟩) h zfA.rf⟩)
  refine s_M_shineNow hB h ⟨t3, t2.1⟩ (fun σ1 M1 F1 L1 => ⟨rfl, ?_⟩)
  have hl := (zva.lt hB.1 (zqo_va hB.1 hi).1).1
  have ez : 12 * r + c = ((zqo c r : Nat) : Int) := by unfold zin_ at hi; unfold zqo; omega
  rw [ez, show (4 * ((zqo c r : Nat) : Int) + w).toNat = 4 * zqo c r + w.toNat by omega, L1 _ (by omega), e43]
  exact ⟨by omega, hX σ1 _ (Or.inl ⟨hi, ⟨a, by omega⟩, rfl⟩) M1 F1.W.A⟩
theorem zLv_nv (hV : zVd V) {tu st la co : Int} {m : Nat} (hm : ¬ zva V (m / 4)) : zLv V tu st la co m = 0 := by
  refine zbt_ext zLv_8.1 (Int.le_refl 0) fun b => ?_
  rw [zLv_bt]
  exact ⟨fun z => absurd (zRe.ind (P := fun n => zva V (n / 4)) (fun n hn => zvL_va hV hn) (fun n m _ hv hs => zvS_va hV hv hs) z.2) hm, fun z => absurd z zbt_0⟩
theorem zSq_nv (hV : zVd V) {tu st la co : Int} {q : Nat} (hq : ¬ zva V q) : zSq V tu st la co q = 0 := by
  unfold zSq
  rw [zLv_nv hV (by rw [show (4 * q) / 4 = q by omega]; exact hq), zLv_nv hV (by rw [show (4 * q + 1) / 4 = q by omega]; exact hq), zLv_nv hV (by rw [show (4 * q + 2) / 4 = q by omega]; exact hq), zLv_nv hV (by rw [show (4 * q + 3) / 4 = q by omega]; exact hq)]
  rfl
theorem s_M_into' {tu st la : Int} (hL : zmLt σ V tu st la) {q : Nat} (hl : q < 144) (hX : X (some (iZ (zSq V tu st la 7 q))) σ) : MS G zm_M_into 0 [zr G 58, iZ (q : Int)] σ X := by
  unfold zSq at hX
  have l8 : ∀ m, 0 ≤ zLv V tu st la 7 m := fun m => zLv_8.1
  refine k_M_into ?_
  unfold w_M_into
  rw [show (4 * (q : Int)).toNat = 4 * q by omega, show (4 * (q : Int) + 1).toNat = 4 * q + 1 by omega, show (4 * (q : Int) + 2).toNat = 4 * q + 2 by omega, show (4 * (q : Int) + 3).toNat = 4 * q + 3 by omega, hL _ (by omega), hL _ (by omega), hL _ (by omega), hL _ (by omega)]
  exact ⟨by omega, by omega, ⟨l8 _, l8 _⟩, by omega, ⟨zor_nn _ _, l8 _⟩, by omega, ⟨zor_nn _ _, l8 _⟩, hX⟩
theorem s_M_lit (hB : zBD V D) (h : zMI σ V D) {co : Int} (hc : zI co) (hX : ∀ σ' x, zLtt V D co x → zMI σ' V D → zfA σ σ' → X (some (iZ x)) σ') : MS G zm_M_lit 5 [zr G 58, iZ co] σ X := by
  obtain ⟨t1, t2, t3, t4⟩ := h.tu hB
  have e43 := h.2.2.1.1.2.1
  have main : (co = 1 ∨ co = 2 ∨ co = 4 ∨ co = 7) → b_M_lit_23 G co X σ := fun hco => by
    refine s_M_shineNow hB h ⟨t3, t2.1⟩ (fun σ1 M1 F1 L1 => ⟨rfl, ?_⟩)
    rw [e43] at L1
    refine zLP2_ind (fun x2 x3 σ2 => σ2 = σ1 ∧ ∃ i : Nat, x3 = (i : Int) ∧ i ≤ 144 ∧ x2 = zcn (fun q => zva V q ∧ zand (zSq V (D 0 0) (D 0 1) 255 7 q) co ≠ 0) i) (fun _ x3 _ => (144 - x3).toNat) ?_ ⟨rfl, 0, rfl, by decide, rfl⟩
    rintro K x2 x3 σ2 ⟨hσ, i, rfl, hi, hx2⟩ hK
    rw [hσ]
    have hr := zcn_r (fun q => zva V q ∧ zand (zSq V (D 0 0) (D 0 1) 255 7 q) co ≠ 0) i
    refine ⟨by omega, fun q => ?_, fun q => ?_⟩
    · rw [show i = 144 by omega] at hx2
      exact hX σ1 _ (Or.inl ⟨hco, hx2⟩) M1 F1.W.A
    · have s8 := zSq_8 (V := V) (tu := D 0 0) (st := D 0 1) (la := 255) (co := 7) (q := i)
      have a8 := zand_8 (y := co) s8
      refine s_M_into' L1 (by omega) ⟨_, rfl, ⟨by omega, by omega⟩, by omega, fun z => ?_, fun z => ?_⟩
      · rintro y ey
        refine hK _ _ _ ⟨rfl, i + 1, by omega, by omega, ?_⟩ (by omega)
        simp only [zcn]; rw [zbI_f (fun w => w.2 z)]; omega
      · rintro y ey
        refine hK _ _ _ ⟨rfl, i + 1, by omega, by omega, ?_⟩ (by omega)
        simp only [zcn]; rw [zbI_t ⟨by
          by_cases w : zva V i
          · exact w
          · rw [zSq_nv hB.1 w] at z
            exact absurd (by unfold zand; simp) z, z⟩]; omega
  refine k_M_lit ⟨hc, fun q => main (by omega), fun q => ⟨hc, fun q => main (by omega), fun q => ⟨hc, fun q => main (by omega), fun q => ⟨hc, fun q => main (by omega), fun q => hX σ _ (Or.inr ⟨by omega, rfl⟩) h zfA.rf⟩⟩⟩⟩
theorem s_M_sees (hB : zBD V D) (h : zMI σ V D) {e : Int} (he : zI e) (hX : ∀ σ' x, zSee V D e x → zMI σ' V D → zfA σ σ' → X (some (iZ x)) σ') : MS G zm_M_sees 5 [zr G 58, iZ e] σ X := by
  obtain ⟨t1, t2, t3, t4⟩ := h.tu hB
  have e43 := h.2.2.1.1.2.1
  refine k_M_sees (s_M_isEye hB.1 h.1 he (fun q1 q2 => Or.inr ⟨rfl, ?_⟩) (fun q => Or.inl ⟨rfl, hX σ _ (Or.inr ⟨q, rfl⟩) h zfA.rf⟩))
  refine s_M_shineNow hB h ⟨t3, t2.1⟩ (fun σ1 M1 F1 L1 => ⟨rfl, ?_⟩)
  rw [e43] at L1
  exact s_M_seen hB.1 M1.1 L1 (e := e.toNat) (by omega) (by omega) ⟨_, rfl, hX σ1 _ (Or.inl ⟨⟨q1, q2⟩, rfl⟩) M1 F1.W.A⟩
end MB
