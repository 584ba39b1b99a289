section MLL
variable {G : zG} {σ V D : zPH} {X : zX}
theorem ztM_iff {T : Nat → Int} {n p : Nat} (hp : p ≤ n) : ztM T (ztS T n p) = true ↔ ztS T n p = p ∧ 0 < p ∧ (zleB (T (p - 1)) = true ∨ zdiB (T (p - 1)) = true) := by
  obtain ⟨⟨a, b⟩, c, d⟩ := ztS_s (T := T) hp
  have he : ztM T (ztS T n p) = true ↔ 0 < ztS T n p ∧ (zleB (T (ztS T n p - 1)) = true ∨ zdiB (T (ztS T n p - 1)) = true) := by simp [ztM]
  rw [he]
  constructor
  · rintro ⟨h1, h2⟩
    by_cases q : ztS T n p = p
    · rw [q] at h1 h2; exact ⟨q, h1, h2⟩
    · have := c (ztS T n p - 1) (by omega) (by omega)
      rw [zleB_t, zdiB_t] at h2; omega
  · rintro ⟨h1, h2, h3⟩
    rw [h1]; exact ⟨h2, h3⟩
theorem zlook_tail {T : Nat → Int} {n p i : Nat} {c : Int} (hx : zmX σ T n) (hp : p ≤ n) (hs : ztS T n p = i) (sb : i ≤ n) (hn : n ≤ 1600) (hc : (c = 0 ∧ ¬ i < n) ∨ (c = 1 ∧ i < n ∧ zleB (T i) = true) ∨ (c = 2 ∧ i < n ∧ ¬ zleB (T i) = true ∧ zdiB (T i) = true) ∨ (c = 3 ∧ i < n ∧ ¬ zleB (T i) = true ∧ ¬ zdiB (T i) = true)) (hX : ∀ σ', zmk σ' T n p → zfl σ σ' → X none σ') (σ8 : zPH) (w0 : Int) (j : Nat) (hw0 : w0 = (if (c = 1 ∨ c = 2) ∧ ztM T i = true then (i : Int) else -1)) (f8 : zfl σ σ8) (g5 : σ8 58 5 = (i : Int)) (g7 : σ8 58 7 = c) (g8 : σ8 58 8 = (if c = 1 then zpkw T i (if j ≤ 8 then j else 8) else 0)) (g9 : σ8 58 9 = (if c = 2 then zpkd T i j else 0)) (g12 : σ8 58 12 = (if c = 2 ∧ 5 ≤ j ∧ w0 = -1 then (i : Int) + 4 else w0)) (hjn : i + j ≤ n) (hj1 : (c = 1 → (∀ k, i ≤ k → k < i + j → zleB (T k) = true) ∧ ¬ (i + j < n ∧ zleB (T (i + j)) = true))) (hj2 : (c = 2 → j ≤ 5 ∧ (∀ k, i ≤ k → k < i + j → zdiB (T k) = true) ∧ (j = 5 ∨ ¬ (i + j < n ∧ zdiB (T (i + j)) = true)))) (hj3 : (c ≠ 1 → c ≠ 2 → j = 0)) : b_M_looks_318 G X ((i + j : Nat) : Int) (j : Int) σ8 := by
  have c03 : 0 ≤ c ∧ c ≤ 3 := by omega
  have hK0 : c = 0 → ztK T n p = 4 := fun z => by unfold ztK; rw [hs, if_pos (by omega)]
  have hK3 : c = 3 → ztK T n p = 3 := fun z => by
    rcases hc with y | y | y | y
    · omega
    · omega
    · omega
    · unfold ztK; rw [hs, if_neg (by omega), if_neg y.2.2.1, if_neg y.2.2.2]
  have hK1 : c = 1 → ztK T n p = if ztM T i = true then 5 else if zow (zpkw T i (ztE T n p - i)) ≠ -1 then 0 else if 6 < ztE T n p - i then 5 else 1 := fun z => by
    rcases hc with y | y | y | y
    · omega
    · unfold ztK; rw [hs, if_neg (by omega), if_pos y.2.2]
    · omega
    · omega
  have hK2 : c = 2 → ztK T n p = if ztM T i = true then 5 else if 4 < ztE T n p - i then 5 else 2 := fun z => by
    rcases hc with y | y | y | y
    · omega
    · omega
    · unfold ztK; rw [hs, if_neg (by omega), if_neg y.2.2.1, if_pos y.2.2.2]
    · omega
  have hE1 : c = 1 → ztE T n p = zrE zleB T n i := fun z => by
    rcases hc with y | y | y | y
    · omega
    · unfold ztE; rw [hs, if_neg (by omega), if_pos y.2.2]
    · omega
    · omega
  have hE2 : c = 2 → ztE T n p = zrE zdiB T n i := fun z => by
    rcases hc with y | y | y | y
    · omega
    · omega
    · unfold ztE; rw [hs, if_neg (by omega), if_neg y.2.2.1, if_pos y.2.2.2]
    · omega
  have hle : c = 1 → zleB (T i) = true := fun z => by
    rcases hc with y | y | y | y
    · omega
    · exact y.2.2
    · omega
    · omega
  have hdi : c = 2 → ¬ zleB (T i) = true := fun z => by
    rcases hc with y | y | y | y
    · omega
    · omega
    · exact y.2.2.1
    · omega
  have hcn : (c = 0 → i = n) ∧ (c = 3 → i < n) := ⟨fun z => by omega, fun z => by omega⟩
  have hlet : c = 1 → ∀ k, k < j → 97 ≤ T (i + k) ∧ T (i + k) ≤ 122 := fun z k hk => zleB_t.mp ((hj1 z).1 (i + k) (by omega) (by omega))
  have hdig : c = 2 → ∀ k, k < j → 48 ≤ T (i + k) ∧ T (i + k) ≤ 57 := fun z k hk => zdiB_t.mp ((hj2 z).2.1 (i + k) (by omega) (by omega))
  have E1 : c = 1 → ztE T n p = i + j := fun z => by
    rw [hE1 z]
    exact zrE_u ⟨by omega, hjn⟩ (hj1 z).1 (fun y w => (hj1 z).2 ⟨y, w⟩)
  have E2 : c = 2 → (j < 5 → ztE T n p = i + j) ∧ (j = 5 → i + 5 ≤ ztE T n p) := fun z => by
    obtain ⟨h1, h2, h3⟩ := hj2 z
    rw [hE2 z]
    refine ⟨fun y => zrE_u ⟨by omega, hjn⟩ h2 (fun u w => h3.elim (fun v => by omega) (fun v => v ⟨u, w⟩)), fun y => ?_⟩
    obtain ⟨⟨a, b⟩, cc, d⟩ := zrE_s (P := zdiB) (T := T) (n := n) (i := i) (by omega)
    by_cases u : i + 5 ≤ zrE zdiB T n i
    · exact u
    · exact absurd (h2 _ a (by omega)) (d (by omega))
  have i8 : 0 ≤ σ8 58 8 ∧ σ8 58 8 < 9223372036854775808 := by
    rw [g8]; split
    · rename_i z
      exact zpkw_J (fun k hk => hlet z k (by split at hk <;> omega)) (by split <;> omega)
    · decide
  have i9 : 0 ≤ σ8 58 9 ∧ σ8 58 9 < 100000 := by
    rw [g9]; split
    · rename_i z
      have h5 := (hj2 z).1
      have r := zpkd_r (T := T) (s := i) (k := j) (hdig z)
      have : (10 : Int) ^ j ≤ 10 ^ 5 := by
        have := Nat.pow_le_pow_right (n := 10) (by decide) h5
        have e : ∀ m : Nat, (10 : Int) ^ m = ((10 ^ m : Nat) : Int) := fun m => by rw [Int.natCast_pow]; rfl
        rw [e, e]; omega
      rw [show (10 : Int) ^ 5 = 100000 from rfl] at this
      omega
    · decide
  have close : ∀ (σ9 : zPH) (w : Int), zfl σ σ9 → σ9 58 5 = (i : Int) → σ9 58 7 = c → σ9 58 8 = σ8 58 8 → σ9 58 9 = σ8 58 9 → σ9 58 12 = w → (ztK T n p = 5 → w = (ztF T n p : Int)) → (ztK T n p ≠ 5 → w = -1) → b_M_looks_362 G X ((i + j : Nat) : Int) σ9 := by
    intro σ9 w f9 k5 k7 k8 k9 k12 w1 w2
    have go : ∀ (σ10 : zPH) (e : Nat), σ10 = zupd σ9 58 6 (e : Int) → (ztK T n p ≠ 5 → e = ztE T n p) → X none σ10 := by
      intro σ10 e e10 he
      have kk : ∀ k, k ≠ 6 → σ10 58 k = σ9 58 k := fun k hk => by rw [e10, zupd_nk hk]
      refine hX σ10 ⟨by rw [hs, kk 5 (by decide), k5], fun z => ⟨by rw [kk 12 (by decide), k12]; exact w1 z, by rw [kk 7 (by decide), k7]; exact fun y => by have := hK0 y; omega⟩, fun z => ⟨by rw [kk 12 (by decide), k12]; exact w2 z, by rw [e10, zupd_same, he z]⟩, fun z => ?_, fun z => ?_, fun z => ?_, fun z => ?_, fun z => ?_, by rw [kk 8 (by decide), k8]; exact i8, by rw [kk 9 (by decide), k9]; exact i9, by rw [kk 7 (by decide), k7]; exact c03⟩ (f9.u e10 (by decide))
      · rw [kk 7 (by decide), k7]
        rcases hc with y | y | y | y
        · exact y.1
        · have := hK1 y.1; rw [z] at this; split at this
          · omega
          · split at this
            · omega
            · split at this <;> omega
        · have := hK2 y.1; rw [z] at this; split at this
          · omega
          · split at this <;> omega
        · have := hK3 y.1; omega
      · rw [kk 7 (by decide), k7, kk 8 (by decide), k8, g8]
        have hc1 : c = 1 := by
          rcases hc with y | y | y | y
          · have := hK0 y.1; omega
          · exact y.1
          · have := hK2 y.1; rw [z] at this; split at this
            · omega
            · split at this <;> omega
          · have := hK3 y.1; omega
        refine ⟨hc1, ?_⟩
        have h1 := hK1 hc1
        rw [z, E1 hc1, show i + j - i = j by omega] at h1
        unfold ztV
        rw [if_pos z, hs, E1 hc1, show i + j - i = j by omega, if_pos hc1]
        by_cases q8 : j ≤ 8
        · rw [if_pos q8]
        · exfalso
          split at h1
          · omega
          · split at h1
            · rename_i _ y
              have := zow_lt y
              have := zpkw_8 (hlet hc1) (by omega)
              omega
            · split at h1 <;> omega
      · rw [kk 7 (by decide), k7, kk 8 (by decide), k8, g8]
        have hc1 : c = 1 := by
          rcases hc with y | y | y | y
          · have := hK0 y.1; omega
          · exact y.1
          · have := hK2 y.1; rw [z] at this; split at this
            · omega
            · split at this <;> omega
          · have := hK3 y.1; omega
        have h1 := hK1 hc1
        rw [z, E1 hc1, show i + j - i = j by omega] at h1
        have hz : zow (zpkw T i j) = -1 ∧ j ≤ 6 := by
          split at h1
          · omega
          · split at h1
            · omega
            · rename_i _ y
              split at h1
              · omega
              · exact ⟨by omega, by omega⟩
        refine ⟨hc1, ?_⟩
        rw [if_pos hc1, if_pos (by omega)]
        refine ⟨hz.1, ?_⟩
        unfold ztV
        rw [if_neg (by omega), if_pos z, hs, E1 hc1, show i + j - i = j by omega]
        exact zWd_pk (hlet hc1)
      · rw [kk 7 (by decide), k7, kk 9 (by decide), k9, g9]
        have hc2 : c = 2 := by
          rcases hc with y | y | y | y
          · have := hK0 y.1; omega
          · have := hK1 y.1; rw [z] at this; split at this
            · omega
            · split at this
              · omega
              · split at this <;> omega
          · exact y.1
          · have := hK3 y.1; omega
        have h1 := hK2 hc2
        rw [z] at h1
        have hj5 : j < 5 := by
          have := (hj2 hc2).1
          by_cases q5 : j = 5
          · have := (E2 hc2).2 q5
            split at h1
            · omega
            · split at h1 <;> omega
          · omega
        refine ⟨hc2, ?_⟩
        unfold ztV
        rw [if_pos hc2, if_neg (by omega), if_neg (by omega), if_pos z, hs, (E2 hc2).1 hj5, show i + j - i = j by omega]
      · rw [kk 7 (by decide), k7]
        rcases hc with y | y | y | y
        · have := hK0 y.1; omega
        · have := hK1 y.1; rw [z] at this; split at this
          · omega
          · split at this
            · omega
            · split at this <;> omega
        · have := hK2 y.1; rw [z] at this; split at this
          · omega
          · split at this <;> omega
        · exact y.1
    unfold b_M_looks_362
    rw [k7]
    refine ⟨by omega, fun z σ10 e10 => go σ10 (i + j) e10 (fun y => ?_), fun z σ10 e10 => go σ10 (i + j + 1) (by rw [e10]; rfl) (fun y => ?_)⟩
    · rcases hc with u | u | u | u
      · have := hj3 (by omega) (by omega)
        unfold ztE; rw [hs, if_pos (by omega)]; omega
      · exact (E1 u.1).symm
      · have h1 := hK2 u.1
        by_cases q5 : j < 5
        · exact ((E2 u.1).1 q5).symm
        · have := (hj2 u.1).1
          have := (E2 u.1).2 (by omega)
          rw [h1] at y
          split at y
          · exact absurd rfl y
          · split at y
            · exact absurd rfl y
            · omega
      · omega
    · rcases hc with u | u | u | u
      · omega
      · omega
      · omega
      · have := hj3 (by omega) (by omega)
        unfold ztE; rw [hs, if_neg (by omega), if_neg u.2.2.1, if_neg u.2.2.2]; omega
  have hK5 : ztK T n p = 5 → c = 1 ∨ c = 2 := fun z => by
    rcases hc with u | u | u | u
    · have := hK0 u.1; omega
    · exact Or.inl u.1
    · exact Or.inr u.1
    · have := hK3 u.1; omega
  have hF : ztK T n p = 5 → (ztF T n p : Int) = if ztM T i = true then (i : Int) else if c = 1 then (i : Int) + 6 else (i : Int) + 4 := fun z => by
    unfold ztF
    rw [hs]
    by_cases m : ztM T i = true
    · rw [if_neg (fun y => y.2 m), if_pos m]
    · rw [if_pos ⟨z, m⟩, if_neg m]
      rcases hK5 z with u | u
      · rw [if_pos (hle u), if_pos u]; rfl
      · rw [if_neg (hdi u), if_neg (by omega)]; rfl
  unfold b_M_looks_318
  rw [g7]
  refine ⟨by omega, fun z => close σ8 _ f8 g5 g7 rfl rfl rfl (fun y => ?_) (fun y => ?_), fun z => ⟨by omega, fun q6 => close σ8 _ f8 g5 g7 rfl rfl rfl (fun y => ?_) (fun y => ?_), fun q6 => ?_⟩⟩
  · have hc2 : c = 2 := (hK5 y).elim (fun u => absurd u z) id
    rw [hF y, g12]
    by_cases m : ztM T i = true
    · rw [if_pos m]
      have : w0 = (i : Int) := by rw [hw0, if_pos ⟨Or.inr hc2, m⟩]
      rw [if_neg (by omega)]; exact this
    · have : w0 = -1 := by rw [hw0, if_neg (fun u => m u.2)]
      have h1 := hK2 hc2
      rw [y, if_neg m] at h1
      have hj5 : j = 5 := by
        have := (hj2 hc2).1
        by_cases u : j < 5
        · have := (E2 hc2).1 u
          split at h1 <;> omega
        · omega
      rw [if_neg m, if_neg z, if_pos ⟨hc2, by omega, this⟩]
  · rw [g12]
    by_cases hc2 : c = 2
    · have h1 := hK2 hc2
      have m : ¬ ztM T i = true := fun m => by rw [if_pos m] at h1; exact y h1
      rw [if_neg m] at h1
      have : w0 = -1 := by rw [hw0, if_neg (fun u => m u.2)]
      have hj5 : j < 5 := by
        have := (hj2 hc2).1
        by_cases u : j < 5
        · exact u
        · have := (E2 hc2).2 (by omega)
          rw [h1] at y
          split at y
          · exact absurd rfl y
          · omega
      rw [if_neg (by omega)]; exact this
    · rw [if_neg (fun u => hc2 u.1), hw0, if_neg (fun u => u.1.elim z hc2)]
  · rw [hF y, g12, if_neg (by omega), hw0]
    by_cases m : ztM T i = true
    · rw [if_pos ⟨Or.inl z, m⟩, if_pos m]
    · have h1 := hK1 z
      rw [y, if_neg m, E1 z, show i + j - i = j by omega] at h1
      split at h1
      · omega
      · split at h1 <;> omega
  · rw [g12, if_neg (by omega), hw0, if_neg]
    rintro ⟨-, m⟩
    have h1 := hK1 z
    rw [if_pos m] at h1
    exact y h1
  · have w8 : σ8 58 8 = zpkw T i (if j ≤ 8 then j else 8) := by rw [g8, if_pos z]
    have big : zow (σ8 58 8) = -1 ↔ zow (zpkw T i j) = -1 := by
      rw [w8]
      by_cases u : j ≤ 8
      · rw [if_pos u]
      · rw [if_neg u]
        have a1 := zpkw_8 (T := T) (s := i) (k := 8) (fun k hk => hlet z k (by omega)) (by omega)
        have a2 := zpkw_8 (hlet z) (by omega)
        constructor
        · intro _
          by_cases v : zow (zpkw T i j) = -1
          · exact v
          · have := zow_lt v; omega
        · intro _
          by_cases v : zow (zpkw T i 8) = -1
          · exact v
          · have := zow_lt v; omega
    have h1 := hK1 z
    rw [E1 z, show i + j - i = j by omega] at h1
    have e12 : σ8 58 12 = w0 := by rw [g12, if_neg (by omega)]
    refine s_M_isOwn (by omega) (fun v => Or.inr ⟨rfl, close σ8 _ f8 g5 g7 rfl rfl rfl (fun y => ?_) (fun y => ?_)⟩) (fun v => Or.inl ⟨rfl, ?_⟩)
    · have v' : zow (zpkw T i j) ≠ -1 := fun u => v (big.mpr u)
      rw [hF y, e12, hw0]
      by_cases m : ztM T i = true
      · rw [if_pos ⟨Or.inl z, m⟩, if_pos m]
      · rw [if_neg m, if_pos v', y] at h1; omega
    · rw [e12, hw0, if_neg]
      rintro ⟨-, m⟩
      rw [if_pos m] at h1
      exact y h1
    · have v' : zow (zpkw T i j) = -1 := big.mp v
      have k5 : ztK T n p = 5 := by
        rw [h1]; split
        · rfl
        · rw [if_neg (fun u => u v'), if_pos (by omega)]
      rw [e12]
      refine ⟨by rw [hw0]; split <;> omega, fun y => close σ8 _ f8 g5 g7 rfl rfl rfl (fun _ => ?_) (fun u => absurd k5 u), fun y σ9 e9 => close σ9 _ (f8.u e9 (by decide)) (by rw [e9, zupd_nk (by decide)]; exact g5) (by rw [e9, zupd_nk (by decide)]; exact g7) (by rw [e9, zupd_nk (by decide)]) (by rw [e9, zupd_nk (by decide)]) rfl (fun _ => ?_) (fun u => absurd k5 u)⟩
      · have m : ztM T i = true := by
          by_cases m : ztM T i = true
          · exact m
          · rw [hw0, if_neg (fun u => m u.2)] at y; exact absurd rfl y
        rw [e12, hF k5, if_pos m, hw0, if_pos ⟨Or.inl z, m⟩]
      · have m : ¬ ztM T i = true := fun m => by
          rw [hw0, if_pos ⟨Or.inl z, m⟩] at y; omega
        rw [e9, zupd_same, g5, hF k5, if_neg m, if_pos z]
theorem zlook_loop {T : Nat → Int} {n p i : Nat} {c : Int} (hx : zmX σ T n) (hp : p ≤ n) (hs : ztS T n p = i) (sb : i ≤ n) (hn : n ≤ 1600) (hc : (c = 0 ∧ ¬ i < n) ∨ (c = 1 ∧ i < n ∧ zleB (T i) = true) ∨ (c = 2 ∧ i < n ∧ ¬ zleB (T i) = true ∧ zdiB (T i) = true) ∨ (c = 3 ∧ i < n ∧ ¬ zleB (T i) = true ∧ ¬ zdiB (T i) = true)) (hX : ∀ σ', zmk σ' T n p → zfl σ σ' → X none σ') (σ7 : zPH) (w0 : Int) (hw0 : w0 = (if (c = 1 ∨ c = 2) ∧ ztM T i = true then (i : Int) else -1)) (f7 : zfl σ σ7) (g5 : σ7 58 5 = (i : Int)) (g7 : σ7 58 7 = c) (g8 : σ7 58 8 = 0) (g9 : σ7 58 9 = 0) (g12 : σ7 58 12 = w0) : b_M_looks_170 G X (i : Int) σ7 := by
  refine zLP2_ind (fun x1 x4 σ8 => ∃ j : Nat, x1 = ((i + j : Nat) : Int) ∧ x4 = (j : Int) ∧ zfl σ σ8 ∧ σ8 58 5 = (i : Int) ∧ σ8 58 7 = c ∧ σ8 58 8 = (if c = 1 then zpkw T i (if j ≤ 8 then j else 8) else 0) ∧ σ8 58 9 = (if c = 2 then zpkd T i j else 0) ∧ σ8 58 12 = (if c = 2 ∧ 5 ≤ j ∧ w0 = -1 then (i : Int) + 4 else w0) ∧ i + j ≤ n ∧ (c = 1 → ∀ k, i ≤ k → k < i + j → zleB (T k) = true) ∧ (c = 2 → j ≤ 5 ∧ ∀ k, i ≤ k → k < i + j → zdiB (T k) = true) ∧ (c ≠ 1 → c ≠ 2 → j = 0)) (fun x1 _ _ => (n - x1).toNat) ?_ ⟨0, rfl, rfl, f7, g5, g7, ?_, ?_, ?_, sb, fun _ k h1 h2 => by omega, fun _ => ⟨by decide, fun k h1 h2 => by omega⟩, fun _ _ => rfl⟩
  rotate_left
  · rw [g8]; split <;> rfl
  · rw [g9]; split <;> rfl
  · rw [g12, if_neg (by omega)]
  rintro K z1 z4 σ8 ⟨j, rfl, rfl, f8, k5, k7, k8, k9, k12, hjn, hj1, hj2, hj3⟩ hK
  have x8 : zmX σ8 T n := hx.to (f8.1 59 (by decide)) (f8.2 4 (by decide) (by decide) (by decide) (by decide) (by decide) (by decide)) (f8.2 11 (by decide) (by decide) (by decide) (by decide) (by decide) (by decide))
  have bj := zba_r x8 ((i + j : Nat) : Int)
  have hw0r : -1 ≤ w0 ∧ w0 ≤ 1600 := by rw [hw0]; split <;> omega
  unfold b_M_looks_173 b_M_looks_192
  rw [k7]
  have ex := zlook_tail (G := G) hx hp hs sb hn hc hX σ8 w0 j hw0 f8 k5 k7 k8 k9 k12 hjn
  refine ⟨by omega, fun h1 => ⟨by omega, fun h2 => ex (fun u => absurd u h1) (fun u => absurd u h2) hj3, fun h2 => ?_⟩, fun h1 => ?_⟩
  · -- digits
    obtain ⟨h5, hd⟩ := hj2 h2
    refine s_M_byteAt x8 (by omega) ⟨_, rfl, s_M_isDigit (by omega) (fun q5 => Or.inr ⟨rfl, by omega, fun y => ex (fun u => absurd u h1) (fun _ => ⟨h5, hd, Or.inl (by omega)⟩) hj3, fun y => ?_⟩) (fun q5 => Or.inl ⟨rfl, ex (fun u => absurd u h1) (fun _ => ⟨h5, hd, Or.inr (fun u => q5 (by rw [zba_n u.1]; exact u.2))⟩) hj3⟩)⟩
    have hin' : i + j < n := by
      by_cases u : i + j < n
      · exact u
      · rw [zba_e u] at q5; exact absurd q5 (by decide)
    rw [zba_n hin'] at q5
    have bb := zdiB_t.mp q5
    have pdr := zpkd_r (T := T) (s := i) (k := j) (fun k hk => zdiB_t.mp (hd (i + k) (by omega) (by omega)))
    -- the step behind the fault's place
    have step : ∀ σ9 : zPH, zfl σ σ9 → σ9 58 5 = (i : Int) → σ9 58 7 = 2 → σ9 58 8 = 0 → σ9 58 9 = zpkd T i j → σ9 58 12 = (if 5 ≤ j + 1 ∧ w0 = -1 then (i : Int) + 4 else w0) → b_M_looks_244 G X K ((i + j : Nat) : Int) (j : Int) σ9 := by
      intro σ9 f9 m5 m7 m8 m9 m12
      have x9 : zmX σ9 T n := hx.to (f9.1 59 (by decide)) (f9.2 4 (by decide) (by decide) (by decide) (by decide) (by decide) (by decide)) (f9.2 11 (by decide) (by decide) (by decide) (by decide) (by decide) (by decide))
      unfold b_M_looks_244 b_M_looks_277
      rw [m7]
      refine ⟨by decide, fun _ => ⟨by decide, fun u => absurd rfl u, fun _ => s_M_byteAt x9 (by omega) ⟨_, rfl, ?_⟩⟩, fun u => absurd u (by decide)⟩
      rw [zba_n hin', m9]
      rintro σ10 e10
      refine hK _ _ _ ⟨j + 1, by omega, by omega, f9.u e10 (by decide), by rw [e10, zupd_nk (by decide)]; exact m5, by rw [e10, zupd_nk (by decide), m7, h2], by rw [e10, zupd_nk (by decide), m8, if_neg h1], by rw [e10, zupd_same, if_pos h2]; simp only [zpkd]; omega, ?_, by omega, fun u => absurd u h1, fun _ => ⟨by omega, fun k u1 u2 => ?_⟩, fun u1 u2 => absurd h2 u2⟩ (by omega)
      · rw [e10, zupd_nk (by decide), m12]
        by_cases u : 5 ≤ j + 1 ∧ w0 = -1
        · rw [if_pos u, if_pos ⟨h2, u.1, u.2⟩]
        · rw [if_neg u, if_neg (fun v => u v.2)]
      · rcases (show k < i + j ∨ k = i + j by omega) with v | rfl
        · exact hd k u1 v
        · exact q5
    have w12 : σ8 58 12 = w0 := by rw [k12, if_neg (by omega)]
    rw [if_pos h2] at k9
    rw [if_neg h1] at k8
    unfold b_M_looks_217
    rw [k7]
    refine ⟨by omega, fun u => absurd h2 u, fun _ => ⟨by omega, fun u => step σ8 f8 k5 (by rw [k7, h2]) k8 k9 (by rw [w12, if_neg (by omega)]), fun u => ⟨by omega, fun v => step σ8 f8 k5 (by rw [k7, h2]) k8 k9 (by rw [w12, if_neg (by omega)]), fun v σ9 e9 => step σ9 (f8.u e9 (by decide)) (by rw [e9, zupd_nk (by decide)]; exact k5) (by rw [e9, zupd_nk (by decide), k7, h2]) (by rw [e9, zupd_nk (by decide)]; exact k8) (by rw [e9, zupd_nk (by decide)]; exact k9) (by rw [e9, zupd_same, if_pos (by omega)]; omega)⟩⟩⟩
  · -- letters
    refine s_M_byteAt x8 (by omega) ⟨_, rfl, s_M_isLetter (by omega) (fun q5 => Or.inr ⟨rfl, ?_⟩) (fun q5 => Or.inl ⟨rfl, by omega, fun _ => ex (fun _ => ⟨hj1 h1, fun u => q5 (by rw [zba_n u.1]; exact u.2)⟩) (fun u => by omega) hj3, fun u => by omega⟩)⟩
    have hin' : i + j < n := by
      by_cases u : i + j < n
      · exact u
      · rw [zba_e u] at q5; exact absurd q5 (by decide)
    rw [zba_n hin'] at q5
    have bb := zleB_t.mp q5
    have hl := hj1 h1
    rw [if_pos h1] at k8
    rw [if_neg (by omega)] at k9
    have w12 : σ8 58 12 = w0 := by rw [k12, if_neg (by omega)]
    have step : ∀ σ9 : zPH, zfl σ σ9 → σ9 58 5 = (i : Int) → σ9 58 7 = 1 → σ9 58 8 = zpkw T i (if j + 1 ≤ 8 then j + 1 else 8) → σ9 58 12 = w0 → b_M_looks_277 G X K ((i + j : Nat) : Int) (j : Int) σ9 := by
      intro σ9 f9 m5 m7 m8 m12
      unfold b_M_looks_277
      rw [m7]
      refine ⟨by decide, fun _ => ?_, fun u => absurd u (by decide)⟩
      rintro σ10 e10
      refine hK _ _ _ ⟨j + 1, by omega, by omega, f9.u e10 (by decide), by rw [e10, zupd_nk (by decide)]; exact m5, by rw [e10, zupd_nk (by decide), m7, h1], by rw [e10, zupd_nk (by decide), m8, if_pos h1], by rw [e10, zupd_same, if_neg (by omega)], by rw [e10, zupd_nk (by decide), m12, if_neg (by omega)], by omega, fun _ k u1 u2 => ?_, fun u => by omega, fun u1 u2 => absurd h1 u1⟩ (by omega)
      rcases (show k < i + j ∨ k = i + j by omega) with v | rfl
      · exact hl k u1 v
      · exact q5
    unfold b_M_looks_217 b_M_looks_244
    rw [k7]
    have pw := zpkw_r (T := T) (s := i) (k := if j ≤ 8 then j else 8) (fun k hk => zleB_t.mp (hl (i + k) (by omega) (by split at hk <;> omega)))
    refine ⟨by omega, fun _ => ⟨by omega, fun u => absurd h1 u, fun _ => ⟨by omega, fun u => step σ8 f8 k5 (by rw [k7, h1]) ?_ w12, fun u => s_M_byteAt x8 (by omega) ⟨_, rfl, ?_⟩⟩⟩, fun u => by omega⟩
    · rw [k8, if_neg (show ¬ j + 1 ≤ 8 by omega)]
      by_cases v : j ≤ 8
      · rw [if_pos v, show j = 8 by omega]
      · rw [if_neg v]
    · rw [zba_n hin', k8, if_pos (show j ≤ 8 by omega)]
      rw [if_pos (show j ≤ 8 by omega)] at pw
      refine ⟨by omega, ⟨by omega, by omega⟩, ?_⟩
      rintro σ9 e9
      refine step σ9 (f8.u e9 (by decide)) (by rw [e9, zupd_nk (by decide)]; exact k5) (by rw [e9, zupd_nk (by decide), k7, h1]) ?_ (by rw [e9, zupd_nk (by decide)]; exact w12)
      rw [e9, zupd_same, zor_256 pw.1 (by omega), if_pos (by omega)]
      rfl
theorem s_M_looks {T : Nat → Int} {n p : Nat} (hx : zmX σ T n) (h10 : σ 58 10 = 0) (hp : p ≤ n) (h6 : σ 58 6 = (p : Int)) (hX : ∀ σ', zmk σ' T n p → zfl σ σ' → X none σ') : MS G zm_M_looks 1 [zr G 58] σ X := by
  obtain ⟨⟨sa, sb⟩, sc, sd⟩ := ztS_s (T := T) hp
  obtain ⟨ea, eb, ec⟩ := ztE_s (T := T) hp
  have hM := ztM_iff (T := T) hp
  have hn := hx.2.2.1
  generalize hs : ztS T n p = s at *
  refine k_M_looks ?_
  rintro σ1 e1
  have f1 : zfl σ σ1 := zfl.rf.u e1 (by decide)
  have x1 : zmX σ1 T n := hx.to (f1.1 59 (by decide)) (f1.2 4 (by decide) (by decide) (by decide) (by decide) (by decide) (by decide)) (f1.2 11 (by decide) (by decide) (by decide) (by decide) (by decide) (by decide))
  rw [f1.2 10 (by decide) (by decide) (by decide) (by decide) (by decide) (by decide), h10]
  refine ⟨by decide, fun _ => ?_, fun z => by omega⟩
  rintro y1 ey1
  have g6 : σ1 58 6 = (p : Int) := by rw [e1, zupd_nk (by decide)]; exact h6
  have g12 : σ1 58 12 = -1 := by rw [e1, zupd_same]
  rw [g6] at ey1
  subst ey1
  -- beside
  have main : ∀ bs : Int, (bs = 0 ∨ bs = 1) → (bs = 1 ↔ 0 < p ∧ (zleB (T (p - 1)) = true ∨ zdiB (T (p - 1)) = true)) → b_M_looks_53 G X (p : Int) bs σ1 := by
    intro bs hbs hbi
    refine zLP2_ind (fun x1 x2 σ2 => σ2 = σ1 ∧ x2 = bs ∧ ∃ i : Nat, x1 = (i : Int) ∧ p ≤ i ∧ i ≤ s) (fun x1 _ _ => (s - x1).toNat) ?_ ⟨rfl, rfl, p, rfl, Nat.le_refl p, sa⟩
    rintro K y1 y2 σ2 ⟨hσ, rfl, i, rfl, hi1, hi2⟩ hK
    rw [hσ]
    have br := zba_r x1 (i : Int)
    refine s_M_byteAt x1 (by omega) ⟨_, rfl, by omega, fun q => ?_, fun q => s_M_byteAt x1 (by omega) ⟨_, rfl, by omega, fun q2 => ?_, fun q2 => ?_⟩⟩
    · have hlt : i < s := by
        rcases (show i < s ∨ i = s by omega) with z | rfl
        · exact z
        · by_cases z : i < n
          · rw [zba_n z] at q; exact absurd (Or.inl q) (sd z)
          · rw [zba_e z] at q; omega
      exact hK _ _ _ ⟨rfl, rfl, i + 1, by omega, by omega, by omega⟩ (by omega)
    · clear hK
      have his : i = s := by
        rcases (show i < s ∨ i = s by omega) with z | rfl
        · have := sc i hi1 z
          rw [zba_n (by omega)] at q q2
          omega
        · rfl
      subst his
      rintro σ3 e3
      have f3 : zfl σ σ3 := f1.u e3 (by decide)
      have x3 : zmX σ3 T n := x1.to (by rw [e3, zupd_row (by decide)]) (by rw [e3, zupd_nk (by decide)]) (by rw [e3, zupd_nk (by decide)])
      have a5 : σ3 58 5 = (i : Int) := by rw [e3, zupd_same]
      have a6 : σ3 58 6 = (p : Int) := by rw [e3, zupd_nk (by decide)]; exact g6
      have a12 : σ3 58 12 = -1 := by rw [e3, zupd_nk (by decide)]; exact g12
      -- the sort of the token
      have fin : ∀ c : Int, (c = 0 ∧ ¬ i < n) ∨ (c = 1 ∧ i < n ∧ zleB (T i) = true) ∨ (c = 2 ∧ i < n ∧ ¬ zleB (T i) = true ∧ zdiB (T i) = true) ∨ (c = 3 ∧ i < n ∧ ¬ zleB (T i) = true ∧ ¬ zdiB (T i) = true) → b_M_looks_124 G X (i : Int) y2 c σ3 := by
        intro c hc
        have loop := zlook_loop (G := G) hx hp hs sb hn hc hX
        rintro σ4 e4 σ5 e5 σ6 e6
        have f6 : zfl σ σ6 := ((f3.u e4 (by decide)).u e5 (by decide)).u e6 (by decide)
        have k5 : σ6 58 5 = (i : Int) := by rw [e6, zupd_nk (by decide), e5, zupd_nk (by decide), e4, zupd_nk (by decide)]; exact a5
        have k6 : σ6 58 6 = (p : Int) := by rw [e6, zupd_nk (by decide), e5, zupd_nk (by decide), e4, zupd_nk (by decide)]; exact a6
        have k7 : σ6 58 7 = c := by rw [e6, zupd_nk (by decide), e5, zupd_nk (by decide), e4, zupd_same]
        have k8 : σ6 58 8 = 0 := by rw [e6, zupd_nk (by decide), e5, zupd_same]
        have k9 : σ6 58 9 = 0 := by rw [e6, zupd_same]
        have k12 : σ6 58 12 = -1 := by rw [e6, zupd_nk (by decide), e5, zupd_nk (by decide), e4, zupd_nk (by decide)]; exact a12
        have bes : (c = 1 ∨ c = 2) → b_M_looks_153 G X (i : Int) y2 σ6 := fun hcc => by
          unfold b_M_looks_153
          rw [k6]
          refine ⟨by omega, fun z => loop σ6 (-1) (by rw [if_neg (fun u => by have := hbi.mpr (hM.mp u.2).2; omega)]) f6 k5 k7 k8 k9 k12, fun z => ⟨by omega, fun z2 => loop σ6 (-1) (by rw [if_neg (fun u => by have := (hM.mp u.2).1; omega)]) f6 k5 k7 k8 k9 k12, fun z2 σ7 e7 => loop σ7 (i : Int) (by rw [if_pos ⟨hcc, hM.mpr ⟨by omega, hbi.mp (by omega)⟩⟩]) (f6.u e7 (by decide)) (by rw [e7, zupd_nk (by decide)]; exact k5) (by rw [e7, zupd_nk (by decide)]; exact k7) (by rw [e7, zupd_nk (by decide)]; exact k8) (by rw [e7, zupd_nk (by decide)]; exact k9) (by rw [e7, zupd_same])⟩⟩
        rw [k7]
        refine ⟨by omega, fun z => bes (Or.inl z), fun z => ⟨by omega, fun z2 => loop σ6 (-1) (by rw [if_neg (fun u => u.1.elim z z2)]) f6 k5 k7 k8 k9 k12, fun z2 => bes (Or.inr z2)⟩⟩
      refine s_M_byteAt x3 (by omega) ⟨_, rfl, by omega, fun z => ?_, fun z => fin 0 (Or.inl ⟨rfl, fun y => by rw [zba_n y] at z; have := hx.2.2.2 i; omega⟩)⟩
      have hin : i < n := by
        by_cases y : i < n
        · exact y
        · rw [zba_e y] at z; exact absurd rfl z
      rw [zba_n hin] at br ⊢
      refine s_M_isLetter (by omega) (fun q3 => Or.inr ⟨rfl, fin 1 (Or.inr (Or.inl ⟨rfl, hin, q3⟩))⟩) (fun q3 => Or.inl ⟨rfl, s_M_isDigit (by omega) (fun q4 => Or.inr ⟨rfl, fin 2 (Or.inr (Or.inr (Or.inl ⟨rfl, hin, q3, q4⟩)))⟩) (fun q4 => Or.inl ⟨rfl, fin 3 (Or.inr (Or.inr (Or.inr ⟨rfl, hin, q3, q4⟩)))⟩)⟩)
    · have hlt : i < s := by
        rcases (show i < s ∨ i = s by omega) with z | rfl
        · exact z
        · by_cases z : i < n
          · rw [zba_n z] at q2; exact absurd (Or.inr q2) (sd z)
          · rw [zba_e z] at q2; omega
      exact hK _ _ _ ⟨rfl, rfl, i + 1, by omega, by omega, by omega⟩ (by omega)
  refine ⟨by omega, fun z => main 0 (Or.inl rfl) ⟨fun y => by omega, fun y => by omega⟩, fun z => ?_⟩
  have br := zba_r x1 ((p : Int) - 1)
  have bp : zba T n ((p : Int) - 1) = T (p - 1) := by rw [show (p : Int) - 1 = ((p - 1 : Nat) : Int) by omega]; exact zba_n (by omega)
  refine s_M_byteAt x1 (by omega) ⟨_, rfl, s_M_isLetter (by omega) (fun q => Or.inr ⟨rfl, main 1 (Or.inr rfl) ⟨fun _ => ⟨by omega, Or.inl (by rw [← bp]; exact q)⟩, fun _ => rfl⟩⟩) (fun q => Or.inl ⟨rfl, s_M_byteAt x1 (by omega) ⟨_, rfl, s_M_isDigit (by omega) (fun q2 => Or.inr ⟨rfl, main 1 (Or.inr rfl) ⟨fun _ => ⟨by omega, Or.inr (by rw [← bp]; exact q2)⟩, fun _ => rfl⟩⟩) (fun q2 => Or.inl ⟨rfl, main 0 (Or.inl rfl) ⟨fun y => by omega, fun y => ?_⟩⟩)⟩⟩)⟩
  rw [bp] at q q2
  exact absurd y.2 (fun w => w.elim q q2)
end MLL
