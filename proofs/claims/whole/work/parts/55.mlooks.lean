section MLL
variable {G : zG} {σ V D : zPH} {X : zX}
theorem ztM_iff {T : Nat → Int} {n p : Nat} (hp : p ≤ n) : ztM T (ztS T n p) = true ↔ ztS T n p = p ∧ 0 < p ∧ (zleB (T (p - 1)) = true ∨ zdiB (T (p - 1)) = true) := by
  obtain ⟨⟨a, b⟩, c, d⟩ := ztS_s (T := T) hp
  have he : ztM T (ztS T n p) = true ↔ 0 < ztS T n p ∧ (zleB (T (ztS T n p - 1)) = true ∨ zdiB (T (ztS T n p - 1)) = true) := by simp [ztM]
  rw [he]
  constructor
  · rintro ⟨h1, h2⟩
    by_cases q : ztS T n p = p
    · rw [q] at h1 h2; exact ⟨q, h1, h2⟩
    · have := c (ztS T n p - 1) (by omega) (by omega)
      rw [zleB_t, zdiB_t] at h2; omega
  · rintro ⟨h1, h2, h3⟩
    rw [h1]; exact ⟨h2, h3⟩
theorem s_M_looks {T : Nat → Int} {n p : Nat} (hx : zmX σ T n) (h10 : σ 58 10 = 0) (hp : p ≤ n) (h6 : σ 58 6 = (p : Int)) (hX : ∀ σ', zmk σ' T n p → zfl σ σ' → X none σ') : MS G zm_M_looks 1 [zr G 58] σ X := by
  obtain ⟨⟨sa, sb⟩, sc, sd⟩ := ztS_s (T := T) hp
  obtain ⟨ea, eb, ec⟩ := ztE_s (T := T) hp
  have hM := ztM_iff (T := T) hp
  have hn := hx.2.2.1
  generalize hs : ztS T n p = s at *
  refine k_M_looks ?_
  rintro σ1 e1
  have f1 : zfl σ σ1 := zfl.rf.u e1 (by decide)
  have x1 : zmX σ1 T n := hx.to (f1.1 59 (by decide)) (f1.2 4 (by decide) (by decide) (by decide) (by decide) (by decide) (by decide))
  rw [f1.2 10 (by decide) (by decide) (by decide) (by decide) (by decide) (by decide), h10]
  refine ⟨by decide, fun _ => ?_, fun z => by omega⟩
  rintro y1 ey1
  have g6 : σ1 58 6 = (p : Int) := by rw [e1, zupd_nk (by decide)]; exact h6
  have g12 : σ1 58 12 = -1 := by rw [e1, zupd_same]
  rw [g6] at ey1
  subst ey1
  -- beside
  have main : ∀ bs : Int, (bs = 0 ∨ bs = 1) → (bs = 1 ↔ 0 < p ∧ (zleB (T (p - 1)) = true ∨ zdiB (T (p - 1)) = true)) → b_M_looks_53 G X (p : Int) bs σ1 := by
    intro bs hbs hbi
    refine zLP2_ind (fun x1 x2 σ2 => σ2 = σ1 ∧ x2 = bs ∧ ∃ i : Nat, x1 = (i : Int) ∧ p ≤ i ∧ i ≤ s) (fun x1 _ _ => (s - x1).toNat) ?_ ⟨rfl, rfl, p, rfl, Nat.le_refl p, sa⟩
    rintro K y1 y2 σ2 ⟨hσ, rfl, i, rfl, hi1, hi2⟩ hK
    rw [hσ]
    have br := zba_r x1 (i : Int)
    refine s_M_byteAt x1 (by omega) ⟨_, rfl, by omega, fun q => ?_, fun q => s_M_byteAt x1 (by omega) ⟨_, rfl, by omega, fun q2 => ?_, fun q2 => ?_⟩⟩
    · have hlt : i < s := by
        rcases (show i < s ∨ i = s by omega) with z | rfl
        · exact z
        · by_cases z : i < n
          · rw [zba_n z] at q; exact absurd (Or.inl q) (sd z)
          · rw [zba_e z] at q; omega
      exact hK _ _ _ ⟨rfl, rfl, i + 1, by omega, by omega, by omega⟩ (by omega)
    · clear hK
      have his : i = s := by
        rcases (show i < s ∨ i = s by omega) with z | rfl
        · have := sc i hi1 z
          rw [zba_n (by omega)] at q q2
          omega
        · rfl
      subst his
      rintro σ3 e3
      have f3 : zfl σ σ3 := f1.u e3 (by decide)
      have x3 : zmX σ3 T n := x1.to (by rw [e3, zupd_row (by decide)]) (by rw [e3, zupd_nk (by decide)])
      have a5 : σ3 58 5 = (i : Int) := by rw [e3, zupd_same]
      have a6 : σ3 58 6 = (p : Int) := by rw [e3, zupd_nk (by decide)]; exact g6
      have a12 : σ3 58 12 = -1 := by rw [e3, zupd_nk (by decide)]; exact g12
      -- the sort of the token
      have fin : ∀ c : Int, (c = 0 ∧ ¬ i < n) ∨ (c = 1 ∧ i < n ∧ zleB (T i) = true) ∨ (c = 2 ∧ i < n ∧ ¬ zleB (T i) = true ∧ zdiB (T i) = true) ∨ (c = 3 ∧ i < n ∧ ¬ zleB (T i) = true ∧ ¬ zdiB (T i) = true) → b_M_looks_124 G X (i : Int) y2 c σ3 := by
        intro c hc
        have c03 : 0 ≤ c ∧ c ≤ 3 := by omega
        have hK0 : c = 0 → ztK T n p = 4 := fun z => by unfold ztK; rw [hs, if_pos (by omega)]
        have hK3 : c = 3 → ztK T n p = 3 := fun z => by
          rcases hc with y | y | y | y
          · omega
          · omega
          · omega
          · unfold ztK; rw [hs, if_neg (by omega), if_neg y.2.2.1, if_neg y.2.2.2]
        have hK1 : c = 1 → ztK T n p = if ztM T i = true then 5 else if zow (zpkw T i (ztE T n p - i)) ≠ -1 then 0 else if 6 < ztE T n p - i then 5 else 1 := fun z => by
          rcases hc with y | y | y | y
          · omega
          · unfold ztK; rw [hs, if_neg (by omega), if_pos y.2.2]
          · omega
          · omega
        have hK2 : c = 2 → ztK T n p = if ztM T i = true then 5 else if 4 < ztE T n p - i then 5 else 2 := fun z => by
          rcases hc with y | y | y | y
          · omega
          · omega
          · unfold ztK; rw [hs, if_neg (by omega), if_neg y.2.2.1, if_pos y.2.2.2]
          · omega
        have hE1 : c = 1 → ztE T n p = zrE zleB T n i := fun z => by
          rcases hc with y | y | y | y
          · omega
          · unfold ztE; rw [hs, if_neg (by omega), if_pos y.2.2]
          · omega
          · omega
        have hE2 : c = 2 → ztE T n p = zrE zdiB T n i := fun z => by
          rcases hc with y | y | y | y
          · omega
          · omega
          · unfold ztE; rw [hs, if_neg (by omega), if_neg y.2.2.1, if_pos y.2.2.2]
          · omega
        have hle : c = 1 → zleB (T i) = true := fun z => by
          rcases hc with y | y | y | y
          · omega
          · exact y.2.2
          · omega
          · omega
        have hdi : c = 2 → ¬ zleB (T i) = true := fun z => by
          rcases hc with y | y | y | y
          · omega
          · omega
          · exact y.2.2.1
          · omega
        have hcn : (c = 0 → i = n) ∧ (c = 3 → i < n) := ⟨fun z => by omega, fun z => by omega⟩
        have tail : ∀ (σ8 : zPH) (w0 : Int) (j : Nat), w0 = (if (c = 1 ∨ c = 2) ∧ ztM T i = true then (i : Int) else -1) → zfl σ σ8 → σ8 58 5 = (i : Int) → σ8 58 7 = c → σ8 58 8 = (if c = 1 then zpkw T i (if j ≤ 8 then j else 8) else 0) → σ8 58 9 = (if c = 2 then zpkd T i j else 0) → σ8 58 12 = (if c = 2 ∧ 5 ≤ j ∧ w0 = -1 then (i : Int) + 4 else w0) → i + j ≤ n → (c = 1 → (∀ k, i ≤ k → k < i + j → zleB (T k) = true) ∧ ¬ (i + j < n ∧ zleB (T (i + j)) = true)) → (c = 2 → j ≤ 5 ∧ (∀ k, i ≤ k → k < i + j → zdiB (T k) = true) ∧ (j = 5 ∨ ¬ (i + j < n ∧ zdiB (T (i + j)) = true))) → (c ≠ 1 → c ≠ 2 → j = 0) → b_M_looks_318 G X ((i + j : Nat) : Int) (j : Int) σ8 := by
          intro σ8 w0 j hw0 f8 g5 g7 g8 g9 g12 hjn hj1 hj2 hj3
          sorry
        sorry
      refine s_M_byteAt x3 (by omega) ⟨_, rfl, by omega, fun z => ?_, fun z => fin 0 (Or.inl ⟨rfl, fun y => by rw [zba_n y] at z; have := hx.2.2.2 i; omega⟩)⟩
      have hin : i < n := by
        by_cases y : i < n
        · exact y
        · rw [zba_e y] at z; exact absurd rfl z
      rw [zba_n hin] at br ⊢
      refine s_M_isLetter (by omega) (fun q3 => Or.inr ⟨rfl, fin 1 (Or.inr (Or.inl ⟨rfl, hin, q3⟩))⟩) (fun q3 => Or.inl ⟨rfl, s_M_isDigit (by omega) (fun q4 => Or.inr ⟨rfl, fin 2 (Or.inr (Or.inr (Or.inl ⟨rfl, hin, q3, q4⟩)))⟩) (fun q4 => Or.inl ⟨rfl, fin 3 (Or.inr (Or.inr (Or.inr ⟨rfl, hin, q3, q4⟩)))⟩)⟩)
    · have hlt : i < s := by
        rcases (show i < s ∨ i = s by omega) with z | rfl
        · exact z
        · by_cases z : i < n
          · rw [zba_n z] at q2; exact absurd (Or.inr q2) (sd z)
          · rw [zba_e z] at q2; omega
      exact hK _ _ _ ⟨rfl, rfl, i + 1, by omega, by omega, by omega⟩ (by omega)
  refine ⟨by omega, fun z => main 0 (Or.inl rfl) ⟨fun y => by omega, fun y => by omega⟩, fun z => ?_⟩
  have br := zba_r x1 ((p : Int) - 1)
  have bp : zba T n ((p : Int) - 1) = T (p - 1) := by rw [show (p : Int) - 1 = ((p - 1 : Nat) : Int) by omega]; exact zba_n (by omega)
  refine s_M_byteAt x1 (by omega) ⟨_, rfl, s_M_isLetter (by omega) (fun q => Or.inr ⟨rfl, main 1 (Or.inr rfl) ⟨fun _ => ⟨by omega, Or.inl (by rw [← bp]; exact q)⟩, fun _ => rfl⟩⟩) (fun q => Or.inl ⟨rfl, s_M_byteAt x1 (by omega) ⟨_, rfl, s_M_isDigit (by omega) (fun q2 => Or.inr ⟨rfl, main 1 (Or.inr rfl) ⟨fun _ => ⟨by omega, Or.inr (by rw [← bp]; exact q2)⟩, fun _ => rfl⟩⟩) (fun q2 => Or.inl ⟨rfl, main 0 (Or.inl rfl) ⟨fun y => by omega, fun y => ?_⟩⟩)⟩⟩)⟩
  rw [bp] at q q2
  exact absurd y.2 (fun w => w.elim q q2)
end MLL
