theorem ysn_le {W : zPH} : ∀ {M m : Nat}, m ≤ M → ysn W m ≤ ysn W M := by
  intro M
  induction M with
  | zero => intro m h; have : m = 0 := by omega
            subst this; exact Nat.le_refl _
  | succ M ih =>
    intro m h
    by_cases y : m = M + 1
    · rw [y]; exact Nat.le_refl _
    · have := ih (m := m) (by omega)
      rw [ysn_s]; omega
/-- the next sees -/
theorem ysn_next {W : zPH} {m : Nat} : ∀ M, m ≤ M → ysn W m < ysn W M → ∃ k, (m ≤ k ∧ k < M) ∧ W 9 k = 1 ∧ ysn W k = ysn W m ∧ ∀ j, m ≤ j → j < k → W 9 j ≠ 1 := by
  intro M
  induction M with
  | zero => intro h hl; have : m = 0 := by omega
            subst this; omega
  | succ M ih =>
    intro h hl
    by_cases y : ysn W m < ysn W M
    · have hm : m ≤ M := by
        by_cases z : m = M + 1
        · rw [z] at y; have := ysn_le (W := W) (show M ≤ M + 1 by omega); omega
        · omega
      obtain ⟨k, a, b, c, d⟩ := ih hm y
      exact ⟨k, by omega, b, c, d⟩
    · have hm : m ≤ M := by
        by_cases z : m = M + 1
        · rw [z] at hl; omega
        · omega
      have he := ysn_le (W := W) hm
      rw [ysn_s] at hl
      have h9 : W 9 M = 1 := by
        by_cases z : W 9 M = 1
        · exact z
        · rw [if_neg z] at hl; omega
      refine ⟨M, by omega, h9, by omega, fun j j1 j2 z => ?_⟩
      have h1 := ysn_le (W := W) j1
      have h2 := ysn_le (W := W) (show j + 1 ≤ M from j2)
      rw [ysn_s, if_pos z] at h2
      omega
theorem yEyes_skip {W : zPH} {m : Nat} : ∀ M, m ≤ M → (∀ j, m ≤ j → j < M → W 9 j ≠ 1) → ∀ Wm, yEyes W m = .inl Wm → yEyes W M = .inl Wm := by
  intro M
  induction M with
  | zero => intro h _ Wm e; have : m = 0 := by omega
            subst this; exact e
  | succ M ih =>
    intro h hno Wm e
    by_cases y : m = M + 1
    · rw [← y]; exact e
    · have e' := ih (by omega) (fun j a b => hno j a (by omega)) Wm e
      unfold yEyes; rw [e']
      dsimp only
      rw [if_pos (hno M (by omega) (by omega))]
theorem yEyes_k {W : zPH} : ∀ (m : Nat) (W' : zPH), yEyes W m = .inl W' → ∀ k, m ≤ k → W' 11 k = W 11 k := by
  intro m
  induction m with
  | zero => intro W' e k _; simp only [yEyes, Sum.inl.injEq] at e; rw [← e]
  | succ m ih =>
    intro W' e k hk
    unfold yEyes at e
    cases hr : yEyes W m with
    | inr x => rw [hr] at e; exact nomatch e
    | inl W1 =>
      rw [hr] at e
      have h1 := ih W1 hr k (by omega)
      dsimp only at e
      split at e
      · simp only [Sum.inl.injEq] at e; rw [← e]; exact h1
      split at e
      · exact nomatch e
      simp only [Sum.inl.injEq] at e
      rw [← e, zupd_nk (by omega)]; exact h1
theorem zor_code : ∀ (c e : Fin 8), zor (1664 + (c.val : Int)) (1664 + 8 * (e.val : Int)) = 1664 + 8 * (e.val : Int) + (c.val : Int) ∧ zor (zor 1664 ((e.val : Int) * 8)) 0 = 1664 + 8 * (e.val : Int) := by decide
section RE
variable {G : zG} {σ : zPH} {X : zX} {T : Nat → Int} {n u : Nat}
theorem s_R_findSeenEyes' (hu : zisT u) {k pl : Int} (h : yRf σ T n u k pl) (hX : X none σ) : MS G zm_R_findSeenEyes 1 [zr G 4] σ X := by
  have e10 := h.2.1
  have e11 := h.2.2.2
  have h8 := h.1.2.2.2.1
  refine k_R_findSeenEyes hu ?_
  refine zLP1_ind (fun x s => x = 0 ∧ s = σ) (fun _ _ => 0) ?_ ⟨rfl, rfl⟩
  rintro K x s ⟨rfl, rfl⟩ -
  exact ⟨⟨by decide, by omega⟩, fun _ => hX, fun _ => ⟨by omega, fun _ => hX, fun y => by omega⟩⟩
theorem s_R_findSeenEyes (hu : zisT u) {W : zPH} {p : Nat} (h : yRn σ T n u yRq W p) (ho : yOk W) (h3 : 3 * W 0 7 ≤ 1600)
  (h1 : ∀ σ' W', yEyes W (W 0 7).toNat = .inl W' → (∀ k : Nat, (k : Int) < W 0 7 → σ' (u + 11) k = zpt W' k) → (∀ q, q ≠ u + 11 → σ' q = σ q) → X none σ')
  (h0 : ∀ σ' k pl, yEyes W (W 0 7).toNat = .inr (k, pl) → yRf σ' T n u k pl → yfr u σ σ' → X none σ') : MS G zm_R_findSeenEyes 1 [zr G 4] σ X := by
  have hh := hu.h
  obtain ⟨hA, hTa, hl, hC⟩ := ho
  obtain ⟨hb, h00, hz, hw, hsq, h07⟩ := id h
  obtain ⟨hcnt, hseen⟩ := hsq
  have hm := hA.2.1.2.1
  have d5 : σ (u + 8) 3 = W 0 5 := hw.1.2.2.2.2.2.1
  have d10 := hw.2.2.2.2.2.2.1
  have d11 := hw.2.2.2.2.1.2
  have h8 := hb.2.2.2.1
  refine k_R_findSeenEyes hu ?_
  refine zLP1_ind (fun x s => (∃ m : Nat, (m : Int) ≤ W 0 7 ∧ x = (ysn W m : Int) ∧ (∀ q, q ≠ u + 11 → s q = σ q) ∧ ∃ Wm, yEyes W m = .inl Wm ∧ ∀ k : Nat, (k : Int) < W 0 7 → s (u + 11) k = zpt Wm k) ∨ (zI x ∧ ∃ k pl, yEyes W (W 0 7).toNat = .inr (k, pl) ∧ yRf s T n u k pl ∧ yfr u σ s)) (fun x s => if s 4 0 = 0 then (4000 - x).toNat else 0) ?_ (Or.inl ⟨0, h07, rfl, fun _ _ => rfl, W, rfl, fun k hk => (d11 k hk).1⟩)
  rintro K x s (⟨m, hm7, rfl, hs, Wm, eW, hcode⟩ | ⟨hx, k, pl, e, hF, hf⟩) hK
  rotate_left
  · have e10 := hF.2.1
    have e11 := hF.2.2.2
    have h8 := hF.1.2.2.2.1
    exact ⟨⟨hx, by omega⟩, fun _ => h0 s k pl e hF hf, fun _ => ⟨by omega, fun _ => h0 s k pl e hF hf, fun y => by omega⟩⟩
  have s4 : s 4 = σ 4 := hs 4 (by omega)
  have hle := ysn_le (W := W) (show m ≤ (W 0 7).toNat by omega)
  unfold b_R_findSeenEyes_2
  rw [s4, hcnt]
  refine ⟨by omega, fun y => ?_, fun y => ⟨by omega, fun z => absurd h00.1 z, fun _ => ⟨hb.2.1, by omega, ?_⟩⟩⟩
  · have hno : ∀ j, m ≤ j → j < (W 0 7).toNat → W 9 j ≠ 1 := fun j a b z => by
      have h1 := ysn_le (W := W) a
      have h2 := ysn_le (W := W) (show j + 1 ≤ (W 0 7).toNat from b)
      rw [ysn_s, if_pos z] at h2
      omega
    exact h1 s Wm (yEyes_skip _ (by omega) hno Wm eW) hcode hs
  obtain ⟨k, ⟨k1, k2⟩, k9, kn, kno⟩ := ysn_next (W := W) (m := m) (W 0 7).toNat (by omega) (by omega)
  have eWk : yEyes W k = .inl Wm := yEyes_skip k k1 kno Wm eW
  obtain ⟨q7, q5, q6⟩ := hseen k (by omega) k9
  rw [kn] at q7 q5 q6
  obtain ⟨cs1, cs2⟩ := hC.2 k (by omega)
  obtain ⟨cs3, ⟨cs4, cs5⟩, cs6⟩ := cs2 k9
  have hr := yeN_r W (W 13 k) (W 0 5).toNat
  have eS : yEyes W (k + 1) = if yeN W (W 13 k) (W 0 5).toNat = -1 then .inr (6, W 14 k) else .inl (zupd Wm 11 k (yeN W (W 13 k) (W 0 5).toNat)) := by
    conv => lhs; unfold yEyes
    rw [eWk]
    dsimp only
    rw [if_neg (fun u => u k9)]
  have hmu : (if s 4 0 = 0 then (4000 - (ysn W m : Int)).toNat else 0) = (4000 - (ysn W m : Int)).toNat := if_pos (by rw [s4]; exact h00.1)
  rw [Int.toNat_natCast, hs 5 (by omega), q5]
  refine s_T_eyeNamed (W := W) hu (by rw [hs _ (by omega)]; exact d5) (by omega) (fun e he => by rw [hs _ (by omega)]; exact ⟨d10 e he, by rw [d10 e he]; have := hA.2.2.2.2.2 e he; omega⟩) (by omega) ⟨_, rfl, by omega, fun z => ?_, fun z => ?_⟩
  · obtain ⟨e, he⟩ : ∃ e : Nat, yeN W (W 13 k) (W 0 5).toNat = (e : Int) := ⟨(yeN W (W 13 k) (W 0 5).toNat).toNat, by omega⟩
    rw [he] at eS z hr ⊢
    rw [if_neg z] at eS
    rw [hs 4 (by omega), hs 7 (by omega), q7]
    obtain ⟨f1, f2⟩ := yEyes_s k Wm eWk
    have w11 : Wm 11 k = 0 := by rw [yEyes_k k Wm eWk k (Nat.le_refl _)]; exact (d11 k (by omega)).2
    have hck : s (u + 11) k = 1664 + W 10 k := by
      rw [hcode k (by omega)]; unfold zpt
      rw [f1 9 (by decide), f1 10 (by decide), w11, if_neg (by omega), if_pos k9]; omega
    obtain ⟨c', hc'⟩ : ∃ c' : Nat, W 10 k = (c' : Int) := ⟨(W 10 k).toNat, by omega⟩
    have zc := zor_code ⟨c', by omega⟩ ⟨e, by omega⟩
    refine ⟨hb.2.1, by omega, by omega, k_T_codeOfSees ⟨by omega, ⟨zor_nn _ _, by decide⟩, ⟨_, rfl, ?_⟩⟩⟩
    rw [Int.toNat_natCast, hck, hc', zc.2]
    refine ⟨by omega, by omega, ?_⟩
    rintro s1 es1
    rw [show (1664 + (c' : Int)) = 1664 + ((⟨c', by omega⟩ : Fin 8).val : Int) from rfl, zc.1] at es1
    have r1 : ∀ q, q ≠ u + 11 → s1 q = s q := fun q hq => by rw [es1, zupd_row hq]
    refine hK _ _ (Or.inl ⟨k + 1, by omega, by rw [ysn_s, if_pos k9, kn]; omega, fun q hq => by rw [r1 q hq]; exact hs q hq, _, eS, fun j hj => ?_⟩) ?_
    · rw [es1]
      by_cases y : j = k
      · rw [y, zupd_same]
        unfold zpt
        rw [show zupd Wm 11 k (e : Int) 9 = Wm 9 from zupd_row (by decide), show zupd Wm 11 k (e : Int) 10 = Wm 10 from zupd_row (by decide), zupd_same, f1 9 (by decide), f1 10 (by decide), if_neg (by omega), if_pos k9, hc']
      · rw [zupd_nk y, hcode j hj]
        unfold zpt
        rw [show zupd Wm 11 k (e : Int) 9 = Wm 9 from zupd_row (by decide), show zupd Wm 11 k (e : Int) 10 = Wm 10 from zupd_row (by decide), zupd_nk y]
    · rw [hmu]; split <;> omega
  · rw [if_pos z] at eS
    have eA : yEyes W (W 0 7).toNat = .inr (6, W 14 k) := yEyes_f (k + 1) _ (by omega) eS
    have hbs : yRb s T n u := by
      obtain ⟨⟨c, a, hk, ha, hlt⟩, b2, b3, b4, b5, b6⟩ := hb
      refine ⟨⟨c, a, hk.to (fun q a b => hs q (by omega)), by rw [s4]; exact ha, hlt⟩, by rw [s4]; exact b2, ?_, by rw [s4]; exact b4, by rw [hs u (by omega)]; exact b5, by rw [hs (u + 8) (by omega), hs (u + 10) (by omega)]; exact b6⟩
      unfold zTs zPc at *
      rw [hs u (by omega), hs (u + 1) (by omega), hs (u + 2) (by omega), hs (u + 3) (by omega), hs (u + 4) (by omega), hs (u + 5) (by omega), hs (u + 6) (by omega), hs (u + 7) (by omega), hs (u + 8) (by omega), hs (u + 9) (by omega)]
      exact b3
    refine ⟨by omega, ?_⟩
    rw [hs 6 (by omega), q6]
    exact s_R_refuse (by omega) hbs (by rw [s4]; exact h00.1) (by decide) (fun s2 F f2 r2 => ⟨rfl, hK _ _ (Or.inr ⟨by omega, 6, _, eA, F, fun q a b => by rw [r2 q (by omega), hs q (by omega)]⟩) (by rw [hmu, if_neg (by rw [F.2.1]; decide)]; omega)⟩)
end RE
