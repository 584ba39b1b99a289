/-! The model's light: row 84, the stack 85, its height 58 55 -/
def zsm (f : Nat → Int) : Nat → Int
  | 0 => 0
  | n + 1 => zsm f n + f n
theorem zsm_le {f g : Nat → Int} {n : Nat} (h : ∀ m, m < n → f m ≤ g m) : zsm f n ≤ zsm g n := by
  induction n with
  | zero => exact Int.le_refl _
  | succ n ih => simp only [zsm]; have := ih (fun m hm => h m (by omega)); have := h n (by omega); omega
theorem zsm_lt {f g : Nat → Int} {n k : Nat} (h : ∀ m, m < n → f m ≤ g m) (hk : k < n) (hl : f k + 1 ≤ g k) : zsm f n + 1 ≤ zsm g n := by
  induction n with
  | zero => omega
  | succ n ih =>
    simp only [zsm]
    rcases (show k < n ∨ k = n by omega) with q | rfl
    · have := ih (fun m hm => h m (by omega)) q; have := h n (by omega); omega
    · have := zsm_le (n := k) (fun m hm => h m (by omega)); omega
theorem zsm_3 {f : Nat → Int} {n : Nat} (h : ∀ m, m < n → 0 ≤ f m ∧ f m ≤ 3) : 0 ≤ zsm f n ∧ zsm f n ≤ 3 * n := by
  induction n with
  | zero => simp [zsm]
  | succ n ih => simp only [zsm]; have := ih (fun m hm => h m (by omega)); have := h n (by omega); omega
theorem zpp_3 : ∀ x : Fin 8, 0 ≤ zpp ((x : Nat) : Int) ∧ zpp ((x : Nat) : Int) ≤ 3 := by decide
theorem zpp_or : ∀ x y : Fin 8, zpp ((x : Nat) : Int) ≤ zpp (zor ((x : Nat) : Int) ((y : Nat) : Int)) ∧ (zor ((x : Nat) : Int) ((y : Nat) : Int) ≠ ((x : Nat) : Int) → zpp ((x : Nat) : Int) + 1 ≤ zpp (zor ((x : Nat) : Int) ((y : Nat) : Int))) := by decide
/-- how many bits of light there are -/
def zBs (σ : zPH) (n : Nat) : Int := zsm (fun m => zpp (σ 84 m)) n
/-- the light and the stack are sound -/
def zmQ (σ V : zPH) : Prop := (∀ m, m < 576 → 0 ≤ σ 84 m ∧ σ 84 m < 8) ∧ 0 ≤ σ 58 55 ∧ σ 58 55 ≤ zBs σ 576 ∧ (∀ j : Nat, (j : Int) < σ 58 55 → ∃ m : Nat, zva V (m / 4) ∧ σ 85 j = (m : Int))
theorem zBs_r {σ V : zPH} (h : zmQ σ V) : 0 ≤ zBs σ 576 ∧ zBs σ 576 ≤ 1728 := by
  have := zsm_3 (f := fun m => zpp (σ 84 m)) (n := 576) (fun m hm => by
    have h1 := h.1 m hm
    have := zpp_3 ⟨(σ 84 m).toNat, by omega⟩
    rw [show (((⟨(σ 84 m).toNat, by omega⟩ : Fin 8) : Nat) : Int) = σ 84 m by show ((σ 84 m).toNat : Int) = σ 84 m; omega] at this
    exact this)
  unfold zBs; omega
/-- some light was added, and what it fell on is on the stack -/
def zAd (σ σ' : zPH) (P : Nat → Nat → Prop) : Prop := (∀ m b, zbt (σ' 84 m) b ↔ zbt (σ 84 m) b ∨ P m b) ∧ σ 58 55 ≤ σ' 58 55 ∧ (∀ j : Nat, (j : Int) < σ 58 55 → σ' 85 j = σ 85 j) ∧ ((∀ m, σ' 84 m ≠ σ 84 m → ∃ j : Nat, σ 58 55 ≤ (j : Int) ∧ (j : Int) < σ' 58 55 ∧ σ' 85 j = (m : Int)) ∧ ∀ j : Nat, σ 58 55 ≤ (j : Int) → (j : Int) < σ' 58 55 → ∃ m b : Nat, σ' 85 j = (m : Int) ∧ zbt (σ' 84 m) b ∧ ¬ zbt (σ 84 m) b) ∧ σ' 58 55 - σ 58 55 ≤ zBs σ' 576 - zBs σ 576 ∧ (∀ q, q ≠ 58 → q ≠ 84 → q ≠ 85 → σ' q = σ q) ∧ ∀ k, k ≠ 55 → σ' 58 k = σ 58 k
theorem zAd.cg {σ σ' : zPH} {P Q : Nat → Nat → Prop} (h : zAd σ σ' P) (hpq : ∀ m b, P m b ↔ Q m b) : zAd σ σ' Q :=
  ⟨fun m b => by rw [h.1, hpq], h.2⟩
theorem zAd.rf {σ : zPH} : zAd σ σ (fun _ _ => False) := ⟨fun m b => by simp, Int.le_refl _, fun _ _ => rfl, ⟨fun m z => absurd rfl z, fun j a b => by omega⟩, by omega, fun _ _ _ _ => rfl, fun _ _ => rfl⟩
theorem zAd.tr {σ σ1 σ2 : zPH} {P Q : Nat → Nat → Prop} (h : zAd σ σ1 P) (h2 : zAd σ1 σ2 Q) : zAd σ σ2 (fun m b => P m b ∨ Q m b) := by
  obtain ⟨a1, a2, a3, ⟨a4, a8⟩, a5, a6, a7⟩ := h
  obtain ⟨b1, b2, b3, ⟨b4, b8⟩, b5, b6, b7⟩ := h2
  refine ⟨fun m b => by rw [b1, a1, or_assoc], by omega, fun j hj => by rw [b3 j (by omega), a3 j hj], ⟨fun m hm => ?_, fun j j1 j2 => ?_⟩, by omega, fun q h1 h2 h3 => by rw [b6 q h1 h2 h3, a6 q h1 h2 h3], fun k hk => by rw [b7 k hk, a7 k hk]⟩
  by_cases q : σ1 84 m = σ 84 m
  · obtain ⟨j, j1, j2, j3⟩ := b4 m (by rw [q]; exact hm)
    exact ⟨j, by omega, j2, j3⟩
  · obtain ⟨j, j1, j2, j3⟩ := a4 m q
    exact ⟨j, j1, by omega, by rw [b3 j j2, j3]⟩
  · by_cases q : (j : Int) < σ1 58 55
    · obtain ⟨m, b, m1, m2, m3⟩ := a8 j j1 q
      exact ⟨m, b, by rw [b3 j q, m1], (b1 m b).mpr (Or.inl m2), m3⟩
    · obtain ⟨m, b, m1, m2, m3⟩ := b8 j (by omega) j2
      exact ⟨m, b, m1, m2, fun z => m3 ((a1 m b).mpr (Or.inl z))⟩
theorem zAd.vw {σ σ' V : zPH} {P : Nat → Nat → Prop} (h : zAd σ σ' P) (hv : zMV σ V) : zMV σ' V :=
  hv.to (fun q h1 h2 => h.2.2.2.2.2.1 q (by omega) (by omega) (by omega)) (fun k hk => h.2.2.2.2.2.2 k (by omega))
theorem zbt_8 {x : Int} (h0 : 0 ≤ x) (h : ∀ b, zbt x b → b < 3) : x < 8 := by
  have := zlt_bt (n := 3) h0 h
  rw [show (2 : Int) ^ 3 = 8 from rfl] at this
  exact this
section MS
variable {G : zG} {σ V : zPH} {X : zX}
theorem s_M_sends (hV : zVd V) (h : zMV σ V) (hQ : zmQ σ V) {q w : Nat} {zq zw l : Int} (hzq : zq = (q : Int)) (hzw : zw = (w : Int)) (hq : zva V q) (hw : w < 4) (hl : 0 ≤ l ∧ l < 8) (hX : ∀ σ', zMV σ' V → zmQ σ' V → zAd σ σ' (fun m b => zN V q w = (m : Int) ∧ zbt l b) → X none σ') : MS G zm_M_sends 2 [zr G 58, iZ zq, iZ zw, iZ l] σ X := by
  subst hzq hzw
  obtain ⟨hl1, hl2, hl3⟩ := zva.lt hV hq
  have hd := hV.1
  have hBr := zBs_r hQ
  have fin : ∀ x4 s0 x5 : Int, x5 = (q : Int) / 12 + s0 → (zin_ V x4 x5 → zN V q w = 4 * (12 * x5 + x4) + (w : Int)) → (¬ zin_ V x4 x5 → zN V q w = -1) → zI x4 → zI x5 → b_M_sends_48 G q w l X x4 s0 ((q : Int) / 12) σ := by
    intro x4 s0 x5' e5' h1 h2 i4 i5 x5 e5
    have : x5 = x5' := by omega
    subst this
    refine s_M_isSquare hV h i4 i5 (fun hin => Or.inr ⟨rfl, ?_⟩) (fun hin => Or.inl ⟨rfl, ?_⟩)
    · rintro x6 e6
      have hN := h1 hin
      rw [← e6] at hN
      have hn0 : zN V q w ≠ -1 := by unfold zin_ at hin; omega
      have hnn := zN_nn hn0
      have hNm : zN V q w = (x6.toNat : Int) := by omega
      obtain ⟨hva, hmw⟩ := zN_va hV hw hq hNm
      have hml := (zva.lt hV hva).1
      have hs := hQ.1 x6.toNat (by omega)
      have ho := zor_lt (x := σ 84 x6.toNat) (y := l) 3 hs.2 hl.2
      have ho' : zor (σ 84 x6.toNat) l < 8 := ho
      have hon := zor_nn (σ 84 x6.toNat) l
      refine ⟨by omega, ⟨by omega, by omega⟩, by omega, ⟨by omega, by omega⟩, fun hne => ⟨by omega, ⟨by omega, by omega⟩, by omega, ?_⟩, fun he => ?_⟩
      · rintro σ1 e1
        have e155 : σ1 58 55 = σ 58 55 := by rw [e1, zupd_row (by decide)]
        rw [e155]
        have hh := hQ.2.1
        have hh2 := hQ.2.2.1
        refine ⟨by omega, ?_⟩
        rintro σ2 e2
        have e255 : σ2 58 55 = σ 58 55 := by rw [e2, zupd_row (by decide), e155]
        rw [e255]
        rintro σ3 e3
        have v84 : ∀ m, σ3 84 m = if m = x6.toNat then zor (σ 84 m) l else σ 84 m := fun m => by
          rw [e3, zupd_row (by decide), e2, zupd_row (by decide), e1]
          split
          · rename_i z; rw [z, zupd_same]
          · rename_i z; rw [zupd_nk z]
        have v85 : ∀ j : Nat, σ3 85 j = if j = (σ 58 55).toNat then x6 else σ 85 j := fun j => by
          rw [e3, zupd_row (by decide), e2]
          split
          · rename_i z; rw [z, zupd_same]
          · rename_i z; rw [zupd_nk z, e1, zupd_row (by decide)]
        have v55 : σ3 58 55 = σ 58 55 + 1 := by rw [e3, zupd_same]
        have fin8 : ∀ m, m < 576 → ∃ f : Fin 8, ((f : Nat) : Int) = σ 84 m := fun m hm => ⟨⟨(σ 84 m).toNat, by have := hQ.1 m hm; omega⟩, by have := hQ.1 m hm; show ((σ 84 m).toNat : Int) = _; omega⟩
        obtain ⟨fl, hfl⟩ : ∃ f : Fin 8, ((f : Nat) : Int) = l := ⟨⟨l.toNat, by omega⟩, by show (l.toNat : Int) = _; omega⟩
        have hBs : zBs σ 576 + 1 ≤ zBs σ3 576 := by
          unfold zBs
          refine zsm_lt (k := x6.toNat) (fun m hm => ?_) (by omega) ?_
          · show zpp (σ 84 m) ≤ zpp (σ3 84 m)
            rw [v84]; split
            · obtain ⟨f, hf⟩ := fin8 m hm
              rw [← hf, ← hfl]; exact (zpp_or f fl).1
            · exact Int.le_refl _
          · show zpp (σ 84 x6.toNat) + 1 ≤ zpp (σ3 84 x6.toNat)
            rw [v84, if_pos rfl]
            obtain ⟨f, hf⟩ := fin8 x6.toNat (by omega)
            rw [← hf, ← hfl] at hne ⊢
            exact (zpp_or f fl).2 hne
        have hA : zAd σ σ3 (fun m b => zN V q w = (m : Int) ∧ zbt l b) := by
          refine ⟨fun m b => ?_, by omega, fun j hj => ?_, ⟨fun m hm => ?_, fun j j1 j2 => ?_⟩, by omega, fun q z1 z2 z3 => ?_, fun k hk => ?_⟩
          · rw [v84]; split
            · rename_i z
              rw [zbt_or, hNm, z]
              exact ⟨fun y => y.elim Or.inl (fun y => Or.inr ⟨rfl, y⟩), fun y => y.elim Or.inl (fun y => Or.inr y.2)⟩
            · rename_i z
              exact ⟨Or.inl, fun y => y.elim id (fun y => absurd (by have := y.1; omega) z)⟩
          · rw [v85, if_neg (by omega)]
          · rw [v84] at hm
            by_cases z : m = x6.toNat
            · exact ⟨(σ 58 55).toNat, by omega, by omega, by rw [v85, if_pos rfl]; omega⟩
            · rw [if_neg z] at hm; exact absurd rfl hm
          · refine ⟨x6.toNat, ?_⟩
            rw [v85, if_pos (by omega), v84, if_pos rfl]
            by_cases z : ∃ b, zbt (zor (σ 84 x6.toNat) l) b ∧ ¬ zbt (σ 84 x6.toNat) b
            · obtain ⟨b, z1, z2⟩ := z
              exact ⟨b, by omega, z1, z2⟩
            · refine absurd (zbt_ext hon hs.1 fun b => ⟨fun y => ?_, fun y => zbt_or.mpr (Or.inl y)⟩) hne
              by_cases z3 : zbt (σ 84 x6.toNat) b
              · exact z3
              · exact absurd ⟨b, y, z3⟩ z
          · rw [e3, zupd_row z1, e2, zupd_row z3, e1, zupd_row z2]
          · rw [e3, zupd_nk hk, e2, zupd_row (by decide), e1, zupd_row (by decide)]
        refine hX σ3 (hA.vw h) ⟨fun m hm => ?_, by omega, by omega, fun j hj => ?_⟩ hA
        · rw [v84]; split
          · rename_i z; rw [z]; omega
          · exact hQ.1 m hm
        · rw [v85]; split
          · exact ⟨x6.toNat, hva, by omega⟩
          · exact hQ.2.2.2 j (by omega)
      · refine hX σ h hQ ⟨fun m b => ⟨Or.inl, fun z => z.elim id fun z => ?_⟩, zAd.rf.2⟩
        have hm : m = x6.toNat := by have := z.1; omega
        rw [hm, ← he, zbt_or]; exact Or.inr z.2
    · refine hX σ h hQ (zAd.rf.cg fun m b => ⟨fun z => z.elim, fun z => ?_⟩)
      have := h2 hin
      have := z.1
      omega
  have hq12 : (q : Int) / 12 = ((q / 12 : Nat) : Int) ∧ (q : Int) % 12 = ((q % 12 : Nat) : Int) := by omega
  unfold zN at fin
  unfold zin_ at fin
  have hc : w = 0 ∨ w = 1 ∨ w = 2 ∨ w = 3 := by omega
  refine k_M_sends ⟨by omega, by omega, fun z1 => ⟨by omega, fun z3 x4 e4 => ⟨by omega, by omega, fun z2 => ⟨by omega, fun z0 => by omega, fun z0 => ?_⟩, fun z2 => ?_⟩, fun z3 x4 e4 => ⟨by omega, by omega, fun z2 => ⟨by omega, fun z0 => ?_, fun z0 => by omega⟩, fun z2 => by omega⟩⟩, fun z1 x4 e4 => ⟨by omega, by omega, fun z2 => ⟨by omega, fun z0 => ?_, fun z0 => by omega⟩, fun z2 => by omega⟩⟩
  · have hw0 : w = 0 := by omega
    subst hw0
    simp only [if_true] at fin
    exact fin x4 (-1) _ rfl (fun z => by rw [if_pos (by omega)]; omega) (fun z => by rw [if_neg (by omega)]) (by omega) (by omega)
  · have hw0 : w = 2 := by omega
    subst hw0
    simp only [show ¬ (2 : Nat) = 0 by decide, show ¬ (2 : Nat) = 1 by decide, if_true, if_false] at fin
    exact fin x4 1 _ rfl (fun z => by rw [if_pos (by omega)]; omega) (fun z => by rw [if_neg (by omega)]) (by omega) (by omega)
  · have hw0 : w = 3 := by omega
    subst hw0
    simp only [show ¬ (3 : Nat) = 0 by decide, show ¬ (3 : Nat) = 1 by decide, show ¬ (3 : Nat) = 2 by decide, if_false] at fin
    exact fin x4 0 _ rfl (fun z => by rw [if_pos (by omega)]; omega) (fun z => by rw [if_neg (by omega)]) (by omega) (by omega)
  · have hw0 : w = 1 := by omega
    subst hw0
    simp only [show ¬ (1 : Nat) = 0 by decide, if_true, if_false] at fin
    exact fin x4 0 _ rfl (fun z => by rw [if_pos (by omega)]; omega) (fun z => by rw [if_neg (by omega)]) (by omega) (by omega)
theorem s_M_mirrored {w : Nat} {zw f : Int} (hzw : zw = (w : Int)) (hw : w < 4) (hf : zI f) (hX : X (some (iZ (zmw f w : Int))) σ) : MS G zm_M_mirrored 0 [iZ zw, iZ f] σ X := by
  subst hzw
  unfold zmw at hX
  refine k_M_mirrored ⟨hf, fun q => ?_, fun q => ⟨by omega, ?_⟩⟩
  · rw [if_neg q] at hX
    rw [show (3 : Int) - (w : Int) = ((3 - w : Nat) : Int) by omega]; exact hX
  · rw [if_pos q] at hX
    rw [zmw_0 w hw]; exact hX
theorem zFm_8 (hV : zVd V) {q : Nat} (hq : zva V q) (tu st : Int) : -1 ≤ zFm V tu st q ∧ zFm V tu st q < 8 := by
  obtain ⟨v1, v2, v3, v4, v5, v6, v7, v8⟩ := hV.2.2.1 q hq
  unfold zFm
  split
  · decide
  · unfold zlkv
    split
    · rename_i z0 z
      have := v3 z
      split <;> omega
    · split
      · omega
      · omega
theorem s_M_goes (hV : zVd V) (h : zMV σ V) (hQ : zmQ σ V) (htu : zI (σ 58 42) ∧ 0 ≤ σ 58 42) {st : Int} (hst : zI st ∧ 0 ≤ st) {n : Nat} {zq zw l : Int} (hzq : zq = ((n / 4 : Nat) : Int)) (hzw : zw = ((n % 4 : Nat) : Int)) (hq : zva V (n / 4)) (hl : 0 ≤ l ∧ l < 8) (hX : ∀ σ', zMV σ' V → zmQ σ' V → zAd σ σ' (fun m b => zbt l b ∧ zvS V (σ 58 42) st b n m) → X none σ') : MS G zm_M_goes 3 [zr G 58, iZ zq, iZ zw, iZ l, iZ st] σ X := by
  have hw : n % 4 < 4 := by omega
  obtain ⟨v1, v2, v3, v4, v5, v6, v7, v8⟩ := hV.2.2.1 _ hq
  have f8 := zFm_8 hV hq (σ 58 42) st
  have b3 : ∀ b, zbt l b → b < 3 := fun b hb => zbt_lt8 hl.2 hb
  unfold zvS zOut at hX
  refine k_M_goes (s_M_sortAt hV h hzq hq ⟨_, rfl, by omega, fun z => ?_, fun z => ?_, fun z => ?_, fun z => ?_, fun z => ?_, fun z => ?_, fun z => ?_⟩)
  · refine s_M_sends hV h hQ hzq hzw hq hw hl (fun σ1 m1 Q1 A1 => ⟨rfl, hX σ1 m1 Q1 (A1.cg fun m b => ?_)⟩)
    rw [z]
    exact ⟨fun y => ⟨y.2, n % 4, Or.inl ⟨Or.inl rfl, rfl⟩, y.1⟩, fun ⟨y1, w', y2, y3⟩ => by
      have : w' = n % 4 := by omega
      subst this; exact ⟨y3, y1⟩⟩
  · refine s_M_formAt hV h hzq hq (by omega) (by omega) (by omega) (by omega) htu hst ⟨_, rfl, ?_⟩
    refine s_M_mirrored hzw hw (by omega) ⟨_, rfl, ?_⟩
    refine s_M_sends hV h hQ hzq rfl hq (zmw_lt hw) hl (fun σ1 m1 Q1 A1 => ⟨rfl, hX σ1 m1 Q1 (A1.cg fun m b => ?_)⟩)
    exact ⟨fun y => ⟨y.2, _, Or.inr (Or.inl ⟨by omega, rfl⟩), y.1⟩, fun ⟨y1, w', y2, y3⟩ => by
      have : w' = zmw (zFm V (σ 58 42) st (n / 4)) (n % 4) := by omega
      subst this; exact ⟨y3, y1⟩⟩
  · refine s_M_sends hV h hQ hzq hzw hq hw hl (fun σ1 m1 Q1 A1 => ⟨rfl, ?_⟩)
    have e42 : σ1 58 42 = σ 58 42 := A1.2.2.2.2.2.2 42 (by decide)
    refine s_M_formAt hV m1 hzq hq (by omega) (by omega) (by omega) (by omega) (by rw [e42]; exact htu) hst ⟨_, rfl, ?_⟩
    rw [e42]
    refine s_M_mirrored hzw hw (by omega) ⟨_, rfl, ?_⟩
    refine s_M_sends hV m1 Q1 hzq rfl hq (zmw_lt hw) hl (fun σ2 m2 Q2 A2 => ⟨rfl, hX σ2 m2 Q2 ((A1.tr A2).cg fun m b => ?_)⟩)
    exact ⟨fun y => y.elim (fun y => ⟨y.2, _, Or.inl ⟨by omega, rfl⟩, y.1⟩) (fun y => ⟨y.2, _, Or.inr (Or.inl ⟨by omega, rfl⟩), y.1⟩), fun ⟨y1, w', y2, y3⟩ => by
      rcases y2 with y2 | y2 | y2 | y2
      · obtain ⟨-, rfl⟩ := y2; exact Or.inl ⟨y3, y1⟩
      · obtain ⟨-, rfl⟩ := y2; exact Or.inr ⟨y3, y1⟩
      · omega
      · omega⟩
  · refine s_M_formAt hV h hzq hq (by omega) (by omega) (by omega) (by omega) htu hst ⟨_, rfl, ?_⟩
    have hf : zFm V (σ 58 42) st (n / 4) = V 3 (n / 4) := by
      unfold zFm zlkv
      rw [if_neg (by omega), if_neg (by omega), if_neg (by omega)]
    have h4 := v4 z
    rw [hf]
    refine ⟨by omega, ?_⟩
    refine s_M_sends hV h hQ hzq hzw hq hw (zand_8 hl) (fun σ1 m1 Q1 A1 => ⟨rfl, hX σ1 m1 Q1 (A1.cg fun m b => ?_)⟩)
    rw [zbt_and, hf]
    exact ⟨fun y => ⟨y.2.1, _, Or.inl ⟨Or.inr (Or.inr (Or.inl ⟨z, y.2.2⟩)), rfl⟩, y.1⟩, fun ⟨y1, w', y2, y3⟩ => by
      rcases y2 with ⟨y2 | y2 | y2 | y2 | y2, rfl⟩ | y2 | y2 | y2
      · omega
      · omega
      · exact ⟨y3, y1, y2.2⟩
      · omega
      · omega
      · omega
      · omega
      · omega⟩
  · have l1 : 0 ≤ l % 2 ∧ l % 2 < 8 := by omega
    refine s_M_sends hV h hQ hzq hzw hq hw l1 (fun σ1 m1 Q1 A1 => ⟨rfl, by omega, by omega, ?_⟩)
    refine s_M_sends hV m1 Q1 (w := (n % 4 + 1) % 4) hzq (by omega) hq (by omega) (zand_8 hl) (fun σ2 m2 Q2 A2 => ⟨rfl, by omega, by omega, ?_⟩)
    refine s_M_sends hV m2 Q2 (w := (n % 4 + 3) % 4) hzq (by omega) hq (by omega) (zand_8 hl) (fun σ3 m3 Q3 A3 => ⟨rfl, hX σ3 m3 Q3 (((A1.tr A2).tr A3).cg fun m b => ?_)⟩)
    rw [zbt_m1 hl.1, zbt_m2, zbt_m4]
    constructor
    · rintro ((⟨y1, y2, rfl⟩ | ⟨y1, y2, rfl⟩) | ⟨y1, y2, rfl⟩)
      · exact ⟨y2, _, Or.inl ⟨Or.inr (Or.inr (Or.inr (Or.inl ⟨z, rfl⟩))), rfl⟩, y1⟩
      · exact ⟨y2, _, Or.inr (Or.inr (Or.inl ⟨z, rfl, rfl⟩)), y1⟩
      · exact ⟨y2, _, Or.inr (Or.inr (Or.inr ⟨z, rfl, rfl⟩)), y1⟩
    · rintro ⟨y1, w', y2, y3⟩
      rcases y2 with ⟨y2 | y2 | y2 | y2 | y2, rfl⟩ | y2 | ⟨-, rfl, rfl⟩ | ⟨-, rfl, rfl⟩
      · omega
      · omega
      · omega
      · exact Or.inl (Or.inl ⟨y3, y1, y2.2⟩)
      · omega
      · omega
      · exact Or.inl (Or.inr ⟨y3, y1, rfl⟩)
      · exact Or.inr ⟨y3, y1, rfl⟩
  · refine s_M_formAt hV h hzq hq (by omega) (by omega) (by omega) (by omega) htu hst ⟨_, rfl, by omega, fun y => ?_, fun y => ?_⟩
    · refine hX σ h hQ (zAd.rf.cg fun m b => ⟨fun x => x.elim, ?_⟩)
      rintro ⟨y1, w', y2, y3⟩
      rcases y2 with ⟨y2 | y2 | y2 | y2 | y2, rfl⟩ | y2 | y2 | y2
      · omega
      · omega
      · omega
      · omega
      · exact y y2.2
      · omega
      · omega
      · omega
    · refine s_M_sends hV h hQ hzq hzw hq hw hl (fun σ1 m1 Q1 A1 => ⟨rfl, hX σ1 m1 Q1 (A1.cg fun m b => ?_)⟩)
      exact ⟨fun x => ⟨x.2, _, Or.inl ⟨Or.inr (Or.inr (Or.inr (Or.inr ⟨z, y⟩))), rfl⟩, x.1⟩, fun ⟨y1, w', y2, y3⟩ => by
        have : w' = n % 4 := by omega
        subst this; exact ⟨y3, y1⟩⟩
  · refine hX σ h hQ (zAd.rf.cg fun m b => ⟨fun x => x.elim, ?_⟩)
    rintro ⟨y1, w', y2, y3⟩
    rcases y2 with ⟨y2 | y2 | y2 | y2 | y2, rfl⟩ | y2 | y2 | y2 <;> omega
end MS
