/-- the packed own word of a number -/
def zoc (i : Int) : Int := if i = 0 then 1936292453 else if i = 1 then 1818324336 else if i = 2 then 120299659095922 else if i = 3 then 1751215206 else if i = 4 then 444199957363 else if i = 5 then 482955850605 else if i = 6 then 2002873452 else if i = 7 then 6650213 else if i = 8 then 32484475995972978 else if i = 9 then 1986096741 else if i = 10 then 24948 else if i = 11 then 2003330414 else if i = 12 then 7497060 else if i = 13 then 444300879214 else if i = 14 then 1651275109 else if i = 15 then 512852849765 else if i = 16 then 30064 else if i = 17 then 491394656372 else if i = 18 then 1685026670 else if i = 19 then 1818584692 else if i = 20 then 495739564904 else if i = 21 then 1650549611 else if i = 22 then 28530 else if i = 23 then 6385252 else if i = 24 then 7237492 else if i = 25 then 6384748 else if i = 26 then 1936024947 else 0
theorem zoc_s {w : Int} (h : zow w ≠ -1) : zoc (zow w) = w := by
  unfold zow at h ⊢
  by_cases q0 : w = 1936292453
  · rw [if_pos q0, q0]; rfl
  rw [if_neg q0] at h ⊢
  by_cases q1 : w = 1818324336
  · rw [if_pos q1, q1]; rfl
  rw [if_neg q1] at h ⊢
  by_cases q2 : w = 120299659095922
  · rw [if_pos q2, q2]; rfl
  rw [if_neg q2] at h ⊢
  by_cases q3 : w = 1751215206
  · rw [if_pos q3, q3]; rfl
  rw [if_neg q3] at h ⊢
  by_cases q4 : w = 444199957363
  · rw [if_pos q4, q4]; rfl
  rw [if_neg q4] at h ⊢
  by_cases q5 : w = 482955850605
  · rw [if_pos q5, q5]; rfl
  rw [if_neg q5] at h ⊢
  by_cases q6 : w = 2002873452
  · rw [if_pos q6, q6]; rfl
  rw [if_neg q6] at h ⊢
  by_cases q7 : w = 6650213
  · rw [if_pos q7, q7]; rfl
  rw [if_neg q7] at h ⊢
  by_cases q8 : w = 32484475995972978
  · rw [if_pos q8, q8]; rfl
  rw [if_neg q8] at h ⊢
  by_cases q9 : w = 1986096741
  · rw [if_pos q9, q9]; rfl
  rw [if_neg q9] at h ⊢
  by_cases q10 : w = 24948
  · rw [if_pos q10, q10]; rfl
  rw [if_neg q10] at h ⊢
  by_cases q11 : w = 2003330414
  · rw [if_pos q11, q11]; rfl
  rw [if_neg q11] at h ⊢
  by_cases q12 : w = 7497060
  · rw [if_pos q12, q12]; rfl
  rw [if_neg q12] at h ⊢
  by_cases q13 : w = 444300879214
  · rw [if_pos q13, q13]; rfl
  rw [if_neg q13] at h ⊢
  by_cases q14 : w = 1651275109
  · rw [if_pos q14, q14]; rfl
  rw [if_neg q14] at h ⊢
  by_cases q15 : w = 512852849765
  · rw [if_pos q15, q15]; rfl
  rw [if_neg q15] at h ⊢
  by_cases q16 : w = 30064
  · rw [if_pos q16, q16]; rfl
  rw [if_neg q16] at h ⊢
  by_cases q17 : w = 491394656372
  · rw [if_pos q17, q17]; rfl
  rw [if_neg q17] at h ⊢
  by_cases q18 : w = 1685026670
  · rw [if_pos q18, q18]; rfl
  rw [if_neg q18] at h ⊢
  by_cases q19 : w = 1818584692
  · rw [if_pos q19, q19]; rfl
  rw [if_neg q19] at h ⊢
  by_cases q20 : w = 495739564904
  · rw [if_pos q20, q20]; rfl
  rw [if_neg q20] at h ⊢
  by_cases q21 : w = 1650549611
  · rw [if_pos q21, q21]; rfl
  rw [if_neg q21] at h ⊢
  by_cases q22 : w = 28530
  · rw [if_pos q22, q22]; rfl
  rw [if_neg q22] at h ⊢
  by_cases q23 : w = 6385252
  · rw [if_pos q23, q23]; rfl
  rw [if_neg q23] at h ⊢
  by_cases q24 : w = 7237492
  · rw [if_pos q24, q24]; rfl
  rw [if_neg q24] at h ⊢
  by_cases q25 : w = 6384748
  · rw [if_pos q25, q25]; rfl
  rw [if_neg q25] at h ⊢
  by_cases q26 : w = 1936024947
  · rw [if_pos q26, q26]; rfl
  rw [if_neg q26] at h ⊢
  exact absurd rfl h
theorem zow_w {w i : Int} (hi : zow w = i) (h0 : 0 ≤ i) : ∀ x : Int, x = w ↔ zow x = i := fun x => ⟨fun e => by rw [e, hi], fun e => by rw [← zoc_s (w := x) (by omega), e, ← hi]; exact zoc_s (by omega)⟩
theorem ztK_r (T : Nat → Int) (n p : Nat) : 0 ≤ ztK T n p ∧ ztK T n p ≤ 5 := by
  unfold ztK
  split
  · decide
  · split
    · split
      · decide
      · split
        · decide
        · split <;> decide
    · split
      · split
        · decide
        · split <;> decide
      · decide
section MJ
variable {G : zG} {σ V D : zPH} {X : zX}
/-- behind next(): the token behind p, or its fault -/
def zmN (σ : zPH) (T : Nat → Int) (n p : Nat) : Prop := (ztK T n p ≠ 5 ∧ zmP σ T n p) ∨ (ztK T n p = 5 ∧ zmFt σ 1 (ztF T n p))
theorem s_M_nextN {T : Nat → Int} {n p : Nat} (h : zmP σ T n p) (hX : ∀ σ', zmN σ' T n (ztE T n p) → zfq σ σ' → X none σ') : MS G zm_M_next 2 [zr G 58] σ X :=
  s_M_next h (fun σ' a f => hX σ' (Or.inl ⟨a.2.2.2.2, a⟩) f) (fun q σ' a f => hX σ' (Or.inr ⟨q, a⟩) f)
theorem ztF_S {T : Nat → Int} {n p : Nat} (h : ztK T n p ≠ 5) : ztF T n p = ztS T n p := by
  unfold ztF; rw [if_neg (fun z => h z.1)]
theorem s_M_isWord' {a b w : Int} (h : zmFt σ a b) (hX : X (some (iZ 0)) σ) : MS G zm_M_isWord 0 [zr G 58, lZ w] σ X :=
  k_M_isWord ⟨by have := h.1; have := h.2.2; omega, fun _ => hX, fun z => by have := h.1; have := h.2.2; omega⟩
theorem s_M_isSign' {a b c : Int} (h : zmFt σ a b) (hX : X (some (iZ 0)) σ) : MS G zm_M_isSign 1 [zr G 58, iZ c] σ X :=
  k_M_isSign ⟨by have := h.1; have := h.2.2; omega, fun _ => hX, fun z => by have := h.1; have := h.2.2; omega⟩
theorem s_M_mustWord {T : Nat → Int} {n p : Nat} (h : zmP σ T n p) {w i : Int} (hw : ∀ x : Int, x = w ↔ zow x = i) (hi : 0 ≤ i) (hJ : zJ w) (h1 : yIs T n p 0 i → ∀ σ', zmN σ' T n (ztE T n p) → zfq σ σ' → X none σ') (h0 : ¬ yIs T n p 0 i → ∀ σ', zmFt σ' 1 (ztF T n p) → zfq σ σ' → X none σ') : MS G zm_M_mustWord 3 [zr G 58, lZ w] σ X := by
  have h10 := h.2.1
  refine k_M_mustWord ⟨by omega, fun _ => ?_, fun z => by omega⟩
  refine s_M_isWord h hw hi hJ (fun q => Or.inr ⟨rfl, by omega, fun z => absurd h10 z, fun _ => s_M_nextN h (fun σ1 a f => ⟨rfl, h1 q σ1 a f⟩)⟩) (fun q => Or.inl ⟨rfl, ?_⟩)
  rw [h.2.2.2.1.1, ← ztF_S h.2.2.2.2]
  exact s_M_blame h10 (by decide) (fun σ1 F f _ => ⟨rfl, by have := F.1; omega, fun _ => h0 q σ1 F f, fun z => by have := F.1; omega⟩)
theorem s_M_mustWord' {a b w : Int} (h : zmFt σ a b) (hX : X none σ) : MS G zm_M_mustWord 3 [zr G 58, lZ w] σ X :=
  k_M_mustWord ⟨by have := h.1; have := h.2.2; omega, fun z => by have := h.1; have := h.2.2; omega, fun _ => hX⟩
theorem s_M_number {T : Nat → Int} {n p : Nat} (h : zmP σ T n p) {lo hi : Int} (hlo : zI lo) (hhi : zI hi) (h1 : ztK T n p = 2 → lo ≤ ztV T n p → ztV T n p ≤ hi → ∀ σ', zmN σ' T n (ztE T n p) → zfq σ σ' → X (some (iZ (ztV T n p))) σ') (h2 : ztK T n p = 2 → (ztV T n p < lo ∨ hi < ztV T n p) → ∀ σ' x, zmFt σ' 2 (ztS T n p) → zfq σ σ' → X (some (iZ x)) σ') (h0 : ztK T n p ≠ 2 → ∀ σ' x, zmFt σ' 1 (ztF T n p) → zfq σ σ' → X (some (iZ x)) σ') : MS G zm_M_number 3 [zr G 58, iZ lo, iZ hi] σ X := by
  obtain ⟨hx, h10, hp, ⟨k1, k2, k3, k4, k5, k6, k7, k8, k9, k10, k11⟩, hK⟩ := id h
  refine k_M_number ⟨by omega, fun _ => ⟨by omega, fun q => ?_, fun q => ?_⟩, fun z => by omega⟩
  · have hk2 : ztK T n p = 2 := by
      by_cases y : ztK T n p = 2
      · exact y
      · exfalso
        have r := ztK_r T n p
        by_cases a0 : ztK T n p = 0
        · have := (k5 a0).1; omega
        · by_cases a1 : ztK T n p = 1
          · have := (k6 a1).1; omega
          · by_cases a3 : ztK T n p = 3
            · have := k8 a3; omega
            · have := k4 (by omega); omega
    have e9 := (k7 hk2).2
    refine ⟨by omega, fun z => absurd h10 z, fun _ => ?_⟩
    rw [e9]
    refine s_M_is (by omega) hlo hhi (fun a b => Or.inr ⟨rfl, ?_⟩) (fun a => Or.inl ⟨rfl, ?_⟩)
    · rintro x3 e3
      rw [e9] at e3
      subst e3
      exact ⟨by omega, fun z => absurd h10 z, fun _ => s_M_nextN h (fun σ1 a1 f1 => ⟨rfl, h1 hk2 a b σ1 a1 f1⟩)⟩
    · rw [k1]
      refine s_M_blame h10 (by decide) (fun σ1 F f _ => ⟨rfl, ?_⟩)
      rintro x3 e3
      exact ⟨by have := F.1; omega, fun _ => h2 hk2 (by omega) σ1 x3 F f, fun z => by have := F.1; omega⟩
  · have hk2 : ztK T n p ≠ 2 := fun z => q (k7 z).1
    rw [k1, ← ztF_S hK]
    refine s_M_blame h10 (by decide) (fun σ1 F f _ => ⟨rfl, by have := F.1; omega, fun _ => ?_, fun z => by have := F.1; omega⟩)
    rintro x3 e3
    exact ⟨by have := F.1; omega, fun _ => h0 hk2 σ1 x3 F f, fun z => by have := F.1; omega⟩
/-- one of some own words -/
theorem s_M_colour {T : Nat → Int} {n p : Nat} (h : zmP σ T n p) (h1 : ztK T n p = 0 → 12 ≤ ztV T n p → ztV T n p ≤ 15 → ∀ σ', zmN σ' T n (ztE T n p) → zfq σ σ' → X (some (iZ (yco (ztV T n p - 12)))) σ') (h0 : ¬ (ztK T n p = 0 ∧ 12 ≤ ztV T n p ∧ ztV T n p ≤ 15) → ∀ σ' x, zmFt σ' 1 (ztF T n p) → zfq σ σ' → X (some (iZ x)) σ') : MS G zm_M_colour 3 [zr G 58] σ X := by
  have h10 := h.2.1
  have yes : ∀ i c : Int, yIs T n p 0 i → 12 ≤ i → i ≤ 15 → c = yco (i - 12) → c ≠ 0 → c < 8 → 0 ≤ c → b_M_colour_58 G X c σ := fun i c hi a b hc c0 c8 cn => by
    refine ⟨by omega, fun _ => ⟨by omega, fun z => absurd h10 z, fun _ => s_M_nextN h (fun σ1 a1 f1 => ⟨rfl, ?_⟩)⟩, fun z => absurd z c0⟩
    have := h1 hi.1 (by rw [hi.2]; exact a) (by rw [hi.2]; exact b) σ1 a1 f1
    rw [hi.2, ← hc] at this; exact this
  refine k_M_colour (s_M_isWord h (i := 12) (zow_w (by rfl) (by decide)) (by decide) (by decide) (fun q => Or.inr ⟨rfl, yes 12 1 q (by decide) (by decide) (by decide) (by decide) (by decide) (by decide)⟩) (fun q12 => Or.inl ⟨rfl, ?_⟩))
  refine s_M_isWord h (i := 13) (zow_w (by rfl) (by decide)) (by decide) (by decide) (fun q => Or.inr ⟨rfl, yes 13 2 q (by decide) (by decide) (by decide) (by decide) (by decide) (by decide)⟩) (fun q13 => Or.inl ⟨rfl, ?_⟩)
  refine s_M_isWord h (i := 14) (zow_w (by rfl) (by decide)) (by decide) (by decide) (fun q => Or.inr ⟨rfl, yes 14 4 q (by decide) (by decide) (by decide) (by decide) (by decide) (by decide)⟩) (fun q14 => Or.inl ⟨rfl, ?_⟩)
  refine s_M_isWord h (i := 15) (zow_w (by rfl) (by decide)) (by decide) (by decide) (fun q => Or.inr ⟨rfl, yes 15 7 q (by decide) (by decide) (by decide) (by decide) (by decide) (by decide)⟩) (fun q15 => Or.inl ⟨rfl, ?_⟩)
  refine ⟨by decide, fun z => absurd rfl z, fun _ => ?_⟩
  rw [h.2.2.2.1.1, ← ztF_S h.2.2.2.2]
  refine s_M_blame h10 (by decide) (fun σ1 F f _ => ⟨rfl, by have := F.1; omega, fun _ => h0 (fun z => ?_) σ1 0 F f, fun z => by have := F.1; omega⟩)
  unfold yIs at q12 q13 q14 q15
  omega
theorem s_M_ways {T : Nat → Int} {n p : Nat} (h : zmP σ T n p) (h1 : ztK T n p = 0 → 16 ≤ ztV T n p → ztV T n p ≤ 19 → ∀ σ', zmN σ' T n (ztE T n p) → zfq σ σ' → X (some (iZ (ztV T n p - 16))) σ') (h0 : ¬ (ztK T n p = 0 ∧ 16 ≤ ztV T n p ∧ ztV T n p ≤ 19) → ∀ σ' x, zmFt σ' 1 (ztF T n p) → zfq σ σ' → X (some (iZ x)) σ') : MS G zm_M_ways 3 [zr G 58] σ X := by
  have h10 := h.2.1
  have yes : ∀ i c : Int, yIs T n p 0 i → 16 ≤ i → i ≤ 19 → c = i - 16 → b_M_ways_57 G X c σ := fun i c hi a b hc => by
    refine ⟨by omega, fun _ => ⟨by omega, fun z => absurd h10 z, fun _ => s_M_nextN h (fun σ1 a1 f1 => ⟨rfl, ?_⟩)⟩, fun z => by omega⟩
    have := h1 hi.1 (by rw [hi.2]; exact a) (by rw [hi.2]; exact b) σ1 a1 f1
    rw [hi.2, ← hc] at this; exact this
  refine k_M_ways (s_M_isWord h (i := 16) (zow_w (by rfl) (by decide)) (by decide) (by decide) (fun q => Or.inr ⟨rfl, yes 16 0 q (by decide) (by decide) (by decide)⟩) (fun q16 => Or.inl ⟨rfl, ?_⟩))
  refine s_M_isWord h (i := 17) (zow_w (by rfl) (by decide)) (by decide) (by decide) (fun q => Or.inr ⟨rfl, yes 17 1 q (by decide) (by decide) (by decide)⟩) (fun q17 => Or.inl ⟨rfl, ?_⟩)
  refine s_M_isWord h (i := 18) (zow_w (by rfl) (by decide)) (by decide) (by decide) (fun q => Or.inr ⟨rfl, yes 18 2 q (by decide) (by decide) (by decide)⟩) (fun q18 => Or.inl ⟨rfl, ?_⟩)
  refine s_M_isWord h (i := 19) (zow_w (by rfl) (by decide)) (by decide) (by decide) (fun q => Or.inr ⟨rfl, yes 19 3 q (by decide) (by decide) (by decide)⟩) (fun q19 => Or.inl ⟨rfl, ?_⟩)
  refine ⟨by decide, fun z => absurd rfl z, fun _ => ?_⟩
  rw [h.2.2.2.1.1, ← ztF_S h.2.2.2.2]
  refine s_M_blame h10 (by decide) (fun σ1 F f _ => ⟨rfl, by have := F.1; omega, fun _ => h0 (fun z => ?_) σ1 (-1) F f, fun z => by have := F.1; omega⟩)
  unfold yIs at q16 q17 q18 q19
  omega
theorem s_M_forms {T : Nat → Int} {n p : Nat} (h : zmP σ T n p) (h1 : ztK T n p = 0 → 20 ≤ ztV T n p → ztV T n p ≤ 21 → ∀ σ', zmN σ' T n (ztE T n p) → zfq σ σ' → X (some (iZ (ztV T n p - 20))) σ') (h0 : ¬ (ztK T n p = 0 ∧ 20 ≤ ztV T n p ∧ ztV T n p ≤ 21) → ∀ σ' x, zmFt σ' 1 (ztF T n p) → zfq σ σ' → X (some (iZ x)) σ') : MS G zm_M_forms 3 [zr G 58] σ X := by
  have h10 := h.2.1
  have yes : ∀ i c : Int, yIs T n p 0 i → 20 ≤ i → i ≤ 21 → c = i - 20 → b_M_forms_29 G X c σ := fun i c hi a b hc => by
    refine ⟨by omega, fun _ => ⟨by omega, fun z => absurd h10 z, fun _ => s_M_nextN h (fun σ1 a1 f1 => ⟨rfl, ?_⟩)⟩, fun z => by omega⟩
    have := h1 hi.1 (by rw [hi.2]; exact a) (by rw [hi.2]; exact b) σ1 a1 f1
    rw [hi.2, ← hc] at this; exact this
  refine k_M_forms (s_M_isWord h (i := 20) (zow_w (by rfl) (by decide)) (by decide) (by decide) (fun q => Or.inr ⟨rfl, yes 20 0 q (by decide) (by decide) (by decide)⟩) (fun q20 => Or.inl ⟨rfl, ?_⟩))
  refine s_M_isWord h (i := 21) (zow_w (by rfl) (by decide)) (by decide) (by decide) (fun q => Or.inr ⟨rfl, yes 21 1 q (by decide) (by decide) (by decide)⟩) (fun q21 => Or.inl ⟨rfl, ?_⟩)
  refine ⟨by decide, fun z => absurd rfl z, fun _ => ?_⟩
  rw [h.2.2.2.1.1, ← ztF_S h.2.2.2.2]
  refine s_M_blame h10 (by decide) (fun σ1 F f _ => ⟨rfl, by have := F.1; omega, fun _ => h0 (fun z => ?_) σ1 (-1) F f, fun z => by have := F.1; omega⟩)
  unfold yIs at q20 q21
  omega
end MJ
