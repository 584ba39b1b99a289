section MK
variable {G : zG} {σ V D : zPH} {X : zX}
/-- the model reads: no fault, the token behind p is looked at -/
def zmP (σ : zPH) (T : Nat → Int) (n p : Nat) : Prop := zmX σ T n ∧ σ 58 10 = 0 ∧ p ≤ n ∧ zmk σ T n p ∧ ztK T n p ≠ 5
/-- the model has found a fault -/
def zmFt (σ : zPH) (k pl : Int) : Prop := σ 58 10 = k ∧ σ 58 11 = pl ∧ 0 < k ∧ k < 7
def zfq (σ σ' : zPH) : Prop := (∀ q, q ≠ 58 → σ' q = σ q) ∧ ∀ k, (k < 5 ∨ 12 < k) → σ' 58 k = σ 58 k
theorem zfq.rf {σ : zPH} : zfq σ σ := ⟨fun _ _ => rfl, fun _ _ => rfl⟩
theorem zfq.trans {σ σ1 σ2 : zPH} (h : zfq σ σ1) (h2 : zfq σ1 σ2) : zfq σ σ2 := ⟨fun q a => by rw [h2.1 q a, h.1 q a], fun k a => by rw [h2.2 k a, h.2 k a]⟩
theorem zfl.q {σ σ' : zPH} (h : zfl σ σ') : zfq σ σ' := ⟨h.1, fun k hk => h.2 k (by omega) (by omega) (by omega) (by omega) (by omega) (by omega)⟩
theorem s_M_blame {k pl : Int} (h10 : σ 58 10 = 0) (hk : 0 < k ∧ k < 7) (hX : ∀ σ', zmFt σ' k pl → zfq σ σ' → (∀ q, q ≠ 10 → q ≠ 11 → σ' 58 q = σ 58 q) → X none σ') : MS G zm_M_blame 0 [zr G 58, iZ k, iZ pl] σ X := by
  refine k_M_blame ⟨by omega, fun _ => ?_, fun z => by omega⟩
  rintro σ1 e1 σ2 e2
  exact hX σ2 ⟨by rw [e2, zupd_nk (by decide), e1, zupd_same], by rw [e2, zupd_same], hk⟩ ⟨fun q a => by rw [e2, zupd_row a, e1, zupd_row a], fun q a => by rw [e2, zupd_nk (by omega), e1, zupd_nk (by omega)]⟩ (fun q a b => by rw [e2, zupd_nk b, e1, zupd_nk a])
/-- blamed already -/
theorem s_M_blame' {k pl a b : Int} (h : zmFt σ a b) (hX : X none σ) : MS G zm_M_blame 0 [zr G 58, iZ k, iZ pl] σ X :=
  k_M_blame ⟨by have := h.1; have := h.2.2; omega, fun z => by have := h.1; have := h.2.2; omega, fun _ => hX⟩
theorem s_M_next0 {T : Nat → Int} {n p : Nat} (hx : zmX σ T n) (h10 : σ 58 10 = 0) (hp : p ≤ n) (h6 : σ 58 6 = (p : Int)) (h1 : ∀ σ', zmP σ' T n p → zfq σ σ' → X none σ') (h0 : ztK T n p = 5 → ∀ σ', zmFt σ' 1 (ztF T n p) → zfq σ σ' → X none σ') : MS G zm_M_next 2 [zr G 58] σ X := by
  refine k_M_next (s_M_looks hx h10 hp h6 (fun σ1 k1 f1 => ⟨rfl, ?_⟩))
  have x1 : zmX σ1 T n := hx.to (f1.1 59 (by decide)) (f1.2 4 (by decide) (by decide) (by decide) (by decide) (by decide) (by decide)) (f1.2 11 (by decide) (by decide) (by decide) (by decide) (by decide) (by decide))
  have g10 : σ1 58 10 = 0 := by rw [f1.2 10 (by decide) (by decide) (by decide) (by decide) (by decide) (by decide)]; exact h10
  by_cases q : ztK T n p = 5
  · have e := (k1.2.1 q).1
    have hF : (ztF T n p : Int) ≠ -1 ∧ (ztF T n p : Int) ≤ 3000 := by
      have := (ztS_s (T := T) hp).1
      have := hx.2.2.1
      unfold ztF; split
      · split <;> omega
      · omega
    rw [e]
    exact ⟨by omega, fun z => absurd z hF.1, fun _ => s_M_blame g10 (by decide) (fun σ2 F2 f2 _ => ⟨rfl, h0 q σ2 F2 (f1.q.trans f2)⟩)⟩
  · have e := (k1.2.2.1 q).1
    rw [e]
    exact ⟨by decide, fun _ => h1 σ1 ⟨x1, g10, hp, k1, q⟩ f1.q, fun z => absurd rfl z⟩
theorem s_M_next {T : Nat → Int} {n p : Nat} (h : zmP σ T n p) (h1 : ∀ σ', zmP σ' T n (ztE T n p) → zfq σ σ' → X none σ') (h0 : ztK T n (ztE T n p) = 5 → ∀ σ', zmFt σ' 1 (ztF T n (ztE T n p)) → zfq σ σ' → X none σ') : MS G zm_M_next 2 [zr G 58] σ X :=
  s_M_next0 h.1 h.2.1 (ztE_s h.2.2.1).2.1 (h.2.2.2.1.2.2.1 h.2.2.2.2).2 h1 h0
theorem s_M_isWord {T : Nat → Int} {n p : Nat} (h : zmP σ T n p) {w i : Int} (hw : ∀ x : Int, x = w ↔ zow x = i) (hi : 0 ≤ i) (hJ : zJ w) (h1 : yIs T n p 0 i → X (some (iZ 1)) σ) (h0 : ¬ yIs T n p 0 i → X (some (iZ 0)) σ) : MS G zm_M_isWord 0 [zr G 58, lZ w] σ X := by
  obtain ⟨-, h10, hp, ⟨k1, k2, k3, k4, k5, k6, k7, k8, k9, k10, k11⟩, hK⟩ := h
  have hcs : ztK T n p = 0 ∨ ztK T n p = 1 ∨ ztK T n p = 2 ∨ ztK T n p = 3 ∨ ztK T n p = 4 := by
    have : ztK T n p = 0 ∨ ztK T n p = 1 ∨ ztK T n p = 2 ∨ ztK T n p = 3 ∨ ztK T n p = 4 ∨ ztK T n p = 5 := by
      unfold ztK
      split
      · omega
      · split
        · split
          · omega
          · split
            · omega
            · split <;> omega
        · split
          · split
            · omega
            · split <;> omega
          · omega
    omega
  unfold yIs at h1 h0
  refine k_M_isWord ⟨by omega, fun z => absurd h10 z, fun _ => ⟨by omega, fun z => h0 (fun y => z (k5 y.1).1), fun z => ⟨⟨by omega, hJ⟩, fun y => h0 (fun u => y ((hw _).mpr (by rw [(k5 u.1).2]; exact u.2))), fun y => ?_⟩⟩⟩
  have hz := (hw _).mp y
  rcases hcs with u | u | u | u | u
  · exact h1 ⟨u, by rw [← (k5 u).2]; exact hz⟩
  · have := (k6 u).2.1; omega
  · have := (k7 u).1; omega
  · have := k8 u; omega
  · have := k4 u; omega
theorem s_M_isSign {T : Nat → Int} {n p : Nat} (h : zmP σ T n p) {c : Int} (hc : zI c) (hc0 : c ≠ -1) (h1 : yIs T n p 3 c → X (some (iZ 1)) σ) (h0 : ¬ yIs T n p 3 c → X (some (iZ 0)) σ) : MS G zm_M_isSign 1 [zr G 58, iZ c] σ X := by
  obtain ⟨hx, h10, hp, ⟨k1, k2, k3, k4, k5, k6, k7, k8, k9, k10, k11⟩, hK⟩ := h
  have hs := (ztS_s (T := T) hp).1
  have hn := hx.2.2.1
  have br := zba_r hx (ztS T n p : Int)
  unfold yIs at h1 h0
  refine k_M_isSign ⟨by omega, fun z => absurd h10 z, fun _ => ⟨by omega, fun z => h0 (fun y => z (k8 y.1)), fun z => ?_⟩⟩
  have h3 : ztK T n p = 3 := by
    by_cases a0 : ztK T n p = 0
    · have := (k5 a0).1; omega
    · by_cases a1 : ztK T n p = 1
      · have := (k6 a1).1; omega
      · by_cases a2 : ztK T n p = 2
        · have := (k7 a2).1; omega
        · by_cases a4 : ztK T n p = 4
          · have := k4 a4; omega
          · unfold ztK at *
            split at a4
            · exact absurd rfl a4
            · rename_i q1
              rw [if_neg q1] at a0 a1 a2 hK ⊢
              by_cases q2 : zleB (T (ztS T n p)) = true
              · rw [if_pos q2] at a0 a1 a2 hK
                split at hK
                · exact absurd rfl hK
                · rename_i q3
                  rw [if_neg q3] at a0 a1
                  split at a0
                  · exact absurd rfl a0
                  · rename_i q4
                    rw [if_neg q4] at a1 hK
                    split at a1
                    · rename_i q5; rw [if_pos q5] at hK; exact absurd rfl hK
                    · exact absurd rfl a1
              · rw [if_neg q2] at a2 hK ⊢
                by_cases q3 : zdiB (T (ztS T n p)) = true
                · rw [if_pos q3] at a2 hK
                  split at hK
                  · exact absurd rfl hK
                  · rename_i q4
                    rw [if_neg q4] at a2
                    split at a2
                    · rename_i q5; rw [if_pos q5] at hK; exact absurd rfl hK
                    · exact absurd rfl a2
                · rw [if_neg q3]
  have hlt : ztS T n p < n := by
    by_cases q : n ≤ ztS T n p
    · unfold ztK at h3; rw [if_pos q] at h3; exact absurd h3 (by decide)
    · omega
  have hv : ztV T n p = T (ztS T n p) := by unfold ztV; rw [if_neg (by omega), if_neg (by omega), if_neg (by omega), if_pos h3]
  rw [k1]
  refine s_M_byteAt hx (by omega) ⟨_, rfl, ⟨by omega, hc⟩, ?_, ?_⟩
  · rw [zba_n hlt]; exact fun y => h0 (fun u => y (by rw [← hv]; exact u.2))
  · rw [zba_n hlt]; exact fun y => h1 ⟨h3, by rw [hv]; exact y⟩
end MK
