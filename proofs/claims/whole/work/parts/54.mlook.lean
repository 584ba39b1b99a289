section ML
variable {G : zG} {σ V D : zPH} {X : zX}
theorem zor_256 {a b : Int} (ha : 0 ≤ a) (hb : 0 ≤ b ∧ b < 256) : zor (a * 256) b = 256 * a + b := by
  have h := Nat.two_pow_add_eq_or_of_lt (show b.toNat < 2 ^ 8 by omega) a.toNat
  unfold zor
  rw [show (a * 256).toNat = 2 ^ 8 * a.toNat by omega, ← h]
  omega
theorem zpkw_lo {T : Nat → Int} {s k : Nat} (h : ∀ j, j < k + 1 → 97 ≤ T (s + j) ∧ T (s + j) ≤ 122) : 97 * 256 ^ k ≤ zpkw T s (k + 1) ∧ zpkw T s (k + 1) + 1 ≤ 123 * 256 ^ k := by
  induction k with
  | zero => have := h 0 (by omega); simp [zpkw] at this ⊢; omega
  | succ k ih =>
    have a := ih (fun j hj => h j (by omega))
    have b := h (k + 1) (by omega)
    rw [Int.pow_succ]
    simp only [zpkw] at a ⊢
    generalize (256 : Int) ^ k = e at *
    omega
theorem zpkw_8 {T : Nat → Int} {s k : Nat} (h : ∀ j, j < k → 97 ≤ T (s + j) ∧ T (s + j) ≤ 122) (hk : 8 ≤ k) : 72057594037927936 ≤ zpkw T s k := by
  obtain ⟨k, rfl⟩ : ∃ k', k = k' + 1 := ⟨k - 1, by omega⟩
  have a := (zpkw_lo h).1
  have b : (256 : Int) ^ 7 ≤ 256 ^ k := by
    have := Nat.pow_le_pow_right (n := 256) (by decide) (show 7 ≤ k by omega)
    have e : ∀ m : Nat, (256 : Int) ^ m = ((256 ^ m : Nat) : Int) := fun m => by rw [Int.natCast_pow]; rfl
    rw [e, e]; omega
  rw [show (256 : Int) ^ 7 = 72057594037927936 from rfl] at b
  omega
theorem zpkw_J {T : Nat → Int} {s k : Nat} (h : ∀ j, j < k → 97 ≤ T (s + j) ∧ T (s + j) ≤ 122) (hk : k ≤ 8) : 0 ≤ zpkw T s k ∧ zpkw T s k < 9223372036854775808 := by
  refine ⟨(zpkw_r h).1, ?_⟩
  cases k with
  | zero => simp [zpkw]
  | succ k =>
    have a := (zpkw_lo h).2
    have b : (256 : Int) ^ k ≤ 256 ^ 7 := by
      have := Nat.pow_le_pow_right (n := 256) (by decide) (show k ≤ 7 by omega)
      have e : ∀ m : Nat, (256 : Int) ^ m = ((256 ^ m : Nat) : Int) := fun m => by rw [Int.natCast_pow]; rfl
      rw [e, e]; omega
    rw [show (256 : Int) ^ 7 = 72057594037927936 from rfl] at b
    omega
set_option maxHeartbeats 4000000 in
theorem s_M_isOwn {w : Int} (hJ : zJ w) (h1 : zow w ≠ -1 → X (some (iZ 1)) σ) (h0 : zow w = -1 → X (some (iZ 0)) σ) : MS G zm_M_isOwn 0 [lZ w] σ X := by
  refine k_M_isOwn ?_
  unfold w_M_isOwn
  repeat' (first | exact hJ | apply And.intro | intro _)
  all_goals first | (rename_i q; exact h1 (by rw [q]; decide)) | (exact h0 (by unfold zow; simp only [if_neg, *, not_false_eq_true, ne_eq]; rfl)) | (exact h0 (by simp [zow, *]))
theorem s_M_isLetter {c : Int} (hc : zI c) (h1 : zleB c = true → X (some (iZ 1)) σ) (h0 : ¬ zleB c = true → X (some (iZ 0)) σ) : MS G zm_M_isLetter 0 [iZ c] σ X := by
  rw [zleB_t] at h1 h0
  exact k_M_isLetter ⟨hc, fun q => h0 (by omega), fun q => ⟨hc, fun q2 => h0 (by omega), fun q2 => h1 ⟨q, q2⟩⟩⟩
theorem s_M_isDigit {c : Int} (hc : zI c) (h1 : zdiB c = true → X (some (iZ 1)) σ) (h0 : ¬ zdiB c = true → X (some (iZ 0)) σ) : MS G zm_M_isDigit 0 [iZ c] σ X := by
  rw [zdiB_t] at h1 h0
  exact k_M_isDigit ⟨hc, fun q => h0 (by omega), fun q => ⟨hc, fun q2 => h0 (by omega), fun q2 => h1 ⟨q, q2⟩⟩⟩
/-- the model's text -/
def zmX (σ : zPH) (T : Nat → Int) (n : Nat) : Prop := (∀ k, k < n → σ 59 k = T k) ∧ (σ 58 4 = (n : Int) ∧ σ 58 11 = -1) ∧ n ≤ 1600 ∧ ∀ k, 0 ≤ T k ∧ T k < 256
theorem zmX.to {σ σ' : zPH} {T : Nat → Int} {n : Nat} (h : zmX σ T n) (r : σ' 59 = σ 59) (r0 : σ' 58 4 = σ 58 4) (r1 : σ' 58 11 = σ 58 11) : zmX σ' T n := by
  unfold zmX at *
  rw [r, r0, r1]; exact h
def zba (T : Nat → Int) (n : Nat) (k : Int) : Int := if 0 ≤ k ∧ k < (n : Int) then T k.toNat else -1
theorem s_M_byteAt {T : Nat → Int} {n : Nat} (h : zmX σ T n) {k : Int} (hk : zI k) (hX : X (some (iZ (zba T n k))) σ) : MS G zm_M_byteAt 0 [zr G 58, iZ k] σ X := by
  obtain ⟨h1, h2, h3, h4⟩ := h
  unfold zba at hX
  refine k_M_byteAt ⟨hk, fun q => ?_, fun q => ⟨by omega, fun q2 => ?_, fun q2 => ⟨by omega, ?_⟩⟩⟩
  · rw [if_neg (by omega)] at hX; exact hX
  · rw [if_neg (by omega)] at hX; exact hX
  · rw [if_pos (by omega)] at hX
    rw [h1 _ (by omega)]; exact hX
theorem zba_n {T : Nat → Int} {n k : Nat} (hk : k < n) : zba T n (k : Int) = T k := by unfold zba; rw [if_pos (by omega), Int.toNat_natCast]
theorem zba_e {T : Nat → Int} {n k : Nat} (hk : ¬ k < n) : zba T n (k : Int) = -1 := by unfold zba; rw [if_neg (by omega)]
theorem zba_r {σ : zPH} {T : Nat → Int} {n : Nat} (h : zmX σ T n) (k : Int) : -1 ≤ zba T n k ∧ zba T n k < 256 := by
  unfold zba; split
  · have := h.2.2.2 k.toNat; omega
  · omega
/-- the token as the model keeps it -/
def zmk (σ : zPH) (T : Nat → Int) (n p : Nat) : Prop := σ 58 5 = (ztS T n p : Int) ∧ (ztK T n p = 5 → σ 58 12 = (ztF T n p : Int) ∧ σ 58 7 ≠ 0) ∧ (ztK T n p ≠ 5 → σ 58 12 = -1 ∧ σ 58 6 = (ztE T n p : Int)) ∧ (ztK T n p = 4 → σ 58 7 = 0) ∧ (ztK T n p = 0 → σ 58 7 = 1 ∧ zow (σ 58 8) = ztV T n p) ∧ (ztK T n p = 1 → σ 58 7 = 1 ∧ zow (σ 58 8) = -1 ∧ zWd (ztV T n p) (σ 58 8)) ∧ (ztK T n p = 2 → σ 58 7 = 2 ∧ σ 58 9 = ztV T n p) ∧ (ztK T n p = 3 → σ 58 7 = 3) ∧ (0 ≤ σ 58 8 ∧ σ 58 8 < 9223372036854775808) ∧ (0 ≤ σ 58 9 ∧ σ 58 9 < 100000) ∧ (0 ≤ σ 58 7 ∧ σ 58 7 ≤ 3)
/-- only the token has changed -/
def zfl (σ σ' : zPH) : Prop := (∀ q, q ≠ 58 → σ' q = σ q) ∧ ∀ k, k ≠ 5 → k ≠ 6 → k ≠ 7 → k ≠ 8 → k ≠ 9 → k ≠ 12 → σ' 58 k = σ 58 k
theorem zfl.u {σ σ1 σ2 : zPH} {k : Nat} {x : Int} (h : zfl σ σ1) (e : σ2 = zupd σ1 58 k x) (hk : k = 5 ∨ k = 6 ∨ k = 7 ∨ k = 8 ∨ k = 9 ∨ k = 12) : zfl σ σ2 := ⟨fun q a => by rw [e, zupd_row a, h.1 q a], fun j a b c d f g => by rw [e, zupd_nk (by omega), h.2 j a b c d f g]⟩
theorem zfl.rf {σ : zPH} : zfl σ σ := ⟨fun _ _ => rfl, fun _ _ _ _ _ _ _ => rfl⟩
end ML
