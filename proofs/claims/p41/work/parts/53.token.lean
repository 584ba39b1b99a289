/-! The text's tokens: from a place p (behind the token ahead) blanks, then the token -/
def zblB (c : Int) : Bool := c == 32 || c == 10
def zleB (c : Int) : Bool := decide (97 ≤ c) && decide (c ≤ 122)
def zdiB (c : Int) : Bool := decide (48 ≤ c) && decide (c ≤ 57)
theorem zblB_t {c : Int} : zblB c = true ↔ c = 32 ∨ c = 10 := by simp [zblB]
theorem zleB_t {c : Int} : zleB c = true ↔ 97 ≤ c ∧ c ≤ 122 := by simp [zleB]
theorem zdiB_t {c : Int} : zdiB c = true ↔ 48 ≤ c ∧ c ≤ 57 := by simp [zdiB]
/-- as far as the bytes are such -/
def zrn (P : Int → Bool) (T : Nat → Int) (n : Nat) : Nat → Nat → Nat
  | 0, i => i
  | f + 1, i => if i < n ∧ P (T i) = true then zrn P T n f (i + 1) else i
def zrE (P : Int → Bool) (T : Nat → Int) (n i : Nat) : Nat := zrn P T n (n - i) i
theorem zrn_s {P : Int → Bool} {T : Nat → Int} {n : Nat} : ∀ f i, i ≤ n → n - i ≤ f → (i ≤ zrn P T n f i ∧ zrn P T n f i ≤ n) ∧ (∀ k, i ≤ k → k < zrn P T n f i → P (T k) = true) ∧ (zrn P T n f i < n → ¬ P (T (zrn P T n f i)) = true) := by
  intro f
  induction f with
  | zero => intro i hi hf; exact ⟨⟨Nat.le_refl _, hi⟩, fun k h1 h2 => by simp [zrn] at h2; omega, fun h => by simp [zrn] at h; omega⟩
  | succ f ih =>
    intro i hi hf
    simp only [zrn]
    split
    · rename_i h
      obtain ⟨⟨a, b⟩, c, d⟩ := ih (i + 1) (by omega) (by omega)
      refine ⟨⟨by omega, b⟩, fun k h1 h2 => ?_, d⟩
      by_cases q : k = i
      · rw [q]; exact h.2
      · exact c k (by omega) h2
    · rename_i h
      exact ⟨⟨Nat.le_refl _, hi⟩, fun k h1 h2 => by omega, fun h1 h2 => h ⟨h1, h2⟩⟩
theorem zrE_s {P : Int → Bool} {T : Nat → Int} {n i : Nat} (hi : i ≤ n) : (i ≤ zrE P T n i ∧ zrE P T n i ≤ n) ∧ (∀ k, i ≤ k → k < zrE P T n i → P (T k) = true) ∧ (zrE P T n i < n → ¬ P (T (zrE P T n i)) = true) := zrn_s _ _ hi (Nat.le_refl _)
theorem zrE_u {P : Int → Bool} {T : Nat → Int} {n i j : Nat} (hi : i ≤ j ∧ j ≤ n) (h1 : ∀ k, i ≤ k → k < j → P (T k) = true) (h2 : j < n → ¬ P (T j) = true) : zrE P T n i = j := by
  obtain ⟨⟨a, b⟩, c, d⟩ := zrE_s (P := P) (T := T) (n := n) (i := i) (by omega)
  rcases Nat.lt_trichotomy (zrE P T n i) j with q | q | q
  · exact absurd (h1 _ a q) (d (by omega))
  · exact q
  · exact absurd (c j hi.1 q) (h2 (by omega))
/-- letters, eight bits each; twenty-seven a letter; digits -/
def zpkw (T : Nat → Int) (s : Nat) : Nat → Int
  | 0 => 0
  | k + 1 => 256 * zpkw T s k + T (s + k)
def zpkn (T : Nat → Int) (s : Nat) : Nat → Int
  | 0 => 0
  | k + 1 => 27 * zpkn T s k + (T (s + k) - 96)
def zpkd (T : Nat → Int) (s : Nat) : Nat → Int
  | 0 => 0
  | k + 1 => 10 * zpkd T s k + (T (s + k) - 48)
/-- the number of an own word -/
def zow (w : Int) : Int := if w = 1936292453 then 0 else if w = 1818324336 then 1 else if w = 120299659095922 then 2 else if w = 1751215206 then 3 else if w = 444199957363 then 4 else if w = 482955850605 then 5 else if w = 2002873452 then 6 else if w = 6650213 then 7 else if w = 32484475995972978 then 8 else if w = 1986096741 then 9 else if w = 24948 then 10 else if w = 2003330414 then 11 else if w = 7497060 then 12 else if w = 444300879214 then 13 else if w = 1651275109 then 14 else if w = 512852849765 then 15 else if w = 30064 then 16 else if w = 491394656372 then 17 else if w = 1685026670 then 18 else if w = 1818584692 then 19 else if w = 495739564904 then 20 else if w = 1650549611 then 21 else if w = 28530 then 22 else if w = 6385252 then 23 else if w = 7237492 then 24 else if w = 6384748 then 25 else if w = 1936024947 then 26 else -1
theorem zow_r (w : Int) : -1 ≤ zow w ∧ zow w ≤ 26 := by
  unfold zow
  by_cases q0 : w = 1936292453
  · rw [if_pos q0]; decide
  rw [if_neg q0]
  by_cases q1 : w = 1818324336
  · rw [if_pos q1]; decide
  rw [if_neg q1]
  by_cases q2 : w = 120299659095922
  · rw [if_pos q2]; decide
  rw [if_neg q2]
  by_cases q3 : w = 1751215206
  · rw [if_pos q3]; decide
  rw [if_neg q3]
  by_cases q4 : w = 444199957363
  · rw [if_pos q4]; decide
  rw [if_neg q4]
  by_cases q5 : w = 482955850605
  · rw [if_pos q5]; decide
  rw [if_neg q5]
  by_cases q6 : w = 2002873452
  · rw [if_pos q6]; decide
  rw [if_neg q6]
  by_cases q7 : w = 6650213
  · rw [if_pos q7]; decide
  rw [if_neg q7]
  by_cases q8 : w = 32484475995972978
  · rw [if_pos q8]; decide
  rw [if_neg q8]
  by_cases q9 : w = 1986096741
  · rw [if_pos q9]; decide
  rw [if_neg q9]
  by_cases q10 : w = 24948
  · rw [if_pos q10]; decide
  rw [if_neg q10]
  by_cases q11 : w = 2003330414
  · rw [if_pos q11]; decide
  rw [if_neg q11]
  by_cases q12 : w = 7497060
  · rw [if_pos q12]; decide
  rw [if_neg q12]
  by_cases q13 : w = 444300879214
  · rw [if_pos q13]; decide
  rw [if_neg q13]
  by_cases q14 : w = 1651275109
  · rw [if_pos q14]; decide
  rw [if_neg q14]
  by_cases q15 : w = 512852849765
  · rw [if_pos q15]; decide
  rw [if_neg q15]
  by_cases q16 : w = 30064
  · rw [if_pos q16]; decide
  rw [if_neg q16]
  by_cases q17 : w = 491394656372
  · rw [if_pos q17]; decide
  rw [if_neg q17]
  by_cases q18 : w = 1685026670
  · rw [if_pos q18]; decide
  rw [if_neg q18]
  by_cases q19 : w = 1818584692
  · rw [if_pos q19]; decide
  rw [if_neg q19]
  by_cases q20 : w = 495739564904
  · rw [if_pos q20]; decide
  rw [if_neg q20]
  by_cases q21 : w = 1650549611
  · rw [if_pos q21]; decide
  rw [if_neg q21]
  by_cases q22 : w = 28530
  · rw [if_pos q22]; decide
  rw [if_neg q22]
  by_cases q23 : w = 6385252
  · rw [if_pos q23]; decide
  rw [if_neg q23]
  by_cases q24 : w = 7237492
  · rw [if_pos q24]; decide
  rw [if_neg q24]
  by_cases q25 : w = 6384748
  · rw [if_pos q25]; decide
  rw [if_neg q25]
  by_cases q26 : w = 1936024947
  · rw [if_pos q26]; decide
  rw [if_neg q26]
  decide
/-- a token: kind (0 own word, 1 name, 2 number, 3 sign, 4 end, 5 none), value, where it starts, where its fault is, where it ends -/
def ztS (T : Nat → Int) (n p : Nat) : Nat := zrE zblB T n p
def ztM (T : Nat → Int) (s : Nat) : Bool := decide (0 < s) && (zleB (T (s - 1)) || zdiB (T (s - 1)))
def ztE (T : Nat → Int) (n p : Nat) : Nat := if n ≤ ztS T n p then n else if zleB (T (ztS T n p)) = true then zrE zleB T n (ztS T n p) else if zdiB (T (ztS T n p)) = true then zrE zdiB T n (ztS T n p) else ztS T n p + 1
def ztK (T : Nat → Int) (n p : Nat) : Int := if n ≤ ztS T n p then 4 else if zleB (T (ztS T n p)) = true then (if ztM T (ztS T n p) = true then 5 else if zow (zpkw T (ztS T n p) (ztE T n p - ztS T n p)) ≠ -1 then 0 else if 6 < ztE T n p - ztS T n p then 5 else 1) else if zdiB (T (ztS T n p)) = true then (if ztM T (ztS T n p) = true then 5 else if 4 < ztE T n p - ztS T n p then 5 else 2) else 3
def ztV (T : Nat → Int) (n p : Nat) : Int := if ztK T n p = 0 then zow (zpkw T (ztS T n p) (ztE T n p - ztS T n p)) else if ztK T n p = 1 then zpkn T (ztS T n p) (ztE T n p - ztS T n p) else if ztK T n p = 2 then zpkd T (ztS T n p) (ztE T n p - ztS T n p) else if ztK T n p = 3 then T (ztS T n p) else -1
def ztF (T : Nat → Int) (n p : Nat) : Nat := if ztK T n p = 5 ∧ ¬ ztM T (ztS T n p) = true then (if zleB (T (ztS T n p)) = true then ztS T n p + 6 else ztS T n p + 4) else ztS T n p
theorem ztS_s {T : Nat → Int} {n p : Nat} (hp : p ≤ n) : (p ≤ ztS T n p ∧ ztS T n p ≤ n) ∧ (∀ k, p ≤ k → k < ztS T n p → T k = 32 ∨ T k = 10) ∧ (ztS T n p < n → ¬ (T (ztS T n p) = 32 ∨ T (ztS T n p) = 10)) := by
  obtain ⟨a, b, c⟩ := zrE_s (P := zblB) (T := T) hp
  exact ⟨a, fun k h1 h2 => zblB_t.mp (b k h1 h2), fun h hn => c h (zblB_t.mpr hn)⟩
theorem ztE_s {T : Nat → Int} {n p : Nat} (hp : p ≤ n) : ztS T n p ≤ ztE T n p ∧ ztE T n p ≤ n ∧ (ztS T n p < n → ztS T n p < ztE T n p) := by
  obtain ⟨⟨a, b⟩, -⟩ := ztS_s (T := T) hp
  unfold ztE
  split
  · rename_i h; exact ⟨b, Nat.le_refl _, fun z => by omega⟩
  · rename_i h
    split
    · rename_i h2
      obtain ⟨⟨c, d⟩, e, f⟩ := zrE_s (P := zleB) (T := T) (n := n) (i := ztS T n p) b
      refine ⟨c, d, fun _ => ?_⟩
      by_cases q : zrE zleB T n (ztS T n p) = ztS T n p
      · rw [q] at f; exact absurd h2 (f (by omega))
      · omega
    · split
      · rename_i h3
        obtain ⟨⟨c, d⟩, e, f⟩ := zrE_s (P := zdiB) (T := T) (n := n) (i := ztS T n p) b
        refine ⟨c, d, fun _ => ?_⟩
        by_cases q : zrE zdiB T n (ztS T n p) = ztS T n p
        · rw [q] at f; exact absurd h3 (f (by omega))
        · omega
      · exact ⟨by omega, by omega, fun _ => by omega⟩
theorem zpkw_nn {T : Nat → Int} {s k : Nat} (h : ∀ j, j < k → 0 ≤ T (s + j)) : 0 ≤ zpkw T s k := by
  induction k with
  | zero => exact Int.le_refl _
  | succ k ih => simp only [zpkw]; have := ih (fun j hj => h j (by omega)); have := h k (by omega); omega
theorem zpkw_inj {A B : Nat → Int} {s t : Nat} : ∀ k m, (∀ j, j < k → 97 ≤ A (s + j) ∧ A (s + j) ≤ 122) → (∀ j, j < m → 97 ≤ B (t + j) ∧ B (t + j) ≤ 122) → zpkw A s k = zpkw B t m → k = m ∧ ∀ j, j < k → A (s + j) = B (t + j) := by
  intro k
  induction k with
  | zero =>
    intro m _ hB h
    cases m with
    | zero => exact ⟨rfl, fun j hj => by omega⟩
    | succ m =>
      simp only [zpkw] at h
      have := zpkw_nn (T := B) (s := t) (k := m) (fun j hj => by have := hB j (by omega); omega)
      have := hB m (by omega)
      omega
  | succ k ih =>
    intro m hA hB h
    cases m with
    | zero =>
      simp only [zpkw] at h
      have := zpkw_nn (T := A) (s := s) (k := k) (fun j hj => by have := hA j (by omega); omega)
      have := hA k (by omega)
      omega
    | succ m =>
      simp only [zpkw] at h
      have a := hA k (by omega)
      have b := hB m (by omega)
      obtain ⟨e, f⟩ := ih m (fun j hj => hA j (by omega)) (fun j hj => hB j (by omega)) (by omega)
      subst e
      refine ⟨rfl, fun j hj => ?_⟩
      rcases (show j < k ∨ j = k by omega) with q | rfl
      · exact f j q
      · omega
theorem zpkn_r {T : Nat → Int} {s k : Nat} (h : ∀ j, j < k → 97 ≤ T (s + j) ∧ T (s + j) ≤ 122) : 0 ≤ zpkn T s k ∧ zpkn T s k < 27 ^ k := by
  induction k with
  | zero => simp [zpkn]
  | succ k ih => simp only [zpkn, Int.pow_succ]; have := ih (fun j hj => h j (by omega)); have := h k (by omega); omega
theorem zpkw_r {T : Nat → Int} {s k : Nat} (h : ∀ j, j < k → 97 ≤ T (s + j) ∧ T (s + j) ≤ 122) : 0 ≤ zpkw T s k ∧ zpkw T s k < 256 ^ k := by
  induction k with
  | zero => simp [zpkw]
  | succ k ih => simp only [zpkw, Int.pow_succ]; have := ih (fun j hj => h j (by omega)); have := h k (by omega); omega
theorem zpkd_r {T : Nat → Int} {s k : Nat} (h : ∀ j, j < k → 48 ≤ T (s + j) ∧ T (s + j) ≤ 57) : 0 ≤ zpkd T s k ∧ zpkd T s k < 10 ^ k := by
  induction k with
  | zero => simp [zpkd]
  | succ k ih => simp only [zpkd, Int.pow_succ]; have := ih (fun j hj => h j (by omega)); have := h k (by omega); omega
