/-- the class's text: bytes from 0 on -/
def zkT (σ : zPH) (T : Nat → Int) (n : Nat) : Prop := (∀ k, k < n → σ 1 k = T k) ∧ n ≤ 1600 ∧ ∀ k, 0 ≤ T k ∧ T k < 256
/-- the own words -/
def yws : List (List Int) := [[115, 105, 122, 101], [108, 97, 109, 112], [109, 105, 114, 114, 111, 114], [104, 97, 108, 102], [103, 108, 97, 115, 115], [112, 114, 105, 115, 109], [119, 97, 108, 108], [101, 121, 101], [115, 104, 117, 116, 116, 101, 114], [118, 97, 110, 101], [97, 116], [119, 104, 101, 110], [114, 101, 100], [103, 114, 101, 101, 110], [98, 108, 117, 101], [119, 104, 105, 116, 101], [117, 112], [114, 105, 103, 104, 116], [100, 111, 119, 110], [108, 101, 102, 116], [115, 108, 97, 115, 104], [98, 97, 99, 107], [111, 114], [97, 110, 100], [110, 111, 116], [97, 108, 108], [115, 101, 101, 115]]
/-- the search, over the chars that are left -/
def ysl (f : Nat → Int) (m : Int) : List Int → Int → Int → Int
  | [], _, _ => -1
  | c :: l, num, al => if c = 32 then (if al = m then num else ysl f m l (num + 1) 0) else if al = -1 then ysl f m l num (-1) else if al < m ∧ f al.toNat = c then ysl f m l num (al + 1) else ysl f m l num (-1)
theorem yws_c : (List.range 135).map zOwnC = (yws.map (· ++ [32])).flatten := by decide +kernel
theorem ysr_l {f : Nat → Int} {m : Int} : ∀ (r : Nat) (num al : Int), r ≤ 135 → ysr f m r num al = ysl f m (((List.range 135).map zOwnC).drop (135 - r)) num al := by
  intro r
  induction r with
  | zero => intro num al _; rw [List.drop_eq_nil_of_le (by simp)]; rfl
  | succ r ih =>
    intro num al hr
    have hlen : ((List.range 135).map zOwnC).length = 135 := by simp
    rw [List.drop_eq_getElem_cons (by rw [hlen]; omega)]
    have hg : ((List.range 135).map zOwnC)[135 - (r + 1)]'(by rw [hlen]; omega) = zOwnC (134 - r) := by
      rw [List.getElem_map, List.getElem_range, show 135 - (r + 1) = 134 - r by omega]
    rw [hg, show 135 - (r + 1) + 1 = 135 - r by omega]
    unfold ysr ysl
    rw [ih _ _ (by omega), ih _ _ (by omega), ih _ _ (by omega)]
theorem ysl_no {f : Nat → Int} {m : Int} (hm : 0 < m) {rest : List Int} : ∀ (w : List Int) (num : Int), (∀ c ∈ w, c ≠ 32) → ysl f m (w ++ 32 :: rest) num (-1) = ysl f m rest (num + 1) 0 := by
  intro w
  induction w with
  | nil => intro num _; show (if (32 : Int) = 32 then (if (-1 : Int) = m then num else ysl f m rest (num + 1) 0) else _) = _; rw [if_pos rfl, if_neg (by omega)]
  | cons c w ih =>
    intro num h
    have hc := h c (by simp)
    show (if c = 32 then _ else if (-1 : Int) = -1 then ysl f m (w ++ 32 :: rest) num (-1) else _) = _
    rw [if_neg hc, if_pos rfl]
    exact ih num (fun x hx => h x (by simp [hx]))
/-- the word w from place a on -/
def yhb (f : Nat → Int) (m : Int) (a : Nat) : List Int → Bool
  | [] => decide ((a : Int) = m)
  | c :: w => decide (f a = c) && yhb f m (a + 1) w
def yhas (f : Nat → Int) (m : Int) (a : Nat) (w : List Int) : Prop := yhb f m a w = true
theorem yhas_n {f : Nat → Int} {m : Int} {a : Nat} : yhas f m a [] ↔ (a : Int) = m := by unfold yhas yhb; simp
theorem yhas_c {f : Nat → Int} {m : Int} {a : Nat} {c : Int} {w : List Int} : yhas f m a (c :: w) ↔ f a = c ∧ yhas f m (a + 1) w := by
  unfold yhas; conv => lhs; unfold yhb
  simp
theorem yhas_lt {f : Nat → Int} {m : Int} : ∀ (w : List Int) (a : Nat), yhas f m a w → (a : Int) + w.length = m := by
  intro w
  induction w with
  | nil => intro a h; have := yhas_n.mp h; simpa using this
  | cons c w ih => intro a h; have := ih (a + 1) (yhas_c.mp h).2; simp at this ⊢; omega
theorem yi_t {f : Nat → Int} {m : Int} {a : Nat} {w : List Int} {A B : Int} (h : yhas f m a w) : (if yhb f m a w = true then A else B) = A := if_pos h
theorem yi_f {f : Nat → Int} {m : Int} {a : Nat} {w : List Int} {A B : Int} (h : ¬ yhas f m a w) : (if yhb f m a w = true then A else B) = B := if_neg h
theorem ysl_w {f : Nat → Int} {m : Int} (hm : 0 < m) {rest : List Int} : ∀ (w : List Int) (num : Int) (a : Nat), (∀ c ∈ w, c ≠ 32) → (a : Int) ≤ m → ysl f m (w ++ 32 :: rest) num (a : Int) = if yhb f m a w = true then num else ysl f m rest (num + 1) 0 := by
  intro w
  induction w with
  | nil =>
    intro num a _ _
    show (if (32 : Int) = 32 then (if (a : Int) = m then num else ysl f m rest (num + 1) 0) else _) = _
    rw [if_pos rfl]
    by_cases q : (a : Int) = m
    · rw [if_pos q, yi_t (yhas_n.mpr q)]
    · rw [if_neg q, yi_f (fun z => q (yhas_n.mp z))]
  | cons c w ih =>
    intro num a h ha
    have hc := h c (by simp)
    have hw : ∀ x ∈ w, x ≠ 32 := fun x hx => h x (by simp [hx])
    show (if c = 32 then _ else if (a : Int) = -1 then _ else if (a : Int) < m ∧ f (a : Int).toNat = c then ysl f m (w ++ 32 :: rest) num ((a : Int) + 1) else ysl f m (w ++ 32 :: rest) num (-1)) = _
    rw [if_neg hc, if_neg (by omega), Int.toNat_natCast]
    by_cases q : (a : Int) < m ∧ f a = c
    · rw [if_pos q, show (a : Int) + 1 = ((a + 1 : Nat) : Int) by omega, ih num (a + 1) hw (by omega)]
      by_cases y : yhas f m (a + 1) w
      · rw [yi_t y, yi_t (yhas_c.mpr ⟨q.2, y⟩)]
      · rw [yi_f y, yi_f (fun z => y (yhas_c.mp z).2)]
    · rw [if_neg q, ysl_no hm w num hw, if_neg]
      intro z
      have z' := yhas_c.mp (show yhas f m a (c :: w) from z)
      have := yhas_lt w (a + 1) z'.2
      exact q ⟨by omega, z'.1⟩
def yfc (P : Int) : List Int → Int → Int
  | [], _ => -1
  | c :: r, num => if P = c then num else yfc P r (num + 1)
theorem ysl_all {f : Nat → Int} {m : Int} (hm : 0 < m) (P : Int) (pk : List Int → Int) : ∀ (ws : List (List Int)) (num : Int), (∀ w ∈ ws, (∀ c ∈ w, c ≠ 32) ∧ (yhas f m 0 w ↔ P = pk w)) → ysl f m ((ws.map (· ++ [32])).flatten) num 0 = yfc P (ws.map pk) num := by
  intro ws
  induction ws with
  | nil => intro num _; rfl
  | cons w ws ih =>
    intro num h
    obtain ⟨h1, h2⟩ := h w (by simp)
    have e : ((w :: ws).map (· ++ [32])).flatten = w ++ 32 :: (ws.map (· ++ [32])).flatten := by simp
    rw [e]
    have := ysl_w hm (rest := (ws.map (· ++ [32])).flatten) w num 0 h1 (by omega) (f := f)
    rw [show ((0 : Nat) : Int) = 0 from rfl] at this
    rw [this]
    show _ = if P = pk w then num else yfc P (ws.map pk) (num + 1)
    by_cases q : P = pk w
    · rw [if_pos q, yi_t (h2.mpr q)]
    · rw [if_neg q, yi_f (fun z => q (h2.mp z))]
      exact ih (num + 1) (fun v hv => h v (by simp [hv]))
/-- a word packed -/
def ypk (w : List Int) : Int := zpkw (fun j => w.getD j 0) 0 w.length
theorem yhas_j {f : Nat → Int} {m : Int} : ∀ (w : List Int) (a : Nat), yhas f m a w ↔ ((a : Int) + w.length = m ∧ ∀ j, j < w.length → f (a + j) = w.getD j 0) := by
  intro w
  induction w with
  | nil => intro a; rw [yhas_n]; simp
  | cons c w ih =>
    intro a
    rw [yhas_c, ih (a + 1)]
    constructor
    · rintro ⟨h1, h2, h3⟩
      refine ⟨by simp at h2 ⊢; omega, fun j hj => ?_⟩
      cases j with
      | zero => exact h1
      | succ j => have := h3 j (by simp at hj; omega); rw [show a + (j + 1) = a + 1 + j by omega, this]; simp
    · rintro ⟨h2, h3⟩
      refine ⟨by have := h3 0 (by simp); simpa using this, by simp at h2 ⊢; omega, fun j hj => ?_⟩
      have := h3 (j + 1) (by simp; omega)
      rw [show a + (j + 1) = a + 1 + j by omega] at this
      rw [this]; simp
theorem yws_l : ∀ w ∈ yws, (∀ c ∈ w, c ≠ 32) ∧ ∀ c ∈ w, 97 ≤ c ∧ c ≤ 122 := by decide +kernel
theorem yws_p : yws.map ypk = [1936292453, 1818324336, 120299659095922, 1751215206, 444199957363, 482955850605, 2002873452, 6650213, 32484475995972978, 1986096741, 24948, 2003330414, 7497060, 444300879214, 1651275109, 512852849765, 30064, 491394656372, 1685026670, 1818584692, 495739564904, 1650549611, 28530, 6385252, 7237492, 6384748, 1936024947] := by decide +kernel
theorem ysr_ow {f T : Nat → Int} {s m : Nat} (hm : 0 < m) (hf : ∀ j, j < m → f j = T (s + j)) (hl : ∀ k, k < m → 97 ≤ T (s + k) ∧ T (s + k) ≤ 122) : ysr f (m : Int) 135 0 0 = zow (zpkw T s m) := by
  rw [ysr_l 135 0 0 (by decide), Nat.sub_self, List.drop_zero, yws_c, ysl_all (by omega) (zpkw T s m) ypk yws 0 (fun w hw => ⟨(yws_l w hw).1, ?_⟩), yws_p]
  · rfl
  · rw [yhas_j]
    have hlw : ∀ j, j < w.length → 97 ≤ (fun j => w.getD j 0) (0 + j) ∧ (fun j => w.getD j 0) (0 + j) ≤ 122 := fun j hj => by
      have := (yws_l w hw).2 (w[j]) (List.getElem_mem hj)
      simp only [Nat.zero_add, List.getD_eq_getElem?_getD, List.getElem?_eq_getElem hj, Option.getD_some]
      exact this
    constructor
    · rintro ⟨h1, h2⟩
      have hlen : m = w.length := by omega
      unfold ypk
      rw [← hlen]
      have : ∀ k, k ≤ m → zpkw T s k = zpkw (fun j => w.getD j 0) 0 k := by
        intro k
        induction k with
        | zero => intro _; rfl
        | succ k ih => intro hk; unfold zpkw; rw [ih (by omega)]; have := h2 k (by omega); rw [Nat.zero_add, hf k (by omega)] at this; simp only [Nat.zero_add]; rw [this]
      exact this m (Nat.le_refl _)
    · intro h
      obtain ⟨a, b⟩ := zpkw_inj (A := T) (B := fun j => w.getD j 0) (s := s) (t := 0) m w.length hl hlw h
      exact ⟨by omega, fun j hj => by have := b j (by omega); simp only [Nat.zero_add] at this ⊢; rw [hf j (by omega)]; exact this⟩
section KO
variable {G : zG} {σ : zPH} {X : zX} {T : Nat → Int} {n : Nat}
theorem s_K_ownWord {s m : Nat} (ht : zkT σ T n) (h8 : σ 8 5 = ((1 : Nat) : Int)) (hm : 0 < m) (hs : s + m ≤ n) (hl : ∀ k, k < m → 97 ≤ T (s + k) ∧ T (s + k) ≤ 122) (hX : X (some (iZ (zow (zpkw T s m)))) σ) : MS G zm_K_ownWord 6 [zr G 8, iZ (s : Int), iZ (m : Int)] σ X := by
  refine k_K_ownWord h8 hm (by have := ht.2.1; omega) (fun j hj => by rw [ht.1 (s + j) (by omega)]; exact ht.2.2 _) ?_
  rw [ysr_ow (T := T) (s := s) hm (fun j hj => ht.1 (s + j) (by omega)) hl]
  exact hX
end KO
