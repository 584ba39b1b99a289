abbrev zI (x : Int) : Prop := -2147483648 ≤ x ∧ x < 2147483648
abbrev zJ (x : Int) : Prop := -9223372036854775808 ≤ x ∧ x < 9223372036854775808
def zlp0 (B : (zPH → Prop) → zPH → Prop) : Nat → zPH → Prop
  | 0 => fun  _ => False
  | n + 1 => B (zlp0 B n)
def zLP0 (B : (zPH → Prop) → zPH → Prop) : zPH → Prop := fun  σ => ∃ n : Nat, zlp0 B n  σ
theorem zLP0_ind {B : (zPH → Prop) → zPH → Prop} (I : zPH → Prop) (m : zPH → Nat) (h : ∀ (K : zPH → Prop) (σ : zPH), I  σ → (∀ (σ' : zPH), I  σ' → m  σ' < m  σ → K  σ') → B K  σ) {σ : zPH} (h0 : I  σ) : zLP0 B  σ := by
  have key : ∀ (n : Nat) (σ : zPH), I  σ → m  σ < n → zlp0 B n  σ := by
    intro n
    induction n with
    | zero => intro  σ _ hm; exact absurd hm (Nat.not_lt_zero _)
    | succ n ih => intro  σ hI hm; exact h _  σ hI (fun  σ' hI' hm' => ih  σ' hI' (by omega))
  exact ⟨m  σ + 1, key _  σ h0 (Nat.lt_succ_self _)⟩
def zlp1 (B : (Int → zPH → Prop) → Int → zPH → Prop) : Nat → Int → zPH → Prop
  | 0 => fun x0 _ => False
  | n + 1 => B (zlp1 B n)
def zLP1 (B : (Int → zPH → Prop) → Int → zPH → Prop) : Int → zPH → Prop := fun x0 σ => ∃ n : Nat, zlp1 B n x0 σ
theorem zLP1_ind {B : (Int → zPH → Prop) → Int → zPH → Prop} (I : Int → zPH → Prop) (m : Int → zPH → Nat) (h : ∀ (K : Int → zPH → Prop) (x0 : Int) (σ : zPH), I x0 σ → (∀ (y0 : Int) (σ' : zPH), I y0 σ' → m y0 σ' < m x0 σ → K y0 σ') → B K x0 σ) {x0 : Int} {σ : zPH} (h0 : I x0 σ) : zLP1 B x0 σ := by
  have key : ∀ (n : Nat) (x0 : Int) (σ : zPH), I x0 σ → m x0 σ < n → zlp1 B n x0 σ := by
    intro n
    induction n with
    | zero => intro x0 σ _ hm; exact absurd hm (Nat.not_lt_zero _)
    | succ n ih => intro x0 σ hI hm; exact h _ x0 σ hI (fun y0 σ' hI' hm' => ih y0 σ' hI' (by omega))
  exact ⟨m x0 σ + 1, key _ x0 σ h0 (Nat.lt_succ_self _)⟩
def zlp2 (B : (Int → Int → zPH → Prop) → Int → Int → zPH → Prop) : Nat → Int → Int → zPH → Prop
  | 0 => fun x0 x1 _ => False
  | n + 1 => B (zlp2 B n)
def zLP2 (B : (Int → Int → zPH → Prop) → Int → Int → zPH → Prop) : Int → Int → zPH → Prop := fun x0 x1 σ => ∃ n : Nat, zlp2 B n x0 x1 σ
theorem zLP2_ind {B : (Int → Int → zPH → Prop) → Int → Int → zPH → Prop} (I : Int → Int → zPH → Prop) (m : Int → Int → zPH → Nat) (h : ∀ (K : Int → Int → zPH → Prop) (x0 x1 : Int) (σ : zPH), I x0 x1 σ → (∀ (y0 y1 : Int) (σ' : zPH), I y0 y1 σ' → m y0 y1 σ' < m x0 x1 σ → K y0 y1 σ') → B K x0 x1 σ) {x0 x1 : Int} {σ : zPH} (h0 : I x0 x1 σ) : zLP2 B x0 x1 σ := by
  have key : ∀ (n : Nat) (x0 x1 : Int) (σ : zPH), I x0 x1 σ → m x0 x1 σ < n → zlp2 B n x0 x1 σ := by
    intro n
    induction n with
    | zero => intro x0 x1 σ _ hm; exact absurd hm (Nat.not_lt_zero _)
    | succ n ih => intro x0 x1 σ hI hm; exact h _ x0 x1 σ hI (fun y0 y1 σ' hI' hm' => ih y0 y1 σ' hI' (by omega))
  exact ⟨m x0 x1 σ + 1, key _ x0 x1 σ h0 (Nat.lt_succ_self _)⟩
def zlp3 (B : (Int → Int → Int → zPH → Prop) → Int → Int → Int → zPH → Prop) : Nat → Int → Int → Int → zPH → Prop
  | 0 => fun x0 x1 x2 _ => False
  | n + 1 => B (zlp3 B n)
def zLP3 (B : (Int → Int → Int → zPH → Prop) → Int → Int → Int → zPH → Prop) : Int → Int → Int → zPH → Prop := fun x0 x1 x2 σ => ∃ n : Nat, zlp3 B n x0 x1 x2 σ
theorem zLP3_ind {B : (Int → Int → Int → zPH → Prop) → Int → Int → Int → zPH → Prop} (I : Int → Int → Int → zPH → Prop) (m : Int → Int → Int → zPH → Nat) (h : ∀ (K : Int → Int → Int → zPH → Prop) (x0 x1 x2 : Int) (σ : zPH), I x0 x1 x2 σ → (∀ (y0 y1 y2 : Int) (σ' : zPH), I y0 y1 y2 σ' → m y0 y1 y2 σ' < m x0 x1 x2 σ → K y0 y1 y2 σ') → B K x0 x1 x2 σ) {x0 x1 x2 : Int} {σ : zPH} (h0 : I x0 x1 x2 σ) : zLP3 B x0 x1 x2 σ := by
  have key : ∀ (n : Nat) (x0 x1 x2 : Int) (σ : zPH), I x0 x1 x2 σ → m x0 x1 x2 σ < n → zlp3 B n x0 x1 x2 σ := by
    intro n
    induction n with
    | zero => intro x0 x1 x2 σ _ hm; exact absurd hm (Nat.not_lt_zero _)
    | succ n ih => intro x0 x1 x2 σ hI hm; exact h _ x0 x1 x2 σ hI (fun y0 y1 y2 σ' hI' hm' => ih y0 y1 y2 σ' hI' (by omega))
  exact ⟨m x0 x1 x2 σ + 1, key _ x0 x1 x2 σ h0 (Nat.lt_succ_self _)⟩
def zlp4 (B : (Int → Int → Int → Int → zPH → Prop) → Int → Int → Int → Int → zPH → Prop) : Nat → Int → Int → Int → Int → zPH → Prop
  | 0 => fun x0 x1 x2 x3 _ => False
  | n + 1 => B (zlp4 B n)
def zLP4 (B : (Int → Int → Int → Int → zPH → Prop) → Int → Int → Int → Int → zPH → Prop) : Int → Int → Int → Int → zPH → Prop := fun x0 x1 x2 x3 σ => ∃ n : Nat, zlp4 B n x0 x1 x2 x3 σ
theorem zLP4_ind {B : (Int → Int → Int → Int → zPH → Prop) → Int → Int → Int → Int → zPH → Prop} (I : Int → Int → Int → Int → zPH → Prop) (m : Int → Int → Int → Int → zPH → Nat) (h : ∀ (K : Int → Int → Int → Int → zPH → Prop) (x0 x1 x2 x3 : Int) (σ : zPH), I x0 x1 x2 x3 σ → (∀ (y0 y1 y2 y3 : Int) (σ' : zPH), I y0 y1 y2 y3 σ' → m y0 y1 y2 y3 σ' < m x0 x1 x2 x3 σ → K y0 y1 y2 y3 σ') → B K x0 x1 x2 x3 σ) {x0 x1 x2 x3 : Int} {σ : zPH} (h0 : I x0 x1 x2 x3 σ) : zLP4 B x0 x1 x2 x3 σ := by
  have key : ∀ (n : Nat) (x0 x1 x2 x3 : Int) (σ : zPH), I x0 x1 x2 x3 σ → m x0 x1 x2 x3 σ < n → zlp4 B n x0 x1 x2 x3 σ := by
    intro n
    induction n with
    | zero => intro x0 x1 x2 x3 σ _ hm; exact absurd hm (Nat.not_lt_zero _)
    | succ n ih => intro x0 x1 x2 x3 σ hI hm; exact h _ x0 x1 x2 x3 σ hI (fun y0 y1 y2 y3 σ' hI' hm' => ih y0 y1 y2 y3 σ' hI' (by omega))
  exact ⟨m x0 x1 x2 x3 σ + 1, key _ x0 x1 x2 x3 σ h0 (Nat.lt_succ_self _)⟩
def zlp5 (B : (Int → Int → Int → Int → Int → zPH → Prop) → Int → Int → Int → Int → Int → zPH → Prop) : Nat → Int → Int → Int → Int → Int → zPH → Prop
  | 0 => fun x0 x1 x2 x3 x4 _ => False
  | n + 1 => B (zlp5 B n)
def zLP5 (B : (Int → Int → Int → Int → Int → zPH → Prop) → Int → Int → Int → Int → Int → zPH → Prop) : Int → Int → Int → Int → Int → zPH → Prop := fun x0 x1 x2 x3 x4 σ => ∃ n : Nat, zlp5 B n x0 x1 x2 x3 x4 σ
theorem zLP5_ind {B : (Int → Int → Int → Int → Int → zPH → Prop) → Int → Int → Int → Int → Int → zPH → Prop} (I : Int → Int → Int → Int → Int → zPH → Prop) (m : Int → Int → Int → Int → Int → zPH → Nat) (h : ∀ (K : Int → Int → Int → Int → Int → zPH → Prop) (x0 x1 x2 x3 x4 : Int) (σ : zPH), I x0 x1 x2 x3 x4 σ → (∀ (y0 y1 y2 y3 y4 : Int) (σ' : zPH), I y0 y1 y2 y3 y4 σ' → m y0 y1 y2 y3 y4 σ' < m x0 x1 x2 x3 x4 σ → K y0 y1 y2 y3 y4 σ') → B K x0 x1 x2 x3 x4 σ) {x0 x1 x2 x3 x4 : Int} {σ : zPH} (h0 : I x0 x1 x2 x3 x4 σ) : zLP5 B x0 x1 x2 x3 x4 σ := by
  have key : ∀ (n : Nat) (x0 x1 x2 x3 x4 : Int) (σ : zPH), I x0 x1 x2 x3 x4 σ → m x0 x1 x2 x3 x4 σ < n → zlp5 B n x0 x1 x2 x3 x4 σ := by
    intro n
    induction n with
    | zero => intro x0 x1 x2 x3 x4 σ _ hm; exact absurd hm (Nat.not_lt_zero _)
    | succ n ih => intro x0 x1 x2 x3 x4 σ hI hm; exact h _ x0 x1 x2 x3 x4 σ hI (fun y0 y1 y2 y3 y4 σ' hI' hm' => ih y0 y1 y2 y3 y4 σ' hI' (by omega))
  exact ⟨m x0 x1 x2 x3 x4 σ + 1, key _ x0 x1 x2 x3 x4 σ h0 (Nat.lt_succ_self _)⟩
def zlp6 (B : (Int → Int → Int → Int → Int → Int → zPH → Prop) → Int → Int → Int → Int → Int → Int → zPH → Prop) : Nat → Int → Int → Int → Int → Int → Int → zPH → Prop
  | 0 => fun x0 x1 x2 x3 x4 x5 _ => False
  | n + 1 => B (zlp6 B n)
def zLP6 (B : (Int → Int → Int → Int → Int → Int → zPH → Prop) → Int → Int → Int → Int → Int → Int → zPH → Prop) : Int → Int → Int → Int → Int → Int → zPH → Prop := fun x0 x1 x2 x3 x4 x5 σ => ∃ n : Nat, zlp6 B n x0 x1 x2 x3 x4 x5 σ
theorem zLP6_ind {B : (Int → Int → Int → Int → Int → Int → zPH → Prop) → Int → Int → Int → Int → Int → Int → zPH → Prop} (I : Int → Int → Int → Int → Int → Int → zPH → Prop) (m : Int → Int → Int → Int → Int → Int → zPH → Nat) (h : ∀ (K : Int → Int → Int → Int → Int → Int → zPH → Prop) (x0 x1 x2 x3 x4 x5 : Int) (σ : zPH), I x0 x1 x2 x3 x4 x5 σ → (∀ (y0 y1 y2 y3 y4 y5 : Int) (σ' : zPH), I y0 y1 y2 y3 y4 y5 σ' → m y0 y1 y2 y3 y4 y5 σ' < m x0 x1 x2 x3 x4 x5 σ → K y0 y1 y2 y3 y4 y5 σ') → B K x0 x1 x2 x3 x4 x5 σ) {x0 x1 x2 x3 x4 x5 : Int} {σ : zPH} (h0 : I x0 x1 x2 x3 x4 x5 σ) : zLP6 B x0 x1 x2 x3 x4 x5 σ := by
  have key : ∀ (n : Nat) (x0 x1 x2 x3 x4 x5 : Int) (σ : zPH), I x0 x1 x2 x3 x4 x5 σ → m x0 x1 x2 x3 x4 x5 σ < n → zlp6 B n x0 x1 x2 x3 x4 x5 σ := by
    intro n
    induction n with
    | zero => intro x0 x1 x2 x3 x4 x5 σ _ hm; exact absurd hm (Nat.not_lt_zero _)
    | succ n ih => intro x0 x1 x2 x3 x4 x5 σ hI hm; exact h _ x0 x1 x2 x3 x4 x5 σ hI (fun y0 y1 y2 y3 y4 y5 σ' hI' hm' => ih y0 y1 y2 y3 y4 y5 σ' hI' (by omega))
  exact ⟨m x0 x1 x2 x3 x4 x5 σ + 1, key _ x0 x1 x2 x3 x4 x5 σ h0 (Nat.lt_succ_self _)⟩
def zlp7 (B : (Int → Int → Int → Int → Int → Int → Int → zPH → Prop) → Int → Int → Int → Int → Int → Int → Int → zPH → Prop) : Nat → Int → Int → Int → Int → Int → Int → Int → zPH → Prop
  | 0 => fun x0 x1 x2 x3 x4 x5 x6 _ => False
  | n + 1 => B (zlp7 B n)
def zLP7 (B : (Int → Int → Int → Int → Int → Int → Int → zPH → Prop) → Int → Int → Int → Int → Int → Int → Int → zPH → Prop) : Int → Int → Int → Int → Int → Int → Int → zPH → Prop := fun x0 x1 x2 x3 x4 x5 x6 σ => ∃ n : Nat, zlp7 B n x0 x1 x2 x3 x4 x5 x6 σ
theorem zLP7_ind {B : (Int → Int → Int → Int → Int → Int → Int → zPH → Prop) → Int → Int → Int → Int → Int → Int → Int → zPH → Prop} (I : Int → Int → Int → Int → Int → Int → Int → zPH → Prop) (m : Int → Int → Int → Int → Int → Int → Int → zPH → Nat) (h : ∀ (K : Int → Int → Int → Int → Int → Int → Int → zPH → Prop) (x0 x1 x2 x3 x4 x5 x6 : Int) (σ : zPH), I x0 x1 x2 x3 x4 x5 x6 σ → (∀ (y0 y1 y2 y3 y4 y5 y6 : Int) (σ' : zPH), I y0 y1 y2 y3 y4 y5 y6 σ' → m y0 y1 y2 y3 y4 y5 y6 σ' < m x0 x1 x2 x3 x4 x5 x6 σ → K y0 y1 y2 y3 y4 y5 y6 σ') → B K x0 x1 x2 x3 x4 x5 x6 σ) {x0 x1 x2 x3 x4 x5 x6 : Int} {σ : zPH} (h0 : I x0 x1 x2 x3 x4 x5 x6 σ) : zLP7 B x0 x1 x2 x3 x4 x5 x6 σ := by
  have key : ∀ (n : Nat) (x0 x1 x2 x3 x4 x5 x6 : Int) (σ : zPH), I x0 x1 x2 x3 x4 x5 x6 σ → m x0 x1 x2 x3 x4 x5 x6 σ < n → zlp7 B n x0 x1 x2 x3 x4 x5 x6 σ := by
    intro n
    induction n with
    | zero => intro x0 x1 x2 x3 x4 x5 x6 σ _ hm; exact absurd hm (Nat.not_lt_zero _)
    | succ n ih => intro x0 x1 x2 x3 x4 x5 x6 σ hI hm; exact h _ x0 x1 x2 x3 x4 x5 x6 σ hI (fun y0 y1 y2 y3 y4 y5 y6 σ' hI' hm' => ih y0 y1 y2 y3 y4 y5 y6 σ' hI' (by omega))
  exact ⟨m x0 x1 x2 x3 x4 x5 x6 σ + 1, key _ x0 x1 x2 x3 x4 x5 x6 σ h0 (Nat.lt_succ_self _)⟩
def zlp8 (B : (Int → Int → Int → Int → Int → Int → Int → Int → zPH → Prop) → Int → Int → Int → Int → Int → Int → Int → Int → zPH → Prop) : Nat → Int → Int → Int → Int → Int → Int → Int → Int → zPH → Prop
  | 0 => fun x0 x1 x2 x3 x4 x5 x6 x7 _ => False
  | n + 1 => B (zlp8 B n)
def zLP8 (B : (Int → Int → Int → Int → Int → Int → Int → Int → zPH → Prop) → Int → Int → Int → Int → Int → Int → Int → Int → zPH → Prop) : Int → Int → Int → Int → Int → Int → Int → Int → zPH → Prop := fun x0 x1 x2 x3 x4 x5 x6 x7 σ => ∃ n : Nat, zlp8 B n x0 x1 x2 x3 x4 x5 x6 x7 σ
theorem zLP8_ind {B : (Int → Int → Int → Int → Int → Int → Int → Int → zPH → Prop) → Int → Int → Int → Int → Int → Int → Int → Int → zPH → Prop} (I : Int → Int → Int → Int → Int → Int → Int → Int → zPH → Prop) (m : Int → Int → Int → Int → Int → Int → Int → Int → zPH → Nat) (h : ∀ (K : Int → Int → Int → Int → Int → Int → Int → Int → zPH → Prop) (x0 x1 x2 x3 x4 x5 x6 x7 : Int) (σ : zPH), I x0 x1 x2 x3 x4 x5 x6 x7 σ → (∀ (y0 y1 y2 y3 y4 y5 y6 y7 : Int) (σ' : zPH), I y0 y1 y2 y3 y4 y5 y6 y7 σ' → m y0 y1 y2 y3 y4 y5 y6 y7 σ' < m x0 x1 x2 x3 x4 x5 x6 x7 σ → K y0 y1 y2 y3 y4 y5 y6 y7 σ') → B K x0 x1 x2 x3 x4 x5 x6 x7 σ) {x0 x1 x2 x3 x4 x5 x6 x7 : Int} {σ : zPH} (h0 : I x0 x1 x2 x3 x4 x5 x6 x7 σ) : zLP8 B x0 x1 x2 x3 x4 x5 x6 x7 σ := by
  have key : ∀ (n : Nat) (x0 x1 x2 x3 x4 x5 x6 x7 : Int) (σ : zPH), I x0 x1 x2 x3 x4 x5 x6 x7 σ → m x0 x1 x2 x3 x4 x5 x6 x7 σ < n → zlp8 B n x0 x1 x2 x3 x4 x5 x6 x7 σ := by
    intro n
    induction n with
    | zero => intro x0 x1 x2 x3 x4 x5 x6 x7 σ _ hm; exact absurd hm (Nat.not_lt_zero _)
    | succ n ih => intro x0 x1 x2 x3 x4 x5 x6 x7 σ hI hm; exact h _ x0 x1 x2 x3 x4 x5 x6 x7 σ hI (fun y0 y1 y2 y3 y4 y5 y6 y7 σ' hI' hm' => ih y0 y1 y2 y3 y4 y5 y6 y7 σ' hI' (by omega))
  exact ⟨m x0 x1 x2 x3 x4 x5 x6 x7 σ + 1, key _ x0 x1 x2 x3 x4 x5 x6 x7 σ h0 (Nat.lt_succ_self _)⟩
def zsub : List (Option Value) → List (Option Value) → Prop
  | [], _ => True
  | none :: xs, _ :: ys => zsub xs ys
  | some v :: xs, some u :: ys => v = u ∧ zsub xs ys
  | _, _ => False
theorem zsub_get : ∀ (a b : List (Option Value)) (j : Nat) (u : Value), zsub a b → a[j]? = some (some u) → b[j]? = some (some u) := by
  intro a
  induction a with
  | nil => intro b j u _ h; simp at h
  | cons x xs ih =>
    intro b j u h hj
    cases b with
    | nil => cases x <;> exact absurd h (by simp [zsub])
    | cons y ys =>
      cases x with
      | none =>
        cases j with
        | zero => simp at hj
        | succ j => exact ih ys j u h (by simpa using hj)
      | some v =>
        cases y with
        | none => exact absurd h (by simp [zsub])
        | some v' =>
          obtain ⟨rfl, h⟩ := h
          cases j with
          | zero => simpa using hj
          | succ j => exact ih ys j u h (by simpa using hj)
theorem PW_sub {G : zG} {M : zMi} {fr : Nat} {X : zX} {pc : Nat} {ls' ls : List (Option Value)} {st : List Value} {σ : zPH} (h : zsub ls' ls) (k : PW G M fr X pc ls' st σ) : PW G M fr X pc ls st σ :=
  fun p l e R s m args below meth c Z A H0 hc H la locs hP hD hS hl => k _ _ _ _ _ _ _ _ _ _ _ _ _ hc _ _ _ hP hD hS ⟨hl.1, hl.2.1, fun j u hj => hl.2.2 j u (zsub_get _ _ j u h hj)⟩
theorem ms_mono {G : zG} {M : zMi} {fr : Nat} {as : List Value} {σ : zPH} {X X' : zX} (m : MS G M fr as σ X) (h : ∀ (v : Option Value) (σ' : zPH), X v σ' → X' v σ') : MS G M fr as σ X' := by
  intro l p e ha hc hk s mm args below hf happ hP hK
  obtain ⟨n, o, h1, h2, h3, ⟨⟨v, σ', ho, hx, hB⟩, hF⟩, h4⟩ := m l p e ha hc hk s mm args below hf happ hP hK
  exact ⟨n, o, h1, h2, h3, ⟨⟨v, σ', ho, h _ _ hx, hB⟩, hF⟩, h4⟩
theorem zandm_ {m c : Nat} (hc : c < 2 ^ 31) (hm : c = 2 ^ m - 1) (x : Int) (e : (x % 4294967296).toNat % 2 ^ m = ((x % ((c + 1 : Nat) : Int)) % 4294967296).toNat) : Int32.ofInt x &&& Int32.ofInt ((c : Nat) : Int) = Int32.ofInt (x % ((c + 1 : Nat) : Int)) := by
  apply Int32.toBitVec.inj
  apply BitVec.eq_of_toNat_eq
  rw [Int32.toBitVec_and, Int32.toBitVec_ofInt, Int32.toBitVec_ofInt, Int32.toBitVec_ofInt, BitVec.toNat_and, BitVec.toNat_ofInt, BitVec.toNat_ofInt, BitVec.toNat_ofInt]
  have h1 : ((2 : Nat) ^ 32 : Nat) = 4294967296 := by decide
  have h2 : (((c : Nat) : Int) % ((2 ^ 32 : Nat) : Int)).toNat = 2 ^ m - 1 := by rw [h1]; omega
  rw [h2, Nat.and_two_pow_sub_one_eq_mod, h1]
  exact e
theorem zandm_1 (x : Int) : Int32.ofInt x &&& Int32.ofInt 1 = Int32.ofInt (x % 2) := zandm_ (m := 1) (c := 1) (by decide) rfl x (by omega)
theorem zandm_7 (x : Int) : Int32.ofInt x &&& Int32.ofInt 7 = Int32.ofInt (x % 8) := zandm_ (m := 3) (c := 7) (by decide) rfl x (by omega)
theorem zandm_63 (x : Int) : Int32.ofInt x &&& Int32.ofInt 63 = Int32.ofInt (x % 64) := zandm_ (m := 6) (c := 63) (by decide) rfl x (by omega)
theorem zandm_255 (x : Int) : Int32.ofInt x &&& Int32.ofInt 255 = Int32.ofInt (x % 256) := zandm_ (m := 8) (c := 255) (by decide) rfl x (by omega)
/-- x without y -/
def zdif (x y : Int) : Int := x - zand x y
theorem zbv_dif (X Y : BitVec 32) : X &&& ~~~Y = X - (X &&& Y) := by
  rw [BitVec.eq_sub_iff_add_eq, BitVec.add_eq_or_of_and_eq_zero]
  · ext i hi; simp; cases X[i] <;> simp
  · ext i hi; simp; intro _ h _; exact h
theorem zandnot {x y : Int} (hx : 0 ≤ x) (hy : 0 ≤ y) : Int32.ofInt x &&& Int32.ofInt (-1 - y) = Int32.ofInt (zdif x y) := by
  unfold zdif
  rw [Int32.ofInt_sub x, ← zandN hx hy]
  rw [show Int32.ofInt (-1 - y) = ~~~ (Int32.ofInt y) by
    rw [← zxorM]
    apply Int32.toBitVec.inj
    rw [Int32.toBitVec_xor, Int32.toBitVec_not]
    show _ ^^^ BitVec.allOnes 32 = _
    rw [BitVec.xor_allOnes]]
  apply Int32.toBitVec.inj
  rw [Int32.toBitVec_and, Int32.toBitVec_not, Int32.toBitVec_sub, Int32.toBitVec_and]
  exact zbv_dif _ _
/-- any ints -/
def zandS (x y : Int) : Int := (Int32.ofInt x &&& Int32.ofInt y).toInt
def zorS (x y : Int) : Int := (Int32.ofInt x ||| Int32.ofInt y).toInt
theorem zandSo (x y : Int) : Int32.ofInt x &&& Int32.ofInt y = Int32.ofInt (zandS x y) := (Int32.ofInt_toInt _).symm
theorem zorSo (x y : Int) : Int32.ofInt x ||| Int32.ofInt y = Int32.ofInt (zorS x y) := (Int32.ofInt_toInt _).symm
theorem zush31 : ∀ k : Fin 32, ((((Int32.ofInt ((k : Nat) : Int)).toUInt32 &&& Int32.toUInt32 31).toBitVec % 32).toNat) = k := by decide +kernel
theorem zushr {a k : Int} (ha : 0 ≤ a ∧ a < 2147483648) (h : 0 ≤ k ∧ k < 32) : ((Int32.ofInt a).toUInt32 >>> ((Int32.ofInt k).toUInt32 &&& Int32.toUInt32 31)).toInt32 = Int32.ofInt (a / 2 ^ k.toNat) := by
  obtain ⟨n, rfl⟩ := Int.eq_ofNat_of_zero_le ha.1
  obtain ⟨j, rfl⟩ := Int.eq_ofNat_of_zero_le h.1
  rw [zofnat n, pk_ushrN (by omega) (Int32.ofInt (j : Int)) j (zush31 ⟨j, by omega⟩), ← zofnat, Int.natCast_ediv, Int.natCast_pow]
  rfl
/-! longs -/
def zsx (x : Int) : Int := (Int64.ofInt x).toInt
theorem zsh63 : ∀ k : Fin 64, (((Int32.ofInt ((k : Nat) : Int)).toInt64 &&& 63).toBitVec.smod 64).toNat = k := by decide +kernel
theorem zsh63' {k : Int} (h : 0 ≤ k ∧ k < 64) : (((Int32.ofInt k).toInt64 &&& 63).toBitVec.smod 64).toNat = k.toNat := by
  obtain ⟨n, rfl⟩ := Int.eq_ofNat_of_zero_le h.1
  exact zsh63 ⟨n, by omega⟩
theorem zlshr {a k : Int} (h : 0 ≤ k ∧ k < 64) : Int64.ofInt a >>> ((Int32.ofInt k).toInt64 &&& 63) = Int64.ofInt (zsx a / 2 ^ k.toNat) := by
  apply Int64.toInt.inj
  have e0 : (Int64.ofInt a >>> ((Int32.ofInt k).toInt64 &&& 63)).toInt = (Int64.ofInt a).toInt >>> k.toNat := by
    show ((Int64.ofInt a).toBitVec.sshiftRight (((Int32.ofInt k).toInt64 &&& 63).toBitVec.smod 64).toNat).toInt = _
    rw [zsh63' h, BitVec.toInt_sshiftRight]
    rfl
  rw [e0, Int.shiftRight_eq_div_pow]
  have h0 : (0 : Int) < 2 ^ k.toNat := Int.pow_pos (by decide)
  have b1 : zsx a < 2 ^ 63 := Int64.toInt_lt _
  have b2 : -2 ^ 63 ≤ zsx a := Int64.le_toInt _
  have e1 : zsx a / 2 ^ k.toNat < 2 ^ 63 := by
    rcases Int.le_total 0 (zsx a) with q | q
    · exact Int.lt_of_le_of_lt (Int.ediv_le_self _ q) b1
    · have := Int.ediv_le_of_le_mul h0 (show zsx a ≤ 0 * 2 ^ k.toNat by omega); omega
  have e2 : -2 ^ 63 ≤ zsx a / 2 ^ k.toNat := by
    rcases Int.le_total 0 (zsx a) with q | q
    · have := Int.ediv_nonneg q (Int.le_of_lt h0); omega
    · apply Int.le_ediv_of_mul_le h0
      have h2 : (1 : Int) ≤ 2 ^ k.toNat := h0
      have h3 := Int.mul_le_mul_of_nonneg_left h2 (show (0 : Int) ≤ 2 ^ 63 by decide)
      rw [Int.neg_mul]; omega
  rw [Int64.toInt_ofInt_of_le e2 e1]
  simp [zsx]
theorem zlshl {a k : Int} (h : 0 ≤ k ∧ k < 64) : Int64.ofInt a <<< ((Int32.ofInt k).toInt64 &&& 63) = Int64.ofInt (a * 2 ^ k.toNat) := by
  apply Int64.toBitVec.inj
  apply BitVec.eq_of_toNat_eq
  have e0 : (Int64.ofInt a <<< ((Int32.ofInt k).toInt64 &&& 63)).toBitVec.toNat = (Int64.ofInt a).toBitVec.toNat * 2 ^ k.toNat % 2 ^ 64 := by
    show ((Int64.ofInt a).toBitVec <<< (((Int32.ofInt k).toInt64 &&& 63).toBitVec.smod 64).toNat).toNat = _
    rw [zsh63' h, BitVec.toNat_shiftLeft, Nat.shiftLeft_eq]
  rw [e0, Int64.toBitVec_ofInt, Int64.toBitVec_ofInt, BitVec.toNat_ofInt, BitVec.toNat_ofInt]
  have h1 : ((2 : Nat) ^ 64 : Nat) = 18446744073709551616 := by decide
  rw [h1]
  apply Int.ofNat_inj.mp
  have e1 := Int.emod_nonneg a (show ((18446744073709551616 : Nat) : Int) ≠ 0 by decide)
  have e2 := Int.emod_nonneg (a * 2 ^ k.toNat) (show ((18446744073709551616 : Nat) : Int) ≠ 0 by decide)
  rw [Int.natCast_emod, Int.natCast_mul, Int.toNat_of_nonneg e1, Int.toNat_of_nonneg e2, Int.natCast_pow]
  show (a % 18446744073709551616 * 2 ^ k.toNat) % 18446744073709551616 = (a * 2 ^ k.toNat) % 18446744073709551616
  rw [Int.mul_emod, Int.emod_emod, ← Int.mul_emod]
theorem zush63 : ∀ k : Fin 64, (((Int32.ofInt ((k : Nat) : Int)).toInt64.toUInt64 &&& Int64.toUInt64 63).toBitVec % 64).toNat = k := by decide +kernel
theorem zlushr {a k : Int} (ha : 0 ≤ a ∧ a < 9223372036854775808) (h : 0 ≤ k ∧ k < 64) : ((Int64.ofInt a).toUInt64 >>> ((Int32.ofInt k).toInt64.toUInt64 &&& Int64.toUInt64 63)).toInt64 = Int64.ofInt (a / 2 ^ k.toNat) := by
  obtain ⟨n, rfl⟩ := Int.eq_ofNat_of_zero_le ha.1
  obtain ⟨j, rfl⟩ := Int.eq_ofNat_of_zero_le h.1
  apply Int64.toBitVec.inj
  apply BitVec.eq_of_toNat_eq
  have e : ((Int64.ofInt ((n : Nat) : Int)).toUInt64 >>> ((Int32.ofInt ((j : Nat) : Int)).toInt64.toUInt64 &&& Int64.toUInt64 63)).toInt64.toBitVec = (Int64.ofInt ((n : Nat) : Int)).toBitVec >>> j := by
    have e9 := zush63 ⟨j, by omega⟩
    have e8 : ((Int64.ofInt ((n : Nat) : Int)).toUInt64 >>> ((Int32.ofInt ((j : Nat) : Int)).toInt64.toUInt64 &&& Int64.toUInt64 63)).toInt64.toBitVec = (Int64.ofInt ((n : Nat) : Int)).toBitVec >>> (((Int32.ofInt ((j : Nat) : Int)).toInt64.toUInt64 &&& Int64.toUInt64 63).toBitVec % 64) := UInt64.toBitVec_shiftRight _ _
    rw [e8]
    show (Int64.ofInt ((n : Nat) : Int)).toBitVec >>> (((Int32.ofInt ((j : Nat) : Int)).toInt64.toUInt64 &&& Int64.toUInt64 63).toBitVec % 64).toNat = _
    rw [e9]
  rw [e, BitVec.toNat_ushiftRight, Nat.shiftRight_eq_div_pow, Int64.toBitVec_ofInt, Int64.toBitVec_ofInt, BitVec.toNat_ofInt, BitVec.toNat_ofInt]
  have h1 : ((2 : Nat) ^ 64 : Nat) = 18446744073709551616 := by decide
  have e3 : ((n : Nat) : Int) / 2 ^ ((j : Nat) : Int).toNat = ((n / 2 ^ j : Nat) : Int) := by
    rw [Int.natCast_ediv, Int.natCast_pow]; rfl
  rw [e3, h1]
  have h2 : n / 2 ^ j ≤ n := Nat.div_le_self _ _
  rw [show (((n : Nat) : Int) % ((18446744073709551616 : Nat) : Int)).toNat = n by omega]
  generalize n / 2 ^ j = n2 at h2 ⊢
  omega
theorem zlandm_ {m c : Nat} (hc : c < 2 ^ 63) (hm : c = 2 ^ m - 1) (x : Int) (e : (x % 18446744073709551616).toNat % 2 ^ m = ((x % ((c + 1 : Nat) : Int)) % 18446744073709551616).toNat) : Int64.ofInt x &&& Int64.ofInt ((c : Nat) : Int) = Int64.ofInt (x % ((c + 1 : Nat) : Int)) := by
  apply Int64.toBitVec.inj
  apply BitVec.eq_of_toNat_eq
  rw [Int64.toBitVec_and, Int64.toBitVec_ofInt, Int64.toBitVec_ofInt, Int64.toBitVec_ofInt, BitVec.toNat_and, BitVec.toNat_ofInt, BitVec.toNat_ofInt, BitVec.toNat_ofInt]
  have h1 : ((2 : Nat) ^ 64 : Nat) = 18446744073709551616 := by decide
  have h2 : (((c : Nat) : Int) % ((2 ^ 64 : Nat) : Int)).toNat = 2 ^ m - 1 := by rw [h1]; omega
  rw [h2, Nat.and_two_pow_sub_one_eq_mod, h1]
  exact e
theorem zlandm_1 (x : Int) : Int64.ofInt x &&& Int64.ofInt 1 = Int64.ofInt (x % 2) := zlandm_ (m := 1) (c := 1) (by decide) rfl x (by omega)
theorem zlandm_255 (x : Int) : Int64.ofInt x &&& Int64.ofInt 255 = Int64.ofInt (x % 256) := zlandm_ (m := 8) (c := 255) (by decide) rfl x (by omega)
theorem zlorN {a b : Int} (ha : 0 ≤ a) (hb : 0 ≤ b) : Int64.ofInt a ||| Int64.ofInt b = Int64.ofInt (zor a b) := by
  unfold zor
  obtain ⟨n, rfl⟩ := Int.eq_ofNat_of_zero_le ha
  obtain ⟨m, rfl⟩ := Int.eq_ofNat_of_zero_le hb
  apply Int64.toBitVec.inj
  rw [Int64.toBitVec_or, Int64.toBitVec_ofInt, Int64.toBitVec_ofInt, Int64.toBitVec_ofInt, BitVec.ofInt_natCast, BitVec.ofInt_natCast, BitVec.ofInt_natCast]
  simp
theorem zljeq {a b : Int} (ha : zJ a) (hb : zJ b) : Int64.ofInt a = Int64.ofInt b ↔ a = b := by
  constructor
  · intro q
    have q := congrArg Int64.toInt q
    rwa [Int64.toInt_ofInt_of_le (by omega) (by omega), Int64.toInt_ofInt_of_le (by omega) (by omega)] at q
  · rintro rfl; rfl
theorem zcmp0 (x y : Int64) : lg_cmp x y = 0 ↔ x = y := by
  unfold lg_cmp
  constructor
  · intro h
    split at h
    · exact absurd h (by decide)
    · split at h
      · assumption
      · exact absurd h (by decide)
  · rintro rfl
    simp
section PWR2
variable {G : zG} {M : zMi} {fr : Nat} {X : zX} {pc pc' tgt : Nat} {ls ls2 : List (Option Value)} {st : List Value} {σ : zPH} {x y z : Int}
theorem PW_iandm1 (d : decode M.2.1 pc = .ok (.iand, 1) ∧ pc + 1 = pc') (k : PW G M fr X pc' ls (iZ (x % 2) :: st) σ) : PW G M fr X pc ls (iZ 1 :: iZ x :: st) σ := PW_iandG d (zandm_1 x) k
theorem PW_iandm7 (d : decode M.2.1 pc = .ok (.iand, 1) ∧ pc + 1 = pc') (k : PW G M fr X pc' ls (iZ (x % 8) :: st) σ) : PW G M fr X pc ls (iZ 7 :: iZ x :: st) σ := PW_iandG d (zandm_7 x) k
theorem PW_iandm63 (d : decode M.2.1 pc = .ok (.iand, 1) ∧ pc + 1 = pc') (k : PW G M fr X pc' ls (iZ (x % 64) :: st) σ) : PW G M fr X pc ls (iZ 63 :: iZ x :: st) σ := PW_iandG d (zandm_63 x) k
theorem PW_iandm255 (d : decode M.2.1 pc = .ok (.iand, 1) ∧ pc + 1 = pc') (k : PW G M fr X pc' ls (iZ (x % 256) :: st) σ) : PW G M fr X pc ls (iZ 255 :: iZ x :: st) σ := PW_iandG d (zandm_255 x) k
theorem PW_iandn (d : decode M.2.1 pc = .ok (.iand, 1) ∧ pc + 1 = pc') (h : 0 ≤ x ∧ 0 ≤ y) (k : PW G M fr X pc' ls (iZ (zdif x y) :: st) σ) : PW G M fr X pc ls (iZ (-1 - y) :: iZ x :: st) σ := PW_iandG d (zandnot h.1 h.2) k
theorem PW_iandS (d : decode M.2.1 pc = .ok (.iand, 1) ∧ pc + 1 = pc') (k : PW G M fr X pc' ls (iZ (zandS x y) :: st) σ) : PW G M fr X pc ls (iZ y :: iZ x :: st) σ := PW_iandG d (zandSo x y) k
theorem PW_iorS (d : decode M.2.1 pc = .ok (.ior, 1) ∧ pc + 1 = pc') (k : PW G M fr X pc' ls (iZ (zorS x y) :: st) σ) : PW G M fr X pc ls (iZ y :: iZ x :: st) σ := PW_iorG d (zorSo x y) k
theorem PW_iushr (d : decode M.2.1 pc = .ok (.iushr, 1) ∧ pc + 1 = pc') (h : (0 ≤ x ∧ x < 2147483648) ∧ 0 ≤ y ∧ y < 32) (k : PW G M fr X pc' ls (iZ (x / 2 ^ y.toNat) :: st) σ) : PW G M fr X pc ls (iZ y :: iZ x :: st) σ := by
  obtain ⟨d, rfl⟩ := d
  exact fun p l e R s m args below meth c Z A H0 hc H la locs hP hD hS hl => lv_iushr hc.1 hc.2.1 d (zushr h.1 h.2) (k _ _ _ _ _ _ _ _ _ _ _ _ _ hc _ _ _ hP hD hS hl)
theorem PW_lshl (d : decode M.2.1 pc = .ok (.lshl, 1) ∧ pc + 1 = pc') (h : 0 ≤ y ∧ y < 64) (k : PW G M fr X pc' ls (lZ (x * 2 ^ y.toNat) :: st) σ) : PW G M fr X pc ls (iZ y :: lZ x :: st) σ := by
  obtain ⟨d, rfl⟩ := d
  exact fun p l e R s m args below meth c Z A H0 hc H la locs hP hD hS hl => lv_lshl hc.1 hc.2.1 d (zlshl h) (k _ _ _ _ _ _ _ _ _ _ _ _ _ hc _ _ _ hP hD hS hl)
theorem PW_lshr (d : decode M.2.1 pc = .ok (.lshr, 1) ∧ pc + 1 = pc') (h : 0 ≤ y ∧ y < 64) (k : PW G M fr X pc' ls (lZ (zsx x / 2 ^ y.toNat) :: st) σ) : PW G M fr X pc ls (iZ y :: lZ x :: st) σ := by
  obtain ⟨d, rfl⟩ := d
  exact fun p l e R s m args below meth c Z A H0 hc H la locs hP hD hS hl => lv_lshr hc.1 hc.2.1 d (zlshr h) (k _ _ _ _ _ _ _ _ _ _ _ _ _ hc _ _ _ hP hD hS hl)
theorem PW_lushr (d : decode M.2.1 pc = .ok (.lushr, 1) ∧ pc + 1 = pc') (h : (0 ≤ x ∧ x < 9223372036854775808) ∧ 0 ≤ y ∧ y < 64) (k : PW G M fr X pc' ls (lZ (x / 2 ^ y.toNat) :: st) σ) : PW G M fr X pc ls (iZ y :: lZ x :: st) σ := by
  obtain ⟨d, rfl⟩ := d
  exact fun p l e R s m args below meth c Z A H0 hc H la locs hP hD hS hl => lv_lushr hc.1 hc.2.1 d (zlushr h.1 h.2) (k _ _ _ _ _ _ _ _ _ _ _ _ _ hc _ _ _ hP hD hS hl)
theorem PW_lor (d : decode M.2.1 pc = .ok (.lor, 1) ∧ pc + 1 = pc') (h : 0 ≤ x ∧ 0 ≤ y) (k : PW G M fr X pc' ls (lZ (zor x y) :: st) σ) : PW G M fr X pc ls (lZ y :: lZ x :: st) σ := by
  obtain ⟨d, rfl⟩ := d
  have q9 := zlorN h.1 h.2
  exact fun p l e R s m args below meth c Z A H0 hc H la locs hP hD hS hl => lv_lor hc.1 hc.2.1 d (by rw [q9]; exact k _ _ _ _ _ _ _ _ _ _ _ _ _ hc _ _ _ hP hD hS hl)
theorem PW_landm1 (d : decode M.2.1 pc = .ok (.land, 1) ∧ pc + 1 = pc') (k : PW G M fr X pc' ls (lZ (x % 2) :: st) σ) : PW G M fr X pc ls (lZ 1 :: lZ x :: st) σ := by
  obtain ⟨d, rfl⟩ := d
  have q9 := zlandm_1 x
  exact fun p l e R s m args below meth c Z A H0 hc H la locs hP hD hS hl => lv_land hc.1 hc.2.1 d (by rw [q9]; exact k _ _ _ _ _ _ _ _ _ _ _ _ _ hc _ _ _ hP hD hS hl)
theorem PW_landm255 (d : decode M.2.1 pc = .ok (.land, 1) ∧ pc + 1 = pc') (k : PW G M fr X pc' ls (lZ (x % 256) :: st) σ) : PW G M fr X pc ls (lZ 255 :: lZ x :: st) σ := by
  obtain ⟨d, rfl⟩ := d
  have q9 := zlandm_255 x
  exact fun p l e R s m args below meth c Z A H0 hc H la locs hP hD hS hl => lv_land hc.1 hc.2.1 d (by rw [q9]; exact k _ _ _ _ _ _ _ _ _ _ _ _ _ hc _ _ _ hP hD hS hl)
theorem PW_i2l (d : decode M.2.1 pc = .ok (.i2l, 1) ∧ pc + 1 = pc') (h : zI x) (k : PW G M fr X pc' ls (lZ x :: st) σ) : PW G M fr X pc ls (iZ x :: st) σ := by
  obtain ⟨d, rfl⟩ := d
  exact fun p l e R s m args below meth c Z A H0 hc H la locs hP hD hS hl => lv_i2l hc.1 hc.2.1 d (Int32.toInt64_ofInt (by show -2147483648 ≤ x; omega) (by show x ≤ 2147483647; omega)) (k _ _ _ _ _ _ _ _ _ _ _ _ _ hc _ _ _ hP hD hS hl)
theorem PW_l2i (d : decode M.2.1 pc = .ok (.l2i, 1) ∧ pc + 1 = pc') (k : PW G M fr X pc' ls (iZ x :: st) σ) : PW G M fr X pc ls (lZ x :: st) σ := by
  obtain ⟨d, rfl⟩ := d
  exact fun p l e R s m args below meth c Z A H0 hc H la locs hP hD hS hl => lv_l2i hc.1 hc.2.1 d Int64.toInt32_ofInt (k _ _ _ _ _ _ _ _ _ _ _ _ _ hc _ _ _ hP hD hS hl)
theorem PW_lcmpeq {off : Int} {pc'' : Nat} (d0 : decode M.2.1 pc = .ok (.lcmp, 1) ∧ pc + 1 = pc'') (d : decode M.2.1 pc'' = .ok (.ifCond .eq off, 3) ∧ (pc'' : Int) + off = (tgt : Int) ∧ pc'' + 3 = pc') (h : zJ x ∧ zJ y) (kt : x = y → PW G M fr X tgt ls st σ) (kf : x ≠ y → PW G M fr X pc' ls st σ) : PW G M fr X pc ls (lZ y :: lZ x :: st) σ := by
  obtain ⟨d0, rfl⟩ := d0
  obtain ⟨d, d2, rfl⟩ := d
  exact fun p l e R s m args below meth c Z A H0 hc H la locs hP hD hS hl => W.lcmp hc.1 hc.2.1 d0 (lv_if_eq hc.1 hc.2.1 d d2 (fun q => kt ((zljeq h.1 h.2).mp ((zcmp0 _ _).mp q)) _ _ _ _ _ _ _ _ _ _ _ _ _ hc _ _ _ hP hD hS hl) (fun q => kf (fun e => q ((zcmp0 _ _).mpr ((zljeq h.1 h.2).mpr e))) _ _ _ _ _ _ _ _ _ _ _ _ _ hc _ _ _ hP hD hS hl))
theorem PW_lcmpne {off : Int} {pc'' : Nat} (d0 : decode M.2.1 pc = .ok (.lcmp, 1) ∧ pc + 1 = pc'') (d : decode M.2.1 pc'' = .ok (.ifCond .ne off, 3) ∧ (pc'' : Int) + off = (tgt : Int) ∧ pc'' + 3 = pc') (h : zJ x ∧ zJ y) (kt : x ≠ y → PW G M fr X tgt ls st σ) (kf : x = y → PW G M fr X pc' ls st σ) : PW G M fr X pc ls (lZ y :: lZ x :: st) σ := by
  obtain ⟨d0, rfl⟩ := d0
  obtain ⟨d, d2, rfl⟩ := d
  exact fun p l e R s m args below meth c Z A H0 hc H la locs hP hD hS hl => W.lcmp hc.1 hc.2.1 d0 (lv_if_ne hc.1 hc.2.1 d d2 (fun q => kt (fun e => q ((zcmp0 _ _).mpr ((zljeq h.1 h.2).mpr e))) _ _ _ _ _ _ _ _ _ _ _ _ _ hc _ _ _ hP hD hS hl) (fun q => kf ((zljeq h.1 h.2).mp ((zcmp0 _ _).mp (by first | exact q | exact Classical.not_not.mp q))) _ _ _ _ _ _ _ _ _ _ _ _ _ hc _ _ _ hP hD hS hl))
theorem PW_i0 (k : PW G M fr X pc ls (iZ 0 :: st) σ) : PW G M fr X pc ls (iZ 0 :: st) σ := k
end PWR2
