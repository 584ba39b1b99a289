/-- a number of three bits -/
noncomputable def xBi (P : Nat → Prop) : Int := zbI (P 0) + 2 * zbI (P 1) + 4 * zbI (P 2)
theorem zbI_c {p q : Prop} (h : p ↔ q) : zbI p = zbI q := by rw [propext h]
theorem xBi_c {P Q : Nat → Prop} (h : ∀ b, b < 3 → (P b ↔ Q b)) : xBi P = xBi Q := by
  unfold xBi
  rw [zbI_c (h 0 (by decide)), zbI_c (h 1 (by decide)), zbI_c (h 2 (by decide))]
theorem xBi_r (P : Nat → Prop) : 0 ≤ xBi P ∧ xBi P < 8 := by
  have h0 := zbI_01 (P 0)
  have h1 := zbI_01 (P 1)
  have h2 := zbI_01 (P 2)
  unfold xBi
  omega
theorem xBi_0 {P : Nat → Prop} (h : ∀ b, b < 3 → ¬ P b) : xBi P = 0 := by
  unfold xBi
  rw [zbI_f (h 0 (by decide)), zbI_f (h 1 (by decide)), zbI_f (h 2 (by decide))]
  decide
theorem zbI_or (p q : Prop) : zbI (p ∨ q) = if zbI p = 0 then zbI q else 1 := by
  by_cases h : p
  · rw [zbI_t (Or.inl h), zbI_t h]; rfl
  · rw [zbI_f h, if_pos rfl]
    exact zbI_c ⟨fun z => z.resolve_left h, Or.inr⟩
theorem xBi_or (P Q : Nat → Prop) : zor (xBi P) (xBi Q) = xBi (fun b => P b ∨ Q b) := by
  unfold xBi
  simp only [zbI_or]
  rcases zbI_01 (P 0) with a | a <;> rcases zbI_01 (P 1) with b | b <;> rcases zbI_01 (P 2) with c | c <;> rcases zbI_01 (Q 0) with d | d <;> rcases zbI_01 (Q 1) with e | e <;> rcases zbI_01 (Q 2) with f | f <;> rw [a, b, c, d, e, f] <;> decide
theorem zRe_union {S : Nat → Nat → Prop} {P : Nat → Prop} {s : Nat → Nat → Prop} {n : Nat} : zRe (fun m => ∃ k, P k ∧ S k m) s n ↔ ∃ k, P k ∧ zRe (S k) s n := by
  constructor
  · exact fun h => zRe.ind (P := fun n => ∃ k, P k ∧ zRe (S k) s n) (fun n ⟨k, h1, h2⟩ => ⟨k, h1, zRe.src h2⟩) (fun n m _ ⟨k, h1, h2⟩ hs => ⟨k, h1, h2.step hs⟩) h
  · rintro ⟨k, h1, h2⟩
    exact zRe.ind (P := fun n => zRe (fun m => ∃ k, P k ∧ S k m) s n) (fun n h => zRe.src ⟨k, h1, h⟩) (fun n m _ h hs => h.step hs) h2
theorem zRe_c {S S' : Nat → Prop} {s s' : Nat → Nat → Prop} {n : Nat} (h1 : ∀ m, S m ↔ S' m) (h2 : ∀ a b, s a b ↔ s' a b) : zRe S s n ↔ zRe S' s' n := by
  rw [show S = S' from funext fun m => propext (h1 m), show s = s' from funext fun a => funext fun b => propext (h2 a b)]
/-- what a lamp's light of a colour comes to -/
def xR (V : zPH) (w : Int) (g : Nat → Nat → Int) (k b m : Nat) : Prop := zRe (fun m' => zN V (xq w k) (g k 2).toNat = (m' : Int)) (zvS V 0 0 b) m
theorem xq_va {V : zPH} {g : Nat → Nat → Int} {w h : Int} {n k : Nat} (hw : 2 ≤ w ∧ w ≤ 6) (hn : (n : Int) = w * h) (hB : xBrd V g w h n) (hk : k < n) : zva V (xq w k) := by
  obtain ⟨a1, a2⟩ := xq_v hw k
  have h0 := hB.1.1
  have h1 := hB.1.2.1
  unfold zva
  rw [a1, a2, h0, h1]
  exact ⟨Int.emod_lt_of_pos (k : Int) (show 0 < w by omega), Int.ediv_lt_of_lt_mul (a := (k : Int)) (b := h) (c := w) (by omega) (by rw [Int.mul_comm, ← hn]; omega)⟩
theorem zbt7 {b : Nat} (hb : b < 3) : zbt 7 b := by
  rcases (show b = 0 ∨ b = 1 ∨ b = 2 by omega) with rfl | rfl | rfl <;> (unfold zbt; decide)
theorem xL_iff {V : zPH} {g : Nat → Nat → Int} {w h la : Int} {n b m : Nat} (hw : 2 ≤ w ∧ w ≤ 6) (hn : (n : Int) = w * h) (hB : xBrd V g w h n) (hb : b < 3) : zvL V la 7 b m ↔ ∃ k, (k < n ∧ g k 0 = 1 ∧ la / 2 ^ xMany g 1 1 k % 2 = 1 ∧ zbt (g k 1) b) ∧ zN V (xq w k) (g k 2).toNat = (m : Int) := by
  constructor
  · rintro ⟨q, h1, h2, h3, h4, -, h6⟩
    have : ∃ k, k < n ∧ q = xq w k := by
      apply Classical.byContradiction
      intro hne
      have := hB.2.2.1 q (fun k hk e => hne ⟨k, hk, e⟩)
      rw [this] at h2
      exact absurd h2 (by decide)
    obtain ⟨k, hk, rfl⟩ := this
    obtain ⟨c1, c2, c3, -⟩ := hB.2.1 k hk
    rw [c1] at h2
    obtain ⟨d1, d2⟩ := c2 (by omega)
    rw [c3 h2, Int.toNat_natCast] at h3
    rw [d1, h2, xForm, if_pos (by decide)] at h4
    rw [d2, h2, xWay, if_pos rfl] at h6
    exact ⟨k, ⟨hk, h2, h3, h4⟩, h6⟩
  · rintro ⟨k, ⟨hk, h2, h3, h4⟩, h6⟩
    obtain ⟨c1, c2, c3, -⟩ := hB.2.1 k hk
    obtain ⟨d1, d2⟩ := c2 (by omega)
    refine ⟨xq w k, xq_va hw hn hB hk, c1.trans h2, by rw [c3 h2, Int.toNat_natCast]; exact h3, ?_, zbt7 hb, ?_⟩
    · rw [d1, h2, xForm, if_pos (by decide)]; exact h4
    · rw [d2, h2, xWay, if_pos rfl]; exact h6
theorem x255 {j : Nat} (h : j ≤ 7) : (255 : Int) / 2 ^ j % 2 = 1 := (show ∀ i : Fin 8, (255 : Int) / 2 ^ i.val % 2 = 1 by decide) ⟨j, by omega⟩
theorem xpow2 {i j : Nat} (hi : i ≤ 7) (hj : j ≤ 7) : (2 : Int) ^ i / 2 ^ j % 2 = 1 ↔ j = i := (show ∀ a b : Fin 8, (2 : Int) ^ a.val / 2 ^ b.val % 2 = 1 ↔ b.val = a.val by decide) ⟨i, by omega⟩ ⟨j, by omega⟩
/-- all lamps' light -/
theorem xLv_all {V : zPH} {g : Nat → Nat → Int} {w h : Int} {n m : Nat} (hw : 2 ≤ w ∧ w ≤ 6) (hn : (n : Int) = w * h) (hg : xOkB g n) (hB : xBrd V g w h n) : zLv V 0 0 255 7 m = xBi (fun b => ∃ k, (k < n ∧ g k 0 = 1 ∧ zbt (g k 1) b) ∧ xR V w g k b m) := by
  have e : ∀ b, b < 3 → (zRe (zvL V 255 7 b) (zvS V 0 0 b) m ↔ ∃ k, (k < n ∧ g k 0 = 1 ∧ zbt (g k 1) b) ∧ xR V w g k b m) := fun b hb => by
    refine Iff.trans (zRe_c (S' := fun m => ∃ k, (k < n ∧ g k 0 = 1 ∧ zbt (g k 1) b) ∧ zN V (xq w k) (g k 2).toNat = (m : Int)) (fun m' => ?_) (fun _ _ => Iff.rfl)) zRe_union
    rw [xL_iff hw hn hB hb]
    constructor
    · rintro ⟨k, ⟨h1, h2, h3, h4⟩, h5⟩
      exact ⟨k, ⟨h1, h2, h4⟩, h5⟩
    · rintro ⟨k, ⟨h1, h2, h4⟩, h5⟩
      exact ⟨k, ⟨h1, h2, x255 (Nat.le_trans (xMany_mono g 1 1 (Nat.le_of_lt h1)) hg.2.1), h4⟩, h5⟩
  show xBi (fun b => zRe (zvL V 255 7 b) (zvS V 0 0 b) m) = _
  exact xBi_c e
theorem xMany_lt {g : Nat → Nat → Int} {lo hi : Int} {i j : Nat} (h : i < j) (hi' : lo ≤ g i 0 ∧ g i 0 ≤ hi) : xMany g lo hi i < xMany g lo hi j := by
  have h1 := xMany_mono g lo hi (show i + 1 ≤ j by omega)
  rw [xMany_s.1 hi'] at h1
  omega
/-- one lamp's light -/
theorem xLv_one {V : zPH} {g : Nat → Nat → Int} {w h : Int} {n m k0 : Nat} (hw : 2 ≤ w ∧ w ≤ 6) (hn : (n : Int) = w * h) (hg : xOkB g n) (hB : xBrd V g w h n) (hk0 : k0 < n) (h0 : g k0 0 = 1) : zLv V 0 0 (2 ^ xMany g 1 1 k0) 7 m = xBi (fun b => zbt (g k0 1) b ∧ xR V w g k0 b m) := by
  have i7 : ∀ k, k < n → xMany g 1 1 k ≤ 7 := fun k hk => Nat.le_trans (xMany_mono g 1 1 (Nat.le_of_lt hk)) hg.2.1
  have inj : ∀ k, k < n → g k 0 = 1 → xMany g 1 1 k = xMany g 1 1 k0 → k = k0 := fun k hk h1 he => by
    rcases Nat.lt_trichotomy k k0 with q | q | q
    · have := xMany_lt (lo := 1) (hi := 1) q (by omega : 1 ≤ g k 0 ∧ g k 0 ≤ 1); omega
    · exact q
    · have := xMany_lt (lo := 1) (hi := 1) q (by omega : 1 ≤ g k0 0 ∧ g k0 0 ≤ 1); omega
  have e : ∀ b, b < 3 → (zRe (zvL V (2 ^ xMany g 1 1 k0) 7 b) (zvS V 0 0 b) m ↔ zbt (g k0 1) b ∧ xR V w g k0 b m) := fun b hb => by
    refine Iff.trans (zRe_c (S' := fun m => ∃ k, (k = k0 ∧ zbt (g k0 1) b) ∧ zN V (xq w k) (g k 2).toNat = (m : Int)) (fun m' => ?_) (fun _ _ => Iff.rfl)) (zRe_union.trans ?_)
    · rw [xL_iff hw hn hB hb]
      constructor
      · rintro ⟨k, ⟨h1, h2, h3, h4⟩, h5⟩
        obtain rfl := inj k h1 h2 ((xpow2 (i7 _ hk0) (i7 k h1)).mp h3)
        exact ⟨k, ⟨rfl, h4⟩, h5⟩
      · rintro ⟨k, ⟨rfl, h4⟩, h5⟩
        exact ⟨k, ⟨hk0, h0, (xpow2 (i7 _ hk0) (i7 _ hk0)).mpr rfl, h4⟩, h5⟩
    · constructor
      · rintro ⟨k, ⟨rfl, h4⟩, h5⟩
        exact ⟨h4, h5⟩
      · rintro ⟨h4, h5⟩
        exact ⟨k0, ⟨rfl, h4⟩, h5⟩
  show xBi (fun b => zRe (zvL V (2 ^ xMany g 1 1 k0) 7 b) (zvS V 0 0 b) m) = _
  exact xBi_c e
/-- the squares with one lamp left, of one colour -/
def xIs (g' g : Nat → Nat → Int) (k0 : Nat) (c : Int) (n : Nat) : Prop := ∀ j, j < n → (g' j 0 = if g j 0 = 1 ∧ j ≠ k0 then 6 else g j 0) ∧ (g' j 1 = if j = k0 then c else g j 1) ∧ g' j 2 = g j 2
theorem xIs_many {g' g : Nat → Nat → Int} {k0 : Nat} {c : Int} {n : Nat} (h : xIs g' g k0 c n) {lo hi : Int} (hlo : 2 ≤ lo ∧ ¬ (lo ≤ 6 ∧ 6 ≤ hi)) : ∀ {k : Nat}, k ≤ n → xMany g' lo hi k = xMany g lo hi k
  | 0, _ => rfl
  | k + 1, hk => by
    have ih := xIs_many h hlo (show k ≤ n by omega)
    have := (h k (by omega)).1
    unfold xMany
    rw [ih, this]
    congr 1
    by_cases q : g k 0 = 1 ∧ k ≠ k0
    · rw [if_pos q, if_neg (by omega), if_neg (by omega)]
    · rw [if_neg q]
theorem xIs_lamp {g' g : Nat → Nat → Int} {k0 : Nat} {c : Int} {n : Nat} (h : xIs g' g k0 c n) : ∀ {k : Nat}, k ≤ n → xMany g' 1 1 k ≤ 1
  | 0, _ => Nat.zero_le _
  | k + 1, hk => by
    have key : ∀ {j : Nat}, j ≤ k0 → j ≤ n → xMany g' 1 1 j = 0 := by
      intro j
      induction j with
      | zero => intro _ _; rfl
      | succ j ih =>
        intro h1 h2
        rw [xMany_s.2 ?_]
        · exact ih (by omega) (by omega)
        · have := (h j (by omega)).1
          rw [this]
          by_cases q : g j 0 = 1
          · rw [if_pos ⟨q, by omega⟩]; omega
          · rw [if_neg (fun z => q z.1)]; omega
    by_cases q : k = k0
    · have := key (j := k) (by omega) (by omega)
      show xMany g' 1 1 k + _ ≤ 1
      split <;> omega
    · have ih := xIs_lamp h (show k ≤ n by omega)
      rw [xMany_s.2 ?_]
      · exact ih
      · have := (h k (by omega)).1
        rw [this]
        by_cases q2 : g k 0 = 1
        · rw [if_pos ⟨q2, q⟩]; omega
        · rw [if_neg (fun z => q2 z.1)]; omega
theorem xIs_okB {g' g : Nat → Nat → Int} {k0 : Nat} {c : Int} {n : Nat} (h : xIs g' g k0 c n) (hg : xOkB g n) (h0 : g k0 0 = 1) (hc : c = 1 ∨ c = 2 ∨ c = 4 ∨ c = 7) : xOkB g' n := by
  refine ⟨fun k hk => ?_, Nat.le_trans (xIs_lamp h (Nat.le_refl n)) (by decide), by rw [xIs_many h (by decide) (Nat.le_refl n)]; exact hg.2.2.1, by rw [xIs_many h (by decide) (Nat.le_refl n)]; exact hg.2.2.2⟩
  obtain ⟨a1, a2, a3⟩ := h k hk
  obtain ⟨b1, b2, b3, b4⟩ := hg.1 k hk
  rw [a1, a2, a3]
  by_cases q : k = k0
  · subst q
    rw [if_neg (fun z => z.2 rfl), if_pos rfl]
    exact ⟨b1, fun _ => hc, fun z => by omega, b4⟩
  · rw [if_neg q]
    by_cases q1 : g k 0 = 1
    · rw [if_pos ⟨q1, q⟩]
      exact ⟨by decide, fun z => by omega, fun z => by omega, b4⟩
    · rw [if_neg (fun z => q1 z.1)]
      exact ⟨b1, b2, b3, b4⟩
theorem zN_c {V V' : zPH} (h0 : V' 0 0 = V 0 0) (h1 : V' 0 1 = V 0 1) (q x : Nat) : zN V' q x = zN V q x := by
  unfold zN
  rw [h0, h1]
theorem xFm_v {V : zPH} {g : Nat → Nat → Int} {w h : Int} {n k : Nat} (hg : xOkB g n) (hB : xBrd V g w h n) (hk : k < n) (h0 : g k 0 ≠ 0) : zFm V 0 0 (xq w k) = xForm (g k 0) (g k 1) := by
  obtain ⟨c1, c2, -, -⟩ := hB.2.1 k hk
  obtain ⟨b1, b2, b3, b4⟩ := hg.1 k hk
  unfold zFm
  rw [c1, if_neg h0, (c2 h0).1]
  unfold zlkv
  by_cases q : g k 0 = 2 ∨ g k 0 = 3
  · rw [if_pos q]
    have hf : xForm (g k 0) (g k 1) = g k 1 := by unfold xForm; rw [if_pos (by omega)]
    rw [hf]
    split
    · rfl
    · rw [Int.zero_ediv, Int.zero_emod, Int.add_zero]
      have := b3 q
      omega
  · rw [if_neg q, if_neg (by omega)]
theorem zOut_no {lk : Int} {b x x' : Nat} : (¬ zOut 1 lk b x x') ∧ ¬ zOut 6 lk b x x' := by
  constructor <;> (unfold zOut; omega)
/-- light goes on alike where one lamp is left -/
theorem xS_iff {V V' : zPH} {g g' : Nat → Nat → Int} {w h c : Int} {n k0 : Nat} (hg : xOkB g n) (hg' : xOkB g' n) (hI : xIs g' g k0 c n) (hB : xBrd V g w h n) (hB' : xBrd V' g' w h n) (h0 : g k0 0 = 1) (b a m : Nat) : zvS V' 0 0 b a m ↔ zvS V 0 0 b a m := by
  have hz : ∀ q x, zN V' q x = zN V q x := zN_c (hB'.1.1.trans hB.1.1.symm) (hB'.1.2.1.trans hB.1.2.1.symm)
  unfold zvS
  simp only [hz]
  have key : ∀ x' : Nat, zOut (V' 1 (a / 4)) (zFm V' 0 0 (a / 4)) b (a % 4) x' ↔ zOut (V 1 (a / 4)) (zFm V 0 0 (a / 4)) b (a % 4) x' := fun x' => by
    generalize a / 4 = q
    by_cases hq : ∃ k, k < n ∧ q = xq w k
    · obtain ⟨k, hk, rfl⟩ := hq
      have e1 := (hB.2.1 k hk).1
      have e2 := (hB'.2.1 k hk).1
      obtain ⟨i1, i2, i3⟩ := hI k hk
      by_cases q1 : g k 0 = 1
      · rw [e1, e2, i1, q1]
        split
        · exact ⟨fun z => absurd z zOut_no.2, fun z => absurd z zOut_no.1⟩
        · exact ⟨fun z => absurd z zOut_no.1, fun z => absurd z zOut_no.1⟩
      · rw [if_neg (fun z => q1 z.1)] at i1
        have hkk : k ≠ k0 := fun z => q1 (z ▸ h0)
        rw [if_neg hkk] at i2
        by_cases q0 : g k 0 = 0
        · have f1 : zFm V 0 0 (xq w k) = 0 := by unfold zFm; rw [e1, if_pos q0]
          have f2 : zFm V' 0 0 (xq w k) = 0 := by unfold zFm; rw [e2, i1, if_pos q0]
          rw [e1, e2, i1, f1, f2]
        · rw [e1, e2, i1, xFm_v hg hB hk q0, xFm_v hg' hB' hk (by rw [i1]; exact q0), i1, i2]
    · have f1 := hB.2.2.1 q (fun k hk e => hq ⟨k, hk, e⟩)
      have f2 := hB'.2.2.1 q (fun k hk e => hq ⟨k, hk, e⟩)
      have f3 : zFm V 0 0 q = 0 := by unfold zFm; rw [if_pos f1]
      have f4 : zFm V' 0 0 q = 0 := by unfold zFm; rw [if_pos f2]
      rw [f1, f2, f3, f4]
  exact ⟨fun ⟨x, h1, h2⟩ => ⟨x, (key x).mp h1, h2⟩, fun ⟨x, h1, h2⟩ => ⟨x, (key x).mpr h1, h2⟩⟩
/-- the light of the one lamp left, on its board -/
theorem xLv_left {V V' : zPH} {g g' : Nat → Nat → Int} {w h c : Int} {n m k0 : Nat} (hw : 2 ≤ w ∧ w ≤ 6) (hn : (n : Int) = w * h) (hg : xOkB g n) (hg' : xOkB g' n) (hI : xIs g' g k0 c n) (hB : xBrd V g w h n) (hB' : xBrd V' g' w h n) (hk0 : k0 < n) (h0 : g k0 0 = 1) : zLv V' 0 0 255 7 m = xBi (fun b => zbt c b ∧ xR V w g k0 b m) := by
  rw [xLv_all hw hn hg' hB']
  obtain ⟨i1, i2, i3⟩ := hI k0 hk0
  rw [if_neg (fun z => z.2 rfl), h0] at i1
  rw [if_pos rfl] at i2
  refine xBi_c fun b _ => ?_
  have e : xR V' w g' k0 b m ↔ xR V w g k0 b m := zRe_c (fun m' => by rw [i3, zN_c (hB'.1.1.trans hB.1.1.symm) (hB'.1.2.1.trans hB.1.2.1.symm)]) (fun a m => xS_iff hg hg' hI hB hB' h0 b a m)
  constructor
  · rintro ⟨k, ⟨h1, h2, h3⟩, h4⟩
    have hk : k = k0 := by
      apply Classical.byContradiction
      intro q
      have := (hI k h1).1
      rw [h2] at this
      by_cases q1 : g k 0 = 1
      · rw [if_pos ⟨q1, q⟩] at this; exact absurd this (by decide)
      · rw [if_neg (fun z => q1 z.1)] at this; exact q1 this.symm
    subst hk
    rw [i2] at h3
    exact ⟨h3, e.mp h4⟩
  · rintro ⟨h3, h4⟩
    exact ⟨k0, ⟨hk0, i1, by rw [i2]; exact h3⟩, e.mpr h4⟩
theorem xeye {g : Nat → Nat → Int} {e : Nat} : ∀ {n : Nat}, e < xMany g 7 7 n → ∃ k, k < n ∧ g k 0 = 7 ∧ xMany g 7 7 k = e
  | 0, h => absurd h (Nat.not_lt_zero _)
  | n + 1, h => by
    by_cases q : g n 0 = 7
    · rw [xMany_s.1 (by omega)] at h
      by_cases q2 : e = xMany g 7 7 n
      · exact ⟨n, by omega, q, q2.symm⟩
      · obtain ⟨k, h1, h2, h3⟩ := xeye (g := g) (e := e) (n := n) (by omega)
        exact ⟨k, by omega, h2, h3⟩
    · rw [xMany_s.2 (by omega)] at h
      obtain ⟨k, h1, h2, h3⟩ := xeye h
      exact ⟨k, by omega, h2, h3⟩
/-- what an eye sees of one lamp -/
theorem xSe_left {V V' : zPH} {g g' : Nat → Nat → Int} {w h : Int} {n k0 e : Nat} (hw : 2 ≤ w ∧ w ≤ 6) (hn : (n : Int) = w * h) (hg : xOkB g n) (hg' : xOkB g' n) (hI : xIs g' g k0 (g k0 1) n) (hB : xBrd V g w h n) (hB' : xBrd V' g' w h n) (hk0 : k0 < n) (h0 : g k0 0 = 1) (he : e < xMany g 7 7 n) : zSe V' 0 0 255 7 e = zSe V 0 0 (2 ^ xMany g 1 1 k0) 7 e := by
  obtain ⟨k, h1, h2, h3⟩ := xeye he
  have e5 := (hB.2.1 k h1).2.2.2 h2
  have i1 := (hI k h1).1
  rw [if_neg (by omega), h2] at i1
  have e6 := (hB'.2.1 k h1).2.2.2 i1
  rw [xIs_many hI (by decide) (Nat.le_of_lt h1)] at e6
  rw [h3] at e5 e6
  have key : ∀ m, zLv V' 0 0 255 7 m = zLv V 0 0 (2 ^ xMany g 1 1 k0) 7 m := fun m => by
    rw [xLv_left hw hn hg hg' hI hB hB' hk0 h0, xLv_one hw hn hg hB hk0 h0]
  unfold zSe zSq
  rw [e5, e6]
  simp only [key]
/-- squares as drawn can be written and read -/
theorem xSqs_cnt {g : Nat → Nat → Int} : ∀ {k : Nat}, (∀ j, j < k → xOne (g j)) → xMany g 1 1 k = xCntK g 1 k ∧ xMany g 2 3 k = xCntK g 2 k ∧ xMany g 7 7 k = xCntK g 7 k
  | 0, _ => ⟨rfl, rfl, rfl⟩
  | k + 1, h => by
    obtain ⟨i1, i2, i3⟩ := xSqs_cnt (fun j hj => h j (by omega) : ∀ j, j < k → xOne (g j))
    have := (h k (by omega)).1
    have e : ∀ K, xCntK g K (k + 1) = xCntK g K k + if g k 0 ≠ 0 ∧ xKind (g k 0) = K then 1 else 0 := fun K => rfl
    have f : ∀ lo hi, xMany g lo hi (k + 1) = xMany g lo hi k + if lo ≤ g k 0 ∧ g k 0 ≤ hi then 1 else 0 := fun lo hi => rfl
    rw [e, e, e, f, f, f, i1, i2, i3]
    have c : ∀ {p q : Prop} [Decidable p] [Decidable q] (a : Nat), (p ↔ q) → a + (if p then 1 else 0) = a + (if q then 1 else 0) := fun a h => by simp only [h]
    refine ⟨c _ ?_, c _ ?_, c _ ?_⟩ <;> (unfold xKind; constructor <;> intro z <;> (try constructor) <;> (try split) <;> (try split at z) <;> (try split at z) <;> omega)
theorem xSqs_ok {g : Nat → Nat → Int} {n : Nat} (h : xSqs g n) : xOkB g n := by
  obtain ⟨h1, h2⟩ := h
  obtain ⟨c1, c2, c3⟩ := xSqs_cnt h1
  have m1 : (xCntK g 1 n : Int) ≤ 7 := h2 1 (by decide) (by decide)
  have m2 : (xCntK g 2 n : Int) ≤ 6 := h2 2 (by decide) (by decide)
  have m3 : (xCntK g 7 n : Int) ≤ 7 := h2 7 (by decide) (by decide)
  refine ⟨fun k hk => ?_, by omega, by omega, by omega⟩
  obtain ⟨a1, a2, a3, a4⟩ := h1 k hk
  exact ⟨a1, a2, fun z => by have := a3 (by omega); omega, a4⟩
theorem xOk_T {g : Nat → Nat → Int} {n : Nat} (h : xOkB g n) (h1 : ∀ k, k < n → 0 ≤ g k 1 ∧ g k 1 < 8) : xOkT g n := by
  refine ⟨fun k hk => ?_, Nat.le_trans h.2.2.2 (by decide)⟩
  obtain ⟨a1, a2, a3, a4⟩ := h.1 k hk
  exact ⟨a1, h1 k hk, a4, fun z => by have := a3 z; omega⟩
theorem xOk_R {g : Nat → Nat → Int} {n : Nat} (h : ∀ k, k < n → ∀ j, j < 3 → 0 ≤ g k j ∧ g k j < 10) : ∀ k, k < n → 0 ≤ g k 0 ∧ g k 0 < 10 := fun k hk => h k hk 0 (by decide)
theorem xSee_bit {V D : zPH} {e l : Nat} {x : Int} (h : zBeh V D (e : Int) x) (he : (e : Int) < V 0 5) (hl : (l : Int) < V 0 2) (h2 : V 0 2 ≤ 8) : (0 ≤ x ∧ x < 256) ∧ (x / 2 ^ l % 2 = 1 ↔ zSe V (D 0 0) (D 0 1) (2 ^ l) 7 e ≠ 0) := by
  rcases h with ⟨-, h1, h3⟩ | ⟨h1, -⟩
  · rw [Int.toNat_natCast] at h3
    have hx : x < 256 := by
      have : x.toNat < 2 ^ 8 := Nat.lt_pow_two_of_testBit _ (fun i hi => by
        cases hb : x.toNat.testBit i with
        | false => rfl
        | true => have := ((h3 i).mp hb).1; omega)
      omega
    refine ⟨⟨h1, hx⟩, ?_⟩
    rw [← zbt_div h1, h3]
    exact ⟨fun z => z.2, fun z => ⟨hl, z⟩⟩
  · exact absurd ⟨by omega, he⟩ h1
