theorem zand_nn (x y : Int) : 0 ≤ zand x y := Int.natCast_nonneg _
theorem zor_nn (x y : Int) : 0 ≤ zor x y := Int.natCast_nonneg _
theorem zand_tb (x y : Int) (i : Nat) : (zand x y).toNat.testBit i = (x.toNat.testBit i && y.toNat.testBit i) := by
  simp [zand]
theorem zor_tb (x y : Int) (i : Nat) : (zor x y).toNat.testBit i = (x.toNat.testBit i || y.toNat.testBit i) := by
  simp [zor]
theorem zand_le {x y : Int} (hx : 0 ≤ x) : zand x y ≤ x := by
  have := @Nat.and_le_left x.toNat y.toNat
  unfold zand; omega
theorem zor_lt {x y : Int} (k : Nat) (hx : x < ((2 ^ k : Nat) : Int)) (hy : y < ((2 ^ k : Nat) : Int)) : zor x y < ((2 ^ k : Nat) : Int) := by
  have h0 : 0 < 2 ^ k := Nat.two_pow_pos k
  have := @Nat.or_lt_two_pow x.toNat y.toNat k (by omega) (by omega)
  unfold zor; omega
theorem zand_1 {x : Int} (hx : 0 ≤ x) : zand x 1 = x % 2 := by
  unfold zand
  rw [show ((1 : Int).toNat) = 1 from rfl, Nat.and_one_is_mod]; omega
theorem zdif_nn {x y : Int} (hx : 0 ≤ x) : 0 ≤ zdif x y := by
  have := zand_le (y := y) hx
  unfold zdif; omega
theorem zdif_le {x y : Int} (hx : 0 ≤ x) : zdif x y ≤ x := by
  have := zand_nn x y
  unfold zdif; omega
theorem zdif_tb {x y : Int} (hx : 0 ≤ x ∧ x < 4294967296) (i : Nat) : (zdif x y).toNat.testBit i = (x.toNat.testBit i && !y.toNat.testBit i) := by
  have h1 := zbv_dif (BitVec.ofNat 32 x.toNat) (BitVec.ofNat 32 y.toNat)
  have hle := @Nat.and_le_left x.toNat y.toNat
  have h2 := congrArg (fun b : BitVec 32 => b.toNat.testBit i) h1
  simp only [BitVec.testBit_toNat] at h2
  have e1 : (BitVec.ofNat 32 x.toNat - (BitVec.ofNat 32 x.toNat &&& BitVec.ofNat 32 y.toNat)) = BitVec.ofNat 32 (zdif x y).toNat := by
    rw [← BitVec.ofNat_and]
    rw [BitVec.ofNat_sub_ofNat_of_le _ _ (by omega) hle]
    congr 1
    unfold zdif zand; omega
  rw [e1] at h2
  simp only [BitVec.getLsbD_ofNat, BitVec.getLsbD_and, BitVec.getLsbD_not] at h2
  by_cases hi : i < 32
  · simp only [hi, decide_true, Bool.true_and] at h2
    exact h2.symm
  · have a1 : x.toNat.testBit i = false := Nat.testBit_lt_two_pow (Nat.lt_of_lt_of_le (show x.toNat < 2 ^ 32 by omega) (Nat.pow_le_pow_right (by decide) (by omega)))
    have hd := zdif_le (y := y) hx.1
    have a2 : (zdif x y).toNat.testBit i = false := Nat.testBit_lt_two_pow (Nat.lt_of_lt_of_le (show (zdif x y).toNat < 2 ^ 32 by omega) (Nat.pow_le_pow_right (by decide) (by omega)))
    rw [a1, a2]; rfl
/-- a bit of a number -/
def zbt (x : Int) (i : Nat) : Prop := x.toNat.testBit i = true
theorem zbt_or {x y : Int} {i : Nat} : zbt (zor x y) i ↔ zbt x i ∨ zbt y i := by simp [zbt, zor_tb]
theorem zbt_and {x y : Int} {i : Nat} : zbt (zand x y) i ↔ zbt x i ∧ zbt y i := by simp [zbt, zand_tb]
theorem zbt_dif {x y : Int} {i : Nat} (hx : 0 ≤ x ∧ x < 4294967296) : zbt (zdif x y) i ↔ zbt x i ∧ ¬ zbt y i := by simp [zbt, zdif_tb hx]
theorem zbt_0 {i : Nat} : ¬ zbt 0 i := by simp [zbt]
theorem zbt_ext {x y : Int} (hx : 0 ≤ x) (hy : 0 ≤ y) (h : ∀ i, zbt x i ↔ zbt y i) : x = y := by
  have : x.toNat = y.toNat := by
    apply Nat.eq_of_testBit_eq
    intro i
    have := h i
    unfold zbt at this
    cases hx : x.toNat.testBit i <;> cases hy : y.toNat.testBit i <;> simp_all
  omega
theorem zbt_lt8 {x : Int} {i : Nat} (hx : x < 8) (h : zbt x i) : i < 3 := by
  rcases Nat.lt_or_ge i 3 with q | q
  · exact q
  · have := Nat.testBit_lt_two_pow (Nat.lt_of_lt_of_le (show x.toNat < 2 ^ 3 by omega) (Nat.pow_le_pow_right (by decide) q))
    unfold zbt at h; rw [this] at h; cases h
theorem zbt_ne0 {x : Int} (hx : 0 ≤ x) : x ≠ 0 ↔ ∃ i, zbt x i := by
  constructor
  · intro h
    apply Classical.byContradiction
    intro q
    exact h (zbt_ext hx (by decide) (fun i => ⟨fun a => absurd ⟨i, a⟩ q, fun a => absurd a zbt_0⟩))
  · rintro ⟨i, h⟩ rfl
    exact zbt_0 h
theorem zdif_0 {x y : Int} (hx : 0 ≤ x ∧ x < 4294967296) : zdif x y = 0 ↔ ∀ i, zbt x i → zbt y i := by
  constructor
  · intro h i hi
    apply Classical.byContradiction
    intro q
    have := (zbt_dif hx).mpr ⟨hi, q⟩
    rw [h] at this
    exact zbt_0 this
  · intro h
    apply zbt_ext (zdif_nn hx.1) (by decide)
    intro i
    rw [zbt_dif hx]
    exact ⟨fun ⟨a, b⟩ => absurd (h i a) b, fun a => absurd a zbt_0⟩
theorem zbt_div {x : Int} (hx : 0 ≤ x) (i : Nat) : zbt x i ↔ x / 2 ^ i % 2 = 1 := by
  unfold zbt
  rw [Nat.testBit_eq_decide_div_mod_eq]
  simp only [decide_eq_true_eq]
  have : ((x.toNat / 2 ^ i % 2 : Nat) : Int) = x / 2 ^ i % 2 := by
    rw [Int.natCast_emod, Int.natCast_ediv, Int.toNat_of_nonneg hx, Int.natCast_pow]; rfl
  omega
theorem zbt_1 {i : Nat} : zbt 1 i ↔ i = 0 := by
  unfold zbt
  cases i with
  | zero => simp
  | succ i => simp [Nat.testBit_succ]
theorem zbt_pow {k i : Nat} : zbt ((2 : Int) ^ k) i ↔ i = k := by
  have e : ((2 : Int) ^ k).toNat = 2 ^ k := by
    have : ((2 : Int) ^ k) = ((2 ^ k : Nat) : Int) := by rw [Int.natCast_pow]; rfl
    rw [this, Int.toNat_natCast]
  unfold zbt
  rw [e, Nat.testBit_two_pow]
  simp [eq_comm]
theorem zpow_nn (k : Nat) : (0 : Int) ≤ 2 ^ k := Int.le_of_lt (Int.pow_pos (by decide))
theorem zpow_c (k : Nat) : (2 : Int) ^ k = ((2 ^ k : Nat) : Int) := by rw [Int.natCast_pow]; rfl
theorem zlt_bt {x : Int} {n : Nat} (hx : 0 ≤ x) (h : ∀ i, zbt x i → i < n) : x < 2 ^ n := by
  have e : (2 : Int) ^ n = ((2 ^ n : Nat) : Int) := by rw [Int.natCast_pow]; rfl
  rw [e]
  have : x.toNat < 2 ^ n := by
    apply Nat.lt_pow_two_of_testBit
    intro i hi
    cases hb : x.toNat.testBit i
    · rfl
    · have := h i hb; omega
  omega
