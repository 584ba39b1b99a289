def zand (x y : Int) : Int := ((x.toNat &&& y.toNat : Nat) : Int)
def zor (x y : Int) : Int := ((x.toNat ||| y.toNat : Nat) : Int)
def zxor (x y : Int) : Int := ((x.toNat ^^^ y.toNat : Nat) : Int)
theorem zlt {a b : Int} (h : (-2147483648 ≤ a ∧ a < 2147483648) ∧ (-2147483648 ≤ b ∧ b < 2147483648)) : Int32.ofInt a < Int32.ofInt b ↔ a < b := by
  rw [Int32.lt_iff_toInt_lt, Int32.toInt_ofInt_of_le (by omega) (by omega), Int32.toInt_ofInt_of_le (by omega) (by omega)]
theorem zle {a b : Int} (h : (-2147483648 ≤ a ∧ a < 2147483648) ∧ (-2147483648 ≤ b ∧ b < 2147483648)) : Int32.ofInt a ≤ Int32.ofInt b ↔ a ≤ b := by
  rw [Int32.le_iff_toInt_le, Int32.toInt_ofInt_of_le (by omega) (by omega), Int32.toInt_ofInt_of_le (by omega) (by omega)]
theorem zeq {a b : Int} (h : (-2147483648 ≤ a ∧ a < 2147483648) ∧ (-2147483648 ≤ b ∧ b < 2147483648)) : Int32.ofInt a = Int32.ofInt b ↔ a = b := by
  constructor
  · intro q
    have q := congrArg Int32.toInt q
    rwa [Int32.toInt_ofInt_of_le (by omega) (by omega), Int32.toInt_ofInt_of_le (by omega) (by omega)] at q
  · rintro rfl; rfl
theorem zeq0 {a : Int} (h : -2147483648 ≤ a ∧ a < 2147483648) : Int32.ofInt a = 0 ↔ a = 0 := zeq (b := 0) ⟨h, by decide⟩
theorem zle0 {a : Int} (h : -2147483648 ≤ a ∧ a < 2147483648) : Int32.ofInt a ≤ 0 ↔ a ≤ 0 := zle (b := 0) ⟨h, by decide⟩
theorem zlt0 {a : Int} (h : -2147483648 ≤ a ∧ a < 2147483648) : Int32.ofInt a < 0 ↔ a < 0 := zlt (b := 0) ⟨h, by decide⟩
theorem zclamp {i : Int} (h : 0 ≤ i ∧ i < 2147483648) : (Int32.ofInt i).toNatClampNeg = i.toNat := Int32.toNatClampNeg_ofInt_of_le (by omega) (by omega)
theorem zvpin {i : Int} {n : Nat} (h : 0 ≤ i ∧ i < n) (hn : n ≤ 2147483648) : vp_in (Int32.ofInt i) n := by
  intro q
  rcases q with q | q
  · rw [zlt0 (by omega)] at q; omega
  · rw [zclamp (by omega)] at q; omega
theorem zofnat (n : Nat) : Int32.ofInt (n : Int) = nI n := Int32.ofInt_eq_ofNat
theorem zandN {a b : Int} (ha : 0 ≤ a) (hb : 0 ≤ b) : Int32.ofInt a &&& Int32.ofInt b = Int32.ofInt (zand a b) := by
  unfold zand
  obtain ⟨n, rfl⟩ := Int.eq_ofNat_of_zero_le ha
  obtain ⟨m, rfl⟩ := Int.eq_ofNat_of_zero_le hb
  apply Int32.toBitVec.inj
  rw [Int32.toBitVec_and, Int32.toBitVec_ofInt, Int32.toBitVec_ofInt, Int32.toBitVec_ofInt, BitVec.ofInt_natCast, BitVec.ofInt_natCast, BitVec.ofInt_natCast]
  simp
theorem zorN {a b : Int} (ha : 0 ≤ a) (hb : 0 ≤ b) : Int32.ofInt a ||| Int32.ofInt b = Int32.ofInt (zor a b) := by
  unfold zor
  obtain ⟨n, rfl⟩ := Int.eq_ofNat_of_zero_le ha
  obtain ⟨m, rfl⟩ := Int.eq_ofNat_of_zero_le hb
  apply Int32.toBitVec.inj
  rw [Int32.toBitVec_or, Int32.toBitVec_ofInt, Int32.toBitVec_ofInt, Int32.toBitVec_ofInt, BitVec.ofInt_natCast, BitVec.ofInt_natCast, BitVec.ofInt_natCast]
  simp
theorem zxorN {a b : Int} (ha : 0 ≤ a) (hb : 0 ≤ b) : Int32.ofInt a ^^^ Int32.ofInt b = Int32.ofInt (zxor a b) := by
  unfold zxor
  obtain ⟨n, rfl⟩ := Int.eq_ofNat_of_zero_le ha
  obtain ⟨m, rfl⟩ := Int.eq_ofNat_of_zero_le hb
  apply Int32.toBitVec.inj
  rw [Int32.toBitVec_xor, Int32.toBitVec_ofInt, Int32.toBitVec_ofInt, Int32.toBitVec_ofInt, BitVec.ofInt_natCast, BitVec.ofInt_natCast, BitVec.ofInt_natCast]
  simp
theorem zxorM {a : Int} : Int32.ofInt a ^^^ Int32.ofInt (-1) = Int32.ofInt (-1 - a) := by
  rw [Int32.ofInt_sub]
  apply Int32.toBitVec.inj
  rw [Int32.toBitVec_xor, Int32.toBitVec_sub]
  generalize (Int32.ofInt a).toBitVec = x
  show x ^^^ BitVec.allOnes 32 = BitVec.allOnes 32 - x
  rw [BitVec.xor_allOnes, BitVec.allOnes_sub_eq_not]
theorem zsh31 : ∀ k : Fin 32, (((Int32.ofInt ((k : Nat) : Int)) &&& 31).toBitVec.smod 32).toNat = k := by decide +kernel
theorem zsh31' {k : Int} (h : 0 ≤ k ∧ k < 32) : (((Int32.ofInt k) &&& 31).toBitVec.smod 32).toNat = k.toNat := by
  obtain ⟨n, rfl⟩ := Int.eq_ofNat_of_zero_le h.1
  exact zsh31 ⟨n, by omega⟩
theorem zshl {a k : Int} (h : 0 ≤ k ∧ k < 32) : Int32.ofInt a <<< (Int32.ofInt k &&& 31) = Int32.ofInt (a * 2 ^ k.toNat) := by
  apply Int32.toBitVec.inj
  apply BitVec.eq_of_toNat_eq
  rw [pk_shl _ _ _ (zsh31' h), Int32.toBitVec_ofInt, Int32.toBitVec_ofInt, BitVec.toNat_ofInt, BitVec.toNat_ofInt]
  have h1 : ((2 : Nat) ^ 32 : Nat) = 4294967296 := by decide
  rw [h1]
  apply Int.ofNat_inj.mp
  have e1 := Int.emod_nonneg a (show ((4294967296 : Nat) : Int) ≠ 0 by decide)
  have e2 := Int.emod_nonneg (a * 2 ^ k.toNat) (show ((4294967296 : Nat) : Int) ≠ 0 by decide)
  rw [Int.natCast_emod, Int.natCast_mul, Int.toNat_of_nonneg e1, Int.toNat_of_nonneg e2, Int.natCast_pow]
  show (a % 4294967296 * 2 ^ k.toNat) % 4294967296 = (a * 2 ^ k.toNat) % 4294967296
  rw [Int.mul_emod, Int.emod_emod, ← Int.mul_emod]
theorem zshr {a k : Int} (ha : -2147483648 ≤ a ∧ a < 2147483648) (h : 0 ≤ k ∧ k < 32) : Int32.ofInt a >>> (Int32.ofInt k &&& 31) = Int32.ofInt (a / 2 ^ k.toNat) := by
  apply Int32.toInt.inj
  rw [pk_shr _ _ _ (zsh31' h), Int32.toInt_ofInt_of_le (by omega) (by omega), Int.shiftRight_eq_div_pow]
  have h0 : (0 : Int) < 2 ^ k.toNat := Int.pow_pos (by decide)
  have e1 : a / 2 ^ k.toNat < 2147483648 := by
    rcases Int.le_total 0 a with q | q
    · exact Int.lt_of_le_of_lt (Int.ediv_le_self _ q) ha.2
    · have := Int.ediv_le_of_le_mul h0 (show a ≤ 0 * 2 ^ k.toNat by omega); omega
  have e2 : -2147483648 ≤ a / 2 ^ k.toNat := by
    rcases Int.le_total 0 a with q | q
    · have := Int.ediv_nonneg q (Int.le_of_lt h0); omega
    · apply Int.le_ediv_of_mul_le h0
      have h2 : (1 : Int) ≤ 2 ^ k.toNat := h0
      have h3 := Int.mul_le_mul_of_nonneg_left h2 (show (0 : Int) ≤ 2147483648 by decide)
      rw [Int.neg_mul]; omega
  rw [Int32.toInt_ofInt_of_le (by omega) (by omega)]
  simp
theorem zdiv {a b : Int} (ha : 0 ≤ a ∧ a < 2147483648) (hb : 0 < b ∧ b < 2147483648) : Int32.ofInt a / Int32.ofInt b = Int32.ofInt (a / b) := by
  obtain ⟨n, rfl⟩ := Int.eq_ofNat_of_zero_le ha.1
  obtain ⟨m, rfl⟩ := Int.eq_ofNat_of_zero_le (Int.le_of_lt hb.1)
  rw [zofnat, zofnat, pk_div (by omega) (by omega) (by omega), ← zofnat, Int.natCast_ediv]
theorem zrem {a b : Int} (ha : 0 ≤ a ∧ a < 2147483648) (hb : 0 < b ∧ b < 2147483648) : Int32.ofInt a - Int32.ofInt a / Int32.ofInt b * Int32.ofInt b = Int32.ofInt (a % b) := by
  obtain ⟨n, rfl⟩ := Int.eq_ofNat_of_zero_le ha.1
  obtain ⟨m, rfl⟩ := Int.eq_ofNat_of_zero_le (Int.le_of_lt hb.1)
  rw [zofnat, zofnat, pk_rem (by omega) (by omega) (by omega), ← zofnat, Int.natCast_emod]
def zb (P : Prop) [Decidable P] : Int := if P then 1 else 0
theorem zb_pos {P : Prop} [Decidable P] (h : P) : zb P = 1 := if_pos h
theorem zb_neg {P : Prop} [Decidable P] (h : ¬ P) : zb P = 0 := if_neg h
theorem zb_01 (P : Prop) [Decidable P] : zb P = 0 ∨ zb P = 1 := by
  by_cases h : P
  · exact Or.inr (zb_pos h)
  · exact Or.inl (zb_neg h)
theorem zb_eq0 {P : Prop} [Decidable P] : zb P = 0 ↔ ¬ P := by
  by_cases h : P
  · rw [zb_pos h]; simp [h]
  · rw [zb_neg h]; simp [h]
theorem zb_ne0 {P : Prop} [Decidable P] : zb P ≠ 0 ↔ P := by
  by_cases h : P
  · rw [zb_pos h]; simp [h]
  · rw [zb_neg h]; simp [h]
theorem zX1 {P : Prop} [Decidable P] {F : Int → Prop} (h : F (zb P)) (hp : P) : F 1 := by rwa [zb_pos hp] at h
theorem zX0 {P : Prop} [Decidable P] {F : Int → Prop} (h : F (zb P)) (hp : ¬ P) : F 0 := by rwa [zb_neg hp] at h
/-! locals -/
def zl (ls : List (Option Value)) : List (Nat × Value) := (List.range ls.length).filterMap (fun j => (ls.getD j none).map (fun v => (j, v)))
theorem zl_mem {ls : List (Option Value)} {j : Nat} {v : Value} : (j, v) ∈ zl ls ↔ ls[j]? = some (some v) := by
  simp only [zl, List.mem_filterMap, List.mem_range, Option.map_eq_some_iff, Prod.mk.injEq]
  constructor
  · rintro ⟨i, hi, w, h, rfl, rfl⟩
    rw [List.getD_eq_getElem?_getD, List.getElem?_eq_getElem hi] at h
    rw [List.getElem?_eq_getElem hi]; simpa using h
  · intro h
    have hj := (List.getElem?_eq_some_iff.mp h).1
    exact ⟨j, hj, v, by rw [List.getD_eq_getElem?_getD, h]; rfl, rfl, rfl⟩
theorem zhas_lv {la : Array Slot} {nL : Nat} {ls : List (Option Value)} (h : zHas la nL ls) : lv_has la nL (zl ls) := ⟨h.1, h.2.1, fun q hq => h.2.2 q.1 q.2 (zl_mem.mp hq)⟩
def zok1 (ls : List (Option Value)) (i : Nat) : Bool := match i with
  | 0 => true
  | j + 1 => match ls.getD j none with
    | some v => v.category == 1
    | none => true
theorem zhas_set {la : Array Slot} {nL i : Nat} {v : Value} {ls : List (Option Value)} (ho : zok1 ls i = true) (h : lv_has la nL ((i, v) :: (zl ls).filter (fun q => !(q.1 == i) && !(q.1 + 1 == i && q.2.category == 2)))) : zHas la nL (ls.set i (some v)) := by
  refine ⟨h.1, h.2.1, fun j u hj => ?_⟩
  by_cases hij : i = j
  · subst hij
    rcases Nat.lt_or_ge i ls.length with q | q
    · rw [List.getElem?_set_self q] at hj
      cases hj
      exact h.2.2 (i, v) List.mem_cons_self
    · rw [List.getElem?_eq_none (by simpa using q)] at hj; cases hj
  · rw [List.getElem?_set_ne hij] at hj
    refine h.2.2 (j, u) (List.mem_cons_of_mem _ (List.mem_filter.mpr ⟨zl_mem.mpr hj, ?_⟩))
    simp only [Bool.and_eq_true, Bool.not_eq_true', beq_eq_false_iff_ne, Bool.and_eq_false_iff]
    refine ⟨Ne.symm hij, ?_⟩
    by_cases hj1 : j + 1 = i
    · right
      subst hj1
      simp only [zok1, List.getD_eq_getElem?_getD, hj] at ho
      simp only [Option.getD_some, beq_iff_eq] at ho
      simp [ho]
    · left; simpa using hj1
theorem zhas_set2 {la : Array Slot} {nL i : Nat} {v : Value} {ls : List (Option Value)} (ho : zok1 ls i = true) (h : lv_has la nL ((i, v) :: (zl ls).filter (fun q => !(q.1 == i) && (!(q.1 == i + 1) && !(q.1 + 1 == i && q.2.category == 2))))) : zHas la nL ((ls.set i (some v)).set (i + 1) none) := by
  refine ⟨h.1, h.2.1, fun j u hj => ?_⟩
  by_cases h1 : i + 1 = j
  · subst h1
    rcases Nat.lt_or_ge (i + 1) ls.length with q | q
    · rw [List.getElem?_set_self (by simpa using q)] at hj; cases hj
    · rw [List.getElem?_eq_none (by simpa using q)] at hj; cases hj
  · rw [List.getElem?_set_ne h1] at hj
    by_cases hij : i = j
    · subst hij
      rcases Nat.lt_or_ge i ls.length with q | q
      · rw [List.getElem?_set_self q] at hj
        cases hj
        exact h.2.2 (i, v) List.mem_cons_self
      · rw [List.getElem?_eq_none (by simpa using q)] at hj; cases hj
    · rw [List.getElem?_set_ne hij] at hj
      refine h.2.2 (j, u) (List.mem_cons_of_mem _ (List.mem_filter.mpr ⟨zl_mem.mpr hj, ?_⟩))
      simp only [Bool.and_eq_true, Bool.not_eq_true', beq_eq_false_iff_ne, Bool.and_eq_false_iff]
      refine ⟨Ne.symm hij, fun q => h1 q.symm, ?_⟩
      by_cases hj1 : j + 1 = i
      · right
        subst hj1
        simp only [zok1, List.getD_eq_getElem?_getD, hj] at ho
        simp only [Option.getD_some, beq_iff_eq] at ho
        simp [ho]
      · left; simpa using hj1
section PWR
variable {G : zG} {M : zMi} {fr : Nat} {X : zX} {pc pc' tgt : Nat} {ls ls2 : List (Option Value)} {st : List Value} {σ : zPH} {x y z : Int}
theorem PW_iconst {n : Int} (d : decode M.2.1 pc = .ok (.iconst n, 1) ∧ pc + 1 = pc') (k : PW G M fr X pc' ls (iZ n :: st) σ) : PW G M fr X pc ls st σ := by
  obtain ⟨d, rfl⟩ := d
  exact fun p l e R s m args below meth c Z A H0 hc H la locs hP hD hS hl => lv_iconst hc.1 hc.2.1 d rfl (k _ _ _ _ _ _ _ _ _ _ _ _ _ hc _ _ _ hP hD hS hl)
theorem PW_bipush {n : Int} (d : decode M.2.1 pc = .ok (.bipush n, 2) ∧ pc + 2 = pc') (hn : (Int8.ofInt n).toInt32 = Int32.ofInt n) (k : PW G M fr X pc' ls (iZ n :: st) σ) : PW G M fr X pc ls st σ := by
  obtain ⟨d, rfl⟩ := d
  exact fun p l e R s m args below meth c Z A H0 hc H la locs hP hD hS hl => lv_bipush hc.1 hc.2.1 d hn (k _ _ _ _ _ _ _ _ _ _ _ _ _ hc _ _ _ hP hD hS hl)
theorem PW_sipush {n : Int} (d : decode M.2.1 pc = .ok (.sipush n, 3) ∧ pc + 3 = pc') (hn : (Int16.ofInt n).toInt32 = Int32.ofInt n) (k : PW G M fr X pc' ls (iZ n :: st) σ) : PW G M fr X pc ls st σ := by
  obtain ⟨d, rfl⟩ := d
  exact fun p l e R s m args below meth c Z A H0 hc H la locs hP hD hS hl => lv_sipush hc.1 hc.2.1 d hn (k _ _ _ _ _ _ _ _ _ _ _ _ _ hc _ _ _ hP hD hS hl)
theorem PW_lconst {n : Fin 2} (d : decode M.2.1 pc = .ok (.lconst n, 1) ∧ pc + 1 = pc') (k : PW G M fr X pc' ls (lZ ((n : Nat) : Int) :: st) σ) : PW G M fr X pc ls st σ := by
  obtain ⟨d, rfl⟩ := d
  exact fun p l e R s m args below meth c Z A H0 hc H la locs hP hD hS hl => lv_lconst hc.1 hc.2.1 d (by exact (Int64.ofInt_eq_ofNat).symm) (k _ _ _ _ _ _ _ _ _ _ _ _ _ hc _ _ _ hP hD hS hl)
theorem PW_ldc {i : Nat} {n : Int} (d : decode M.2.1 pc = .ok (.ldc i, 2) ∧ pc + 2 = pc') (hw : Cond.constant M.1.cls i (Int32.ofInt n) ∈ zU) (k : PW G M fr X pc' ls (iZ n :: st) σ) : PW G M fr X pc ls st σ := by
  obtain ⟨d, rfl⟩ := d
  exact fun p l e R s m args below meth c Z A H0 hc H la locs hP hD hS hl => lv_ldc hc.1 hc.2.1 hc.2.2.2.1 (hc.2.2.2.2.1 _ hw) d (k _ _ _ _ _ _ _ _ _ _ _ _ _ hc _ _ _ hP hD hS hl)
theorem PW_ldcw {i : Nat} {n : Int} (d : decode M.2.1 pc = .ok (.ldc_w i, 3) ∧ pc + 3 = pc') (hw : Cond.constant M.1.cls i (Int32.ofInt n) ∈ zU) (k : PW G M fr X pc' ls (iZ n :: st) σ) : PW G M fr X pc ls st σ := by
  obtain ⟨d, rfl⟩ := d
  exact fun p l e R s m args below meth c Z A H0 hc H la locs hP hD hS hl => lv_ldcw hc.1 hc.2.1 hc.2.2.2.1 (hc.2.2.2.2.1 _ hw) d (k _ _ _ _ _ _ _ _ _ _ _ _ _ hc _ _ _ hP hD hS hl)
theorem PW_ldc2 {i : Nat} {n : Int} (d : decode M.2.1 pc = .ok (.ldc2_w i, 3) ∧ pc + 3 = pc') (hw : Cond.constantLong M.1.cls i (Int64.ofInt n) ∈ zU) (k : PW G M fr X pc' ls (lZ n :: st) σ) : PW G M fr X pc ls st σ := by
  obtain ⟨d, rfl⟩ := d
  exact fun p l e R s m args below meth c Z A H0 hc H la locs hP hD hS hl => lv_ldc2 hc.1 hc.2.1 hc.2.2.2.1 (hc.2.2.2.2.1 _ hw) d (k _ _ _ _ _ _ _ _ _ _ _ _ _ hc _ _ _ hP hD hS hl)
theorem PW_iload_n {n : Fin 4} (d : decode M.2.1 pc = .ok (.iload_n n, 1) ∧ pc + 1 = pc') (h : ls[(n : Nat)]? = some (some (iZ z))) (k : PW G M fr X pc' ls (iZ z :: st) σ) : PW G M fr X pc ls st σ := by
  obtain ⟨d, rfl⟩ := d
  exact fun p l e R s m args below meth c Z A H0 hc H la locs hP hD hS hl => lv_iload_n hc.1 hc.2.1 d rfl (hl.2.2 _ _ h) (k _ _ _ _ _ _ _ _ _ _ _ _ _ hc _ _ _ hP hD hS hl)
theorem PW_iload {n : Nat} (d : decode M.2.1 pc = .ok (.iload n, 2) ∧ pc + 2 = pc') (h : ls[n]? = some (some (iZ z))) (k : PW G M fr X pc' ls (iZ z :: st) σ) : PW G M fr X pc ls st σ := by
  obtain ⟨d, rfl⟩ := d
  exact fun p l e R s m args below meth c Z A H0 hc H la locs hP hD hS hl => lv_iload hc.1 hc.2.1 d (hl.2.2 _ _ h) (k _ _ _ _ _ _ _ _ _ _ _ _ _ hc _ _ _ hP hD hS hl)
theorem PW_lload_n {n : Fin 4} (d : decode M.2.1 pc = .ok (.lload_n n, 1) ∧ pc + 1 = pc') (h : ls[(n : Nat)]? = some (some (lZ z))) (k : PW G M fr X pc' ls (lZ z :: st) σ) : PW G M fr X pc ls st σ := by
  obtain ⟨d, rfl⟩ := d
  exact fun p l e R s m args below meth c Z A H0 hc H la locs hP hD hS hl => lv_lload_n hc.1 hc.2.1 d rfl (hl.2.2 _ _ h) (k _ _ _ _ _ _ _ _ _ _ _ _ _ hc _ _ _ hP hD hS hl)
theorem PW_lload {n : Nat} (d : decode M.2.1 pc = .ok (.lload n, 2) ∧ pc + 2 = pc') (h : ls[n]? = some (some (lZ z))) (k : PW G M fr X pc' ls (lZ z :: st) σ) : PW G M fr X pc ls st σ := by
  obtain ⟨d, rfl⟩ := d
  exact fun p l e R s m args below meth c Z A H0 hc H la locs hP hD hS hl => lv_lload hc.1 hc.2.1 d (hl.2.2 _ _ h) (k _ _ _ _ _ _ _ _ _ _ _ _ _ hc _ _ _ hP hD hS hl)
theorem PW_aload_n {n : Fin 4} {q : Nat} (d : decode M.2.1 pc = .ok (.aload_n n, 1) ∧ pc + 1 = pc') (h : ls[(n : Nat)]? = some (some (.ref q))) (k : PW G M fr X pc' ls (.ref q :: st) σ) : PW G M fr X pc ls st σ := by
  obtain ⟨d, rfl⟩ := d
  exact fun p l e R s m args below meth c Z A H0 hc H la locs hP hD hS hl => lv_aload_n hc.1 hc.2.1 d rfl (hl.2.2 _ _ h) (k _ _ _ _ _ _ _ _ _ _ _ _ _ hc _ _ _ hP hD hS hl)
theorem PW_aload {n : Nat} {q : Nat} (d : decode M.2.1 pc = .ok (.aload n, 2) ∧ pc + 2 = pc') (h : ls[n]? = some (some (.ref q))) (k : PW G M fr X pc' ls (.ref q :: st) σ) : PW G M fr X pc ls st σ := by
  obtain ⟨d, rfl⟩ := d
  exact fun p l e R s m args below meth c Z A H0 hc H la locs hP hD hS hl => lv_aload hc.1 hc.2.1 d (hl.2.2 _ _ h) (k _ _ _ _ _ _ _ _ _ _ _ _ _ hc _ _ _ hP hD hS hl)
theorem PW_istore_n {n : Fin 4} (d : decode M.2.1 pc = .ok (.istore_n n, 1) ∧ pc + 1 = pc') (ho : zok1 ls (n : Nat) = true) (hn : (n : Nat) < M.2.2.1) (h2 : ls.set (n : Nat) (some (iZ z)) = ls2) (k : PW G M fr X pc' ls2 st σ) : PW G M fr X pc ls (iZ z :: st) σ := by
  obtain ⟨d, rfl⟩ := d
  subst h2
  exact fun p l e R s m args below meth c Z A H0 hc H la locs hP hD hS hl => lv_istore_n hc.1 hc.2.1 d rfl (zhas_lv hl) hn rfl (fun la' h' => k _ _ _ _ _ _ _ _ _ _ _ _ _ hc _ _ _ hP hD hS (zhas_set ho h'))
theorem PW_istore {n : Nat} (d : decode M.2.1 pc = .ok (.istore n, 2) ∧ pc + 2 = pc') (ho : zok1 ls n = true) (hn : n < M.2.2.1) (h2 : ls.set n (some (iZ z)) = ls2) (k : PW G M fr X pc' ls2 st σ) : PW G M fr X pc ls (iZ z :: st) σ := by
  obtain ⟨d, rfl⟩ := d
  subst h2
  exact fun p l e R s m args below meth c Z A H0 hc H la locs hP hD hS hl => lv_istore hc.1 hc.2.1 d (zhas_lv hl) hn rfl (fun la' h' => k _ _ _ _ _ _ _ _ _ _ _ _ _ hc _ _ _ hP hD hS (zhas_set ho h'))
theorem PW_astore_n {n : Fin 4} {q : Nat} (d : decode M.2.1 pc = .ok (.astore_n n, 1) ∧ pc + 1 = pc') (ho : zok1 ls (n : Nat) = true) (hn : (n : Nat) < M.2.2.1) (h2 : ls.set (n : Nat) (some (.ref q)) = ls2) (k : PW G M fr X pc' ls2 st σ) : PW G M fr X pc ls (.ref q :: st) σ := by
  obtain ⟨d, rfl⟩ := d
  subst h2
  exact fun p l e R s m args below meth c Z A H0 hc H la locs hP hD hS hl => lv_astore_n hc.1 hc.2.1 d rfl (zhas_lv hl) hn rfl (fun la' h' => k _ _ _ _ _ _ _ _ _ _ _ _ _ hc _ _ _ hP hD hS (zhas_set ho h'))
theorem PW_astore {n : Nat} {q : Nat} (d : decode M.2.1 pc = .ok (.astore n, 2) ∧ pc + 2 = pc') (ho : zok1 ls n = true) (hn : n < M.2.2.1) (h2 : ls.set n (some (.ref q)) = ls2) (k : PW G M fr X pc' ls2 st σ) : PW G M fr X pc ls (.ref q :: st) σ := by
  obtain ⟨d, rfl⟩ := d
  subst h2
  exact fun p l e R s m args below meth c Z A H0 hc H la locs hP hD hS hl => lv_astore hc.1 hc.2.1 d (zhas_lv hl) hn rfl (fun la' h' => k _ _ _ _ _ _ _ _ _ _ _ _ _ hc _ _ _ hP hD hS (zhas_set ho h'))
theorem PW_lstore_n {n : Fin 4} (d : decode M.2.1 pc = .ok (.lstore_n n, 1) ∧ pc + 1 = pc') (ho : zok1 ls (n : Nat) = true) (hn : (n : Nat) + 1 < M.2.2.1) (h2 : (ls.set (n : Nat) (some (lZ z))).set ((n : Nat) + 1) none = ls2) (k : PW G M fr X pc' ls2 st σ) : PW G M fr X pc ls (lZ z :: st) σ := by
  obtain ⟨d, rfl⟩ := d
  subst h2
  exact fun p l e R s m args below meth c Z A H0 hc H la locs hP hD hS hl => lv_lstore_n hc.1 hc.2.1 d rfl (zhas_lv hl) hn rfl (fun la' h' => k _ _ _ _ _ _ _ _ _ _ _ _ _ hc _ _ _ hP hD hS (zhas_set2 ho h'))
theorem PW_lstore {n : Nat} (d : decode M.2.1 pc = .ok (.lstore n, 2) ∧ pc + 2 = pc') (ho : zok1 ls n = true) (hn : n + 1 < M.2.2.1) (h2 : (ls.set n (some (lZ z))).set (n + 1) none = ls2) (k : PW G M fr X pc' ls2 st σ) : PW G M fr X pc ls (lZ z :: st) σ := by
  obtain ⟨d, rfl⟩ := d
  subst h2
  exact fun p l e R s m args below meth c Z A H0 hc H la locs hP hD hS hl => lv_lstore hc.1 hc.2.1 d (zhas_lv hl) hn rfl (fun la' h' => k _ _ _ _ _ _ _ _ _ _ _ _ _ hc _ _ _ hP hD hS (zhas_set2 ho h'))
theorem PW_iinc {i : Nat} {n : Int} (d : decode M.2.1 pc = .ok (.iinc i n, 3) ∧ pc + 3 = pc') (h : ls[i]? = some (some (iZ z))) (ho : zok1 ls i = true) (hn : i < M.2.2.1) (h2 : ls.set i (some (iZ (z + n))) = ls2) (k : PW G M fr X pc' ls2 st σ) : PW G M fr X pc ls st σ := by
  obtain ⟨d, rfl⟩ := d
  subst h2
  intro p l e R s m args below meth c Z A H0 hc H la locs hP hD hS hl
  obtain ⟨j, hj⟩ := List.getElem?_of_mem (zl_mem.mpr h)
  exact lv_iinc (v := Int32.ofInt (z + n)) hc.1 hc.2.1 d (zhas_lv hl) hj (Int32.ofInt_add z n).symm hn rfl (fun la' h' => k _ _ _ _ _ _ _ _ _ _ _ _ _ hc _ _ _ hP hD hS (zhas_set ho h'))
theorem PW_iadd (d : decode M.2.1 pc = .ok (.iadd, 1) ∧ pc + 1 = pc') (k : PW G M fr X pc' ls (iZ (x + y) :: st) σ) : PW G M fr X pc ls (iZ y :: iZ x :: st) σ := by
  obtain ⟨d, rfl⟩ := d
  have q9 := (Int32.ofInt_add x y).symm
  exact fun p l e R s m args below meth c Z A H0 hc H la locs hP hD hS hl => lv_iadd hc.1 hc.2.1 d (by rw [q9]; exact k _ _ _ _ _ _ _ _ _ _ _ _ _ hc _ _ _ hP hD hS hl)
theorem PW_isub (d : decode M.2.1 pc = .ok (.isub, 1) ∧ pc + 1 = pc') (k : PW G M fr X pc' ls (iZ (x - y) :: st) σ) : PW G M fr X pc ls (iZ y :: iZ x :: st) σ := by
  obtain ⟨d, rfl⟩ := d
  have q9 := (Int32.ofInt_sub x y).symm
  exact fun p l e R s m args below meth c Z A H0 hc H la locs hP hD hS hl => lv_isub hc.1 hc.2.1 d (by rw [q9]; exact k _ _ _ _ _ _ _ _ _ _ _ _ _ hc _ _ _ hP hD hS hl)
theorem PW_imul (d : decode M.2.1 pc = .ok (.imul, 1) ∧ pc + 1 = pc') (k : PW G M fr X pc' ls (iZ (x * y) :: st) σ) : PW G M fr X pc ls (iZ y :: iZ x :: st) σ := by
  obtain ⟨d, rfl⟩ := d
  have q9 := (Int32.ofInt_mul x y).symm
  exact fun p l e R s m args below meth c Z A H0 hc H la locs hP hD hS hl => lv_imul hc.1 hc.2.1 d (by rw [q9]; exact k _ _ _ _ _ _ _ _ _ _ _ _ _ hc _ _ _ hP hD hS hl)
theorem PW_iand (d : decode M.2.1 pc = .ok (.iand, 1) ∧ pc + 1 = pc') (h : 0 ≤ x ∧ 0 ≤ y) (k : PW G M fr X pc' ls (iZ (zand x y) :: st) σ) : PW G M fr X pc ls (iZ y :: iZ x :: st) σ := by
  obtain ⟨d, rfl⟩ := d
  have q9 := zandN h.1 h.2
  exact fun p l e R s m args below meth c Z A H0 hc H la locs hP hD hS hl => lv_iand hc.1 hc.2.1 d (by rw [q9]; exact k _ _ _ _ _ _ _ _ _ _ _ _ _ hc _ _ _ hP hD hS hl)
theorem PW_ior (d : decode M.2.1 pc = .ok (.ior, 1) ∧ pc + 1 = pc') (h : 0 ≤ x ∧ 0 ≤ y) (k : PW G M fr X pc' ls (iZ (zor x y) :: st) σ) : PW G M fr X pc ls (iZ y :: iZ x :: st) σ := by
  obtain ⟨d, rfl⟩ := d
  have q9 := zorN h.1 h.2
  exact fun p l e R s m args below meth c Z A H0 hc H la locs hP hD hS hl => lv_ior hc.1 hc.2.1 d (by rw [q9]; exact k _ _ _ _ _ _ _ _ _ _ _ _ _ hc _ _ _ hP hD hS hl)
theorem PW_ixor (d : decode M.2.1 pc = .ok (.ixor, 1) ∧ pc + 1 = pc') (h : 0 ≤ x ∧ 0 ≤ y) (k : PW G M fr X pc' ls (iZ (zxor x y) :: st) σ) : PW G M fr X pc ls (iZ y :: iZ x :: st) σ := by
  obtain ⟨d, rfl⟩ := d
  have q9 := zxorN h.1 h.2
  exact fun p l e R s m args below meth c Z A H0 hc H la locs hP hD hS hl => lv_ixor hc.1 hc.2.1 d (by rw [q9]; exact k _ _ _ _ _ _ _ _ _ _ _ _ _ hc _ _ _ hP hD hS hl)
theorem PW_iandG (d : decode M.2.1 pc = .ok (.iand, 1) ∧ pc + 1 = pc') (h : Int32.ofInt x &&& Int32.ofInt y = Int32.ofInt z) (k : PW G M fr X pc' ls (iZ (z) :: st) σ) : PW G M fr X pc ls (iZ y :: iZ x :: st) σ := by
  obtain ⟨d, rfl⟩ := d
  have q9 := h
  exact fun p l e R s m args below meth c Z A H0 hc H la locs hP hD hS hl => lv_iand hc.1 hc.2.1 d (by rw [q9]; exact k _ _ _ _ _ _ _ _ _ _ _ _ _ hc _ _ _ hP hD hS hl)
theorem PW_iorG (d : decode M.2.1 pc = .ok (.ior, 1) ∧ pc + 1 = pc') (h : Int32.ofInt x ||| Int32.ofInt y = Int32.ofInt z) (k : PW G M fr X pc' ls (iZ (z) :: st) σ) : PW G M fr X pc ls (iZ y :: iZ x :: st) σ := by
  obtain ⟨d, rfl⟩ := d
  have q9 := h
  exact fun p l e R s m args below meth c Z A H0 hc H la locs hP hD hS hl => lv_ior hc.1 hc.2.1 d (by rw [q9]; exact k _ _ _ _ _ _ _ _ _ _ _ _ _ hc _ _ _ hP hD hS hl)
theorem PW_ixorG (d : decode M.2.1 pc = .ok (.ixor, 1) ∧ pc + 1 = pc') (h : Int32.ofInt x ^^^ Int32.ofInt y = Int32.ofInt z) (k : PW G M fr X pc' ls (iZ (z) :: st) σ) : PW G M fr X pc ls (iZ y :: iZ x :: st) σ := by
  obtain ⟨d, rfl⟩ := d
  have q9 := h
  exact fun p l e R s m args below meth c Z A H0 hc H la locs hP hD hS hl => lv_ixor hc.1 hc.2.1 d (by rw [q9]; exact k _ _ _ _ _ _ _ _ _ _ _ _ _ hc _ _ _ hP hD hS hl)
theorem PW_ishl (d : decode M.2.1 pc = .ok (.ishl, 1) ∧ pc + 1 = pc') (h : 0 ≤ y ∧ y < 32) (k : PW G M fr X pc' ls (iZ (x * 2 ^ y.toNat) :: st) σ) : PW G M fr X pc ls (iZ y :: iZ x :: st) σ := by
  obtain ⟨d, rfl⟩ := d
  have q9 := (zshl (a := x) h)
  exact fun p l e R s m args below meth c Z A H0 hc H la locs hP hD hS hl => lv_ishl hc.1 hc.2.1 d (by rw [q9]; exact k _ _ _ _ _ _ _ _ _ _ _ _ _ hc _ _ _ hP hD hS hl)
theorem PW_ishr (d : decode M.2.1 pc = .ok (.ishr, 1) ∧ pc + 1 = pc') (h : (-2147483648 ≤ x ∧ x < 2147483648) ∧ 0 ≤ y ∧ y < 32) (k : PW G M fr X pc' ls (iZ (x / 2 ^ y.toNat) :: st) σ) : PW G M fr X pc ls (iZ y :: iZ x :: st) σ := by
  obtain ⟨d, rfl⟩ := d
  have q9 := (zshr (a := x) h.1 h.2)
  exact fun p l e R s m args below meth c Z A H0 hc H la locs hP hD hS hl => lv_ishr hc.1 hc.2.1 d (by rw [q9]; exact k _ _ _ _ _ _ _ _ _ _ _ _ _ hc _ _ _ hP hD hS hl)
theorem PW_ishlC (c : Int) (d : decode M.2.1 pc = .ok (.ishl, 1) ∧ pc + 1 = pc') (h : 0 ≤ y ∧ y < 32) (hc : (2 : Int) ^ y.toNat = c) (k : PW G M fr X pc' ls (iZ (x * c) :: st) σ) : PW G M fr X pc ls (iZ y :: iZ x :: st) σ := PW_ishl d h (hc ▸ k)
theorem PW_ishrC (c : Int) (d : decode M.2.1 pc = .ok (.ishr, 1) ∧ pc + 1 = pc') (h : (-2147483648 ≤ x ∧ x < 2147483648) ∧ 0 ≤ y ∧ y < 32) (hc : (2 : Int) ^ y.toNat = c) (k : PW G M fr X pc' ls (iZ (x / c) :: st) σ) : PW G M fr X pc ls (iZ y :: iZ x :: st) σ := PW_ishr d h (hc ▸ k)
theorem PW_idiv (d : decode M.2.1 pc = .ok (.idiv, 1) ∧ pc + 1 = pc') (h : (0 ≤ x ∧ x < 2147483648) ∧ 0 < y ∧ y < 2147483648) (k : PW G M fr X pc' ls (iZ (x / y) :: st) σ) : PW G M fr X pc ls (iZ y :: iZ x :: st) σ := by
  obtain ⟨d, rfl⟩ := d
  have q9 := zdiv h.1 h.2
  exact fun p l e R s m args below meth c Z A H0 hc H la locs hP hD hS hl => lv_idiv hc.1 hc.2.1 d (fun q => by rw [zeq0 (by omega)] at q; omega) (by rw [q9]; exact k _ _ _ _ _ _ _ _ _ _ _ _ _ hc _ _ _ hP hD hS hl)
theorem PW_irem (d : decode M.2.1 pc = .ok (.irem, 1) ∧ pc + 1 = pc') (h : (0 ≤ x ∧ x < 2147483648) ∧ 0 < y ∧ y < 2147483648) (k : PW G M fr X pc' ls (iZ (x % y) :: st) σ) : PW G M fr X pc ls (iZ y :: iZ x :: st) σ := by
  obtain ⟨d, rfl⟩ := d
  have q9 := zrem h.1 h.2
  exact fun p l e R s m args below meth c Z A H0 hc H la locs hP hD hS hl => lv_irem hc.1 hc.2.1 d (fun q => by rw [zeq0 (by omega)] at q; omega) (by rw [q9]; exact k _ _ _ _ _ _ _ _ _ _ _ _ _ hc _ _ _ hP hD hS hl)
theorem PW_ixorM (d : decode M.2.1 pc = .ok (.ixor, 1) ∧ pc + 1 = pc') (k : PW G M fr X pc' ls (iZ (-1 - x) :: st) σ) : PW G M fr X pc ls (iZ (-1) :: iZ x :: st) σ := PW_ixorG d zxorM k
theorem PW_dup {v : Value} (d : decode M.2.1 pc = .ok (.dup, 1) ∧ pc + 1 = pc') (hv : v.category = 1) (k : PW G M fr X pc' ls (v :: v :: st) σ) : PW G M fr X pc ls (v :: st) σ := by
  obtain ⟨d, rfl⟩ := d
  exact fun p l e R s m args below meth c Z A H0 hc H la locs hP hD hS hl => lv_dup hc.1 hc.2.1 d hv (k _ _ _ _ _ _ _ _ _ _ _ _ _ hc _ _ _ hP hD hS hl)
theorem PW_pop {v : Value} (d : decode M.2.1 pc = .ok (.pop, 1) ∧ pc + 1 = pc') (hv : v.category = 1) (k : PW G M fr X pc' ls st σ) : PW G M fr X pc ls (v :: st) σ := by
  obtain ⟨d, rfl⟩ := d
  exact fun p l e R s m args below meth c Z A H0 hc H la locs hP hD hS hl => lv_pop hc.1 hc.2.1 d hv (k _ _ _ _ _ _ _ _ _ _ _ _ _ hc _ _ _ hP hD hS hl)
theorem PW_dup2 {v u : Value} (d : decode M.2.1 pc = .ok (.dup2, 1) ∧ pc + 1 = pc') (hv : v.category = 1) (hu : u.category = 1) (k : PW G M fr X pc' ls (v :: u :: v :: u :: st) σ) : PW G M fr X pc ls (v :: u :: st) σ := by
  obtain ⟨d, rfl⟩ := d
  exact fun p l e R s m args below meth c Z A H0 hc H la locs hP hD hS hl => lv_dup2_11 hc.1 hc.2.1 d hv hu (k _ _ _ _ _ _ _ _ _ _ _ _ _ hc _ _ _ hP hD hS hl)
theorem PW_goto {off : Int} (d : decode M.2.1 pc = .ok (.goto off, 3) ∧ (pc : Int) + off = (tgt : Int) ∧ pc + 3 = pc') (k : PW G M fr X tgt ls st σ) : PW G M fr X pc ls st σ :=
  fun p l e R s m args below meth c Z A H0 hc H la locs hP hD hS hl => lv_goto hc.1 hc.2.1 d.1 d.2.1 (k _ _ _ _ _ _ _ _ _ _ _ _ _ hc _ _ _ hP hD hS hl)
theorem PW_icmp_eq {off : Int} (d : decode M.2.1 pc = .ok (.if_icmp .eq off, 3) ∧ (pc : Int) + off = (tgt : Int) ∧ pc + 3 = pc') (h : (-2147483648 ≤ x ∧ x < 2147483648) ∧ (-2147483648 ≤ y ∧ y < 2147483648)) (kt : x = y → PW G M fr X tgt ls st σ) (kf : x ≠ y → PW G M fr X pc' ls st σ) : PW G M fr X pc ls (iZ y :: iZ x :: st) σ := by
  obtain ⟨d, d2, rfl⟩ := d
  exact fun p l e R s m args below meth c Z A H0 hc H la locs hP hD hS hl => lv_icmp_eq hc.1 hc.2.1 d d2 (fun q => kt (by rw [zeq h] at q; omega) _ _ _ _ _ _ _ _ _ _ _ _ _ hc _ _ _ hP hD hS hl) (fun q => kf (by rw [zeq h] at q; omega) _ _ _ _ _ _ _ _ _ _ _ _ _ hc _ _ _ hP hD hS hl)
theorem PW_icmp_ne {off : Int} (d : decode M.2.1 pc = .ok (.if_icmp .ne off, 3) ∧ (pc : Int) + off = (tgt : Int) ∧ pc + 3 = pc') (h : (-2147483648 ≤ x ∧ x < 2147483648) ∧ (-2147483648 ≤ y ∧ y < 2147483648)) (kt : x ≠ y → PW G M fr X tgt ls st σ) (kf : x = y → PW G M fr X pc' ls st σ) : PW G M fr X pc ls (iZ y :: iZ x :: st) σ := by
  obtain ⟨d, d2, rfl⟩ := d
  exact fun p l e R s m args below meth c Z A H0 hc H la locs hP hD hS hl => lv_icmp_ne hc.1 hc.2.1 d d2 (fun q => kt (by rw [zeq h] at q; omega) _ _ _ _ _ _ _ _ _ _ _ _ _ hc _ _ _ hP hD hS hl) (fun q => kf (by rw [zeq h] at q; omega) _ _ _ _ _ _ _ _ _ _ _ _ _ hc _ _ _ hP hD hS hl)
theorem PW_icmp_lt {off : Int} (d : decode M.2.1 pc = .ok (.if_icmp .lt off, 3) ∧ (pc : Int) + off = (tgt : Int) ∧ pc + 3 = pc') (h : (-2147483648 ≤ x ∧ x < 2147483648) ∧ (-2147483648 ≤ y ∧ y < 2147483648)) (kt : x < y → PW G M fr X tgt ls st σ) (kf : y ≤ x → PW G M fr X pc' ls st σ) : PW G M fr X pc ls (iZ y :: iZ x :: st) σ := by
  obtain ⟨d, d2, rfl⟩ := d
  exact fun p l e R s m args below meth c Z A H0 hc H la locs hP hD hS hl => lv_icmp_lt hc.1 hc.2.1 d d2 (fun q => kt (by rw [zlt h] at q; omega) _ _ _ _ _ _ _ _ _ _ _ _ _ hc _ _ _ hP hD hS hl) (fun q => kf (by rw [zlt h] at q; omega) _ _ _ _ _ _ _ _ _ _ _ _ _ hc _ _ _ hP hD hS hl)
theorem PW_icmp_ge {off : Int} (d : decode M.2.1 pc = .ok (.if_icmp .ge off, 3) ∧ (pc : Int) + off = (tgt : Int) ∧ pc + 3 = pc') (h : (-2147483648 ≤ x ∧ x < 2147483648) ∧ (-2147483648 ≤ y ∧ y < 2147483648)) (kt : y ≤ x → PW G M fr X tgt ls st σ) (kf : x < y → PW G M fr X pc' ls st σ) : PW G M fr X pc ls (iZ y :: iZ x :: st) σ := by
  obtain ⟨d, d2, rfl⟩ := d
  exact fun p l e R s m args below meth c Z A H0 hc H la locs hP hD hS hl => lv_icmp_ge hc.1 hc.2.1 d d2 (fun q => kt (by (try rw [zle h] at q); (try rw [zle ⟨h.2, h.1⟩] at q); (try rw [zlt h] at q); (try rw [zlt ⟨h.2, h.1⟩] at q); omega) _ _ _ _ _ _ _ _ _ _ _ _ _ hc _ _ _ hP hD hS hl) (fun q => kf (by (try rw [zle h] at q); (try rw [zle ⟨h.2, h.1⟩] at q); (try rw [zlt h] at q); (try rw [zlt ⟨h.2, h.1⟩] at q); omega) _ _ _ _ _ _ _ _ _ _ _ _ _ hc _ _ _ hP hD hS hl)
theorem PW_icmp_gt {off : Int} (d : decode M.2.1 pc = .ok (.if_icmp .gt off, 3) ∧ (pc : Int) + off = (tgt : Int) ∧ pc + 3 = pc') (h : (-2147483648 ≤ x ∧ x < 2147483648) ∧ (-2147483648 ≤ y ∧ y < 2147483648)) (kt : y < x → PW G M fr X tgt ls st σ) (kf : x ≤ y → PW G M fr X pc' ls st σ) : PW G M fr X pc ls (iZ y :: iZ x :: st) σ := by
  obtain ⟨d, d2, rfl⟩ := d
  exact fun p l e R s m args below meth c Z A H0 hc H la locs hP hD hS hl => lv_icmp_gt hc.1 hc.2.1 d d2 (fun q => kt (by (try rw [zle h] at q); (try rw [zle ⟨h.2, h.1⟩] at q); (try rw [zlt h] at q); (try rw [zlt ⟨h.2, h.1⟩] at q); omega) _ _ _ _ _ _ _ _ _ _ _ _ _ hc _ _ _ hP hD hS hl) (fun q => kf (by (try rw [zle h] at q); (try rw [zle ⟨h.2, h.1⟩] at q); (try rw [zlt h] at q); (try rw [zlt ⟨h.2, h.1⟩] at q); omega) _ _ _ _ _ _ _ _ _ _ _ _ _ hc _ _ _ hP hD hS hl)
theorem PW_icmp_le {off : Int} (d : decode M.2.1 pc = .ok (.if_icmp .le off, 3) ∧ (pc : Int) + off = (tgt : Int) ∧ pc + 3 = pc') (h : (-2147483648 ≤ x ∧ x < 2147483648) ∧ (-2147483648 ≤ y ∧ y < 2147483648)) (kt : x ≤ y → PW G M fr X tgt ls st σ) (kf : y < x → PW G M fr X pc' ls st σ) : PW G M fr X pc ls (iZ y :: iZ x :: st) σ := by
  obtain ⟨d, d2, rfl⟩ := d
  exact fun p l e R s m args below meth c Z A H0 hc H la locs hP hD hS hl => lv_icmp_le hc.1 hc.2.1 d d2 (fun q => kt (by (try rw [zle h] at q); (try rw [zle ⟨h.2, h.1⟩] at q); (try rw [zlt h] at q); (try rw [zlt ⟨h.2, h.1⟩] at q); omega) _ _ _ _ _ _ _ _ _ _ _ _ _ hc _ _ _ hP hD hS hl) (fun q => kf (by (try rw [zle h] at q); (try rw [zle ⟨h.2, h.1⟩] at q); (try rw [zlt h] at q); (try rw [zlt ⟨h.2, h.1⟩] at q); omega) _ _ _ _ _ _ _ _ _ _ _ _ _ hc _ _ _ hP hD hS hl)
theorem PW_if_eq {off : Int} (d : decode M.2.1 pc = .ok (.ifCond .eq off, 3) ∧ (pc : Int) + off = (tgt : Int) ∧ pc + 3 = pc') (h : -2147483648 ≤ x ∧ x < 2147483648) (kt : x = 0 → PW G M fr X tgt ls st σ) (kf : x ≠ 0 → PW G M fr X pc' ls st σ) : PW G M fr X pc ls (iZ x :: st) σ := by
  obtain ⟨d, d2, rfl⟩ := d
  exact fun p l e R s m args below meth c Z A H0 hc H la locs hP hD hS hl => lv_if_eq hc.1 hc.2.1 d d2 (fun q => kt (by rw [zeq0 h] at q; exact q) _ _ _ _ _ _ _ _ _ _ _ _ _ hc _ _ _ hP hD hS hl) (fun q => kf (by rw [zeq0 h] at q; exact q) _ _ _ _ _ _ _ _ _ _ _ _ _ hc _ _ _ hP hD hS hl)
theorem PW_if_ne {off : Int} (d : decode M.2.1 pc = .ok (.ifCond .ne off, 3) ∧ (pc : Int) + off = (tgt : Int) ∧ pc + 3 = pc') (h : -2147483648 ≤ x ∧ x < 2147483648) (kt : x ≠ 0 → PW G M fr X tgt ls st σ) (kf : x = 0 → PW G M fr X pc' ls st σ) : PW G M fr X pc ls (iZ x :: st) σ := by
  obtain ⟨d, d2, rfl⟩ := d
  exact fun p l e R s m args below meth c Z A H0 hc H la locs hP hD hS hl => lv_if_ne hc.1 hc.2.1 d d2 (fun q => kt (by rw [zeq0 h] at q; exact q) _ _ _ _ _ _ _ _ _ _ _ _ _ hc _ _ _ hP hD hS hl) (fun q => kf (by rw [zeq0 h] at q; exact q) _ _ _ _ _ _ _ _ _ _ _ _ _ hc _ _ _ hP hD hS hl)
theorem PW_if_lt {off : Int} (d : decode M.2.1 pc = .ok (.ifCond .lt off, 3) ∧ (pc : Int) + off = (tgt : Int) ∧ pc + 3 = pc') (h : -2147483648 ≤ x ∧ x < 2147483648) (kt : x < 0 → PW G M fr X tgt ls st σ) (kf : 0 ≤ x → PW G M fr X pc' ls st σ) : PW G M fr X pc ls (iZ x :: st) σ := by
  obtain ⟨d, d2, rfl⟩ := d
  exact fun p l e R s m args below meth c Z A H0 hc H la locs hP hD hS hl => lv_if_lt hc.1 hc.2.1 d d2 (fun q => kt (by (try rw [zlt0 h] at q); (try rw [zle0 h] at q); (try rw [show (0 : Int32) = Int32.ofInt 0 from rfl, zle (a := 0) ⟨by decide, h⟩] at q); (try rw [show (0 : Int32) = Int32.ofInt 0 from rfl, zlt (a := 0) ⟨by decide, h⟩] at q); omega) _ _ _ _ _ _ _ _ _ _ _ _ _ hc _ _ _ hP hD hS hl) (fun q => kf (by (try rw [zlt0 h] at q); (try rw [zle0 h] at q); (try rw [show (0 : Int32) = Int32.ofInt 0 from rfl, zle (a := 0) ⟨by decide, h⟩] at q); (try rw [show (0 : Int32) = Int32.ofInt 0 from rfl, zlt (a := 0) ⟨by decide, h⟩] at q); omega) _ _ _ _ _ _ _ _ _ _ _ _ _ hc _ _ _ hP hD hS hl)
theorem PW_if_ge {off : Int} (d : decode M.2.1 pc = .ok (.ifCond .ge off, 3) ∧ (pc : Int) + off = (tgt : Int) ∧ pc + 3 = pc') (h : -2147483648 ≤ x ∧ x < 2147483648) (kt : 0 ≤ x → PW G M fr X tgt ls st σ) (kf : x < 0 → PW G M fr X pc' ls st σ) : PW G M fr X pc ls (iZ x :: st) σ := by
  obtain ⟨d, d2, rfl⟩ := d
  exact fun p l e R s m args below meth c Z A H0 hc H la locs hP hD hS hl => lv_if_ge hc.1 hc.2.1 d d2 (fun q => kt (by (try rw [zlt0 h] at q); (try rw [zle0 h] at q); (try rw [show (0 : Int32) = Int32.ofInt 0 from rfl, zle (a := 0) ⟨by decide, h⟩] at q); (try rw [show (0 : Int32) = Int32.ofInt 0 from rfl, zlt (a := 0) ⟨by decide, h⟩] at q); omega) _ _ _ _ _ _ _ _ _ _ _ _ _ hc _ _ _ hP hD hS hl) (fun q => kf (by (try rw [zlt0 h] at q); (try rw [zle0 h] at q); (try rw [show (0 : Int32) = Int32.ofInt 0 from rfl, zle (a := 0) ⟨by decide, h⟩] at q); (try rw [show (0 : Int32) = Int32.ofInt 0 from rfl, zlt (a := 0) ⟨by decide, h⟩] at q); omega) _ _ _ _ _ _ _ _ _ _ _ _ _ hc _ _ _ hP hD hS hl)
theorem PW_if_gt {off : Int} (d : decode M.2.1 pc = .ok (.ifCond .gt off, 3) ∧ (pc : Int) + off = (tgt : Int) ∧ pc + 3 = pc') (h : -2147483648 ≤ x ∧ x < 2147483648) (kt : 0 < x → PW G M fr X tgt ls st σ) (kf : x ≤ 0 → PW G M fr X pc' ls st σ) : PW G M fr X pc ls (iZ x :: st) σ := by
  obtain ⟨d, d2, rfl⟩ := d
  exact fun p l e R s m args below meth c Z A H0 hc H la locs hP hD hS hl => lv_if_gt hc.1 hc.2.1 d d2 (fun q => kt (by (try rw [zlt0 h] at q); (try rw [zle0 h] at q); (try rw [show (0 : Int32) = Int32.ofInt 0 from rfl, zle (a := 0) ⟨by decide, h⟩] at q); (try rw [show (0 : Int32) = Int32.ofInt 0 from rfl, zlt (a := 0) ⟨by decide, h⟩] at q); omega) _ _ _ _ _ _ _ _ _ _ _ _ _ hc _ _ _ hP hD hS hl) (fun q => kf (by (try rw [zlt0 h] at q); (try rw [zle0 h] at q); (try rw [show (0 : Int32) = Int32.ofInt 0 from rfl, zle (a := 0) ⟨by decide, h⟩] at q); (try rw [show (0 : Int32) = Int32.ofInt 0 from rfl, zlt (a := 0) ⟨by decide, h⟩] at q); omega) _ _ _ _ _ _ _ _ _ _ _ _ _ hc _ _ _ hP hD hS hl)
theorem PW_if_le {off : Int} (d : decode M.2.1 pc = .ok (.ifCond .le off, 3) ∧ (pc : Int) + off = (tgt : Int) ∧ pc + 3 = pc') (h : -2147483648 ≤ x ∧ x < 2147483648) (kt : x ≤ 0 → PW G M fr X tgt ls st σ) (kf : 0 < x → PW G M fr X pc' ls st σ) : PW G M fr X pc ls (iZ x :: st) σ := by
  obtain ⟨d, d2, rfl⟩ := d
  exact fun p l e R s m args below meth c Z A H0 hc H la locs hP hD hS hl => lv_if_le hc.1 hc.2.1 d d2 (fun q => kt (by (try rw [zlt0 h] at q); (try rw [zle0 h] at q); (try rw [show (0 : Int32) = Int32.ofInt 0 from rfl, zle (a := 0) ⟨by decide, h⟩] at q); (try rw [show (0 : Int32) = Int32.ofInt 0 from rfl, zlt (a := 0) ⟨by decide, h⟩] at q); omega) _ _ _ _ _ _ _ _ _ _ _ _ _ hc _ _ _ hP hD hS hl) (fun q => kf (by (try rw [zlt0 h] at q); (try rw [zle0 h] at q); (try rw [show (0 : Int32) = Int32.ofInt 0 from rfl, zle (a := 0) ⟨by decide, h⟩] at q); (try rw [show (0 : Int32) = Int32.ofInt 0 from rfl, zlt (a := 0) ⟨by decide, h⟩] at q); omega) _ _ _ _ _ _ _ _ _ _ _ _ _ hc _ _ _ hP hD hS hl)
theorem PW_ifb_eq {P : Prop} [Decidable P] {off : Int} (d : decode M.2.1 pc = .ok (.ifCond .eq off, 3) ∧ (pc : Int) + off = (tgt : Int) ∧ pc + 3 = pc') (kt : ¬ P → PW G M fr X tgt ls st σ) (kf : P → PW G M fr X pc' ls st σ) : PW G M fr X pc ls (iZ (zb P) :: st) σ :=
  PW_if_eq d (by rcases zb_01 P with h | h <;> rw [h] <;> decide) (fun h => kt (zb_eq0.mp h)) (fun h => kf (zb_ne0.mp h))
theorem PW_ifb_ne {P : Prop} [Decidable P] {off : Int} (d : decode M.2.1 pc = .ok (.ifCond .ne off, 3) ∧ (pc : Int) + off = (tgt : Int) ∧ pc + 3 = pc') (kt : P → PW G M fr X tgt ls st σ) (kf : ¬ P → PW G M fr X pc' ls st σ) : PW G M fr X pc ls (iZ (zb P) :: st) σ :=
  PW_if_ne d (by rcases zb_01 P with h | h <;> rw [h] <;> decide) (fun h => kt (zb_ne0.mp h)) (fun h => kf (zb_eq0.mp h))
theorem PW_z {x' : Int} (h : x = x') (k : PW G M fr X pc ls (iZ x' :: st) σ) : PW G M fr X pc ls (iZ x :: st) σ := h ▸ k
theorem PW_s {σ' : zPH} (h : σ = σ') (k : PW G M fr X pc ls st σ') : PW G M fr X pc ls st σ := h ▸ k
theorem PW_getI {q idx ci k : Nat} {tys : List Nat} {ds : String} (d : decode M.2.1 pc = .ok (.getfield idx, 3) ∧ pc + 3 = pc') (f : zFL M.1.cls idx ci k ds) (hs : zsh G.2.2.2 q = .inl (ci, tys)) (ht : tys[k]? = some (0)) (kk : PW G M fr X pc' ls (iZ (σ q k) :: st) σ) : PW G M fr X pc ls (zr G q :: st) σ := by
  obtain ⟨d, rfl⟩ := d
  obtain ⟨C, T, N, hcl, hk, hds, hw⟩ := f
  obtain ⟨hin, -, -⟩ := zcl_ok ci _ hcl
  intro p l e R s m args below meth c Z A H0 hc H la locs hP hD hS hl
  have hq := zws_at (G := G) (σ := σ) (zlt94 hs)
  simp only [zcell, hs, zent] at hq
  subst hds
  exact va_get (v := iZ (σ q k)) hc.1 hc.2.1 hc.2.2.2.2.1 hin hc.2.2.2.1 hc.2.2.2.2.2.1 hP q hq hcl k hk (hc.2.2.2.2.1 _ hw) (fun _ h9 => h9) (by rw [zfs_at ht]; rfl) d (kk _ _ _ _ _ _ _ _ _ _ _ _ _ hc _ _ _ hP hD hS hl)
theorem PW_getZ {q idx ci k : Nat} {tys : List Nat} {ds : String} (d : decode M.2.1 pc = .ok (.getfield idx, 3) ∧ pc + 3 = pc') (f : zFL M.1.cls idx ci k ds) (hs : zsh G.2.2.2 q = .inl (ci, tys)) (ht : tys[k]? = some (2)) (kk : PW G M fr X pc' ls (iZ (σ q k) :: st) σ) : PW G M fr X pc ls (zr G q :: st) σ := by
  obtain ⟨d, rfl⟩ := d
  obtain ⟨C, T, N, hcl, hk, hds, hw⟩ := f
  obtain ⟨hin, -, -⟩ := zcl_ok ci _ hcl
  intro p l e R s m args below meth c Z A H0 hc H la locs hP hD hS hl
  have hq := zws_at (G := G) (σ := σ) (zlt94 hs)
  simp only [zcell, hs, zent] at hq
  subst hds
  exact va_get (v := iZ (σ q k)) hc.1 hc.2.1 hc.2.2.2.2.1 hin hc.2.2.2.1 hc.2.2.2.2.2.1 hP q hq hcl k hk (hc.2.2.2.2.1 _ hw) (fun _ h9 => h9) (by rw [zfs_at ht]; rfl) d (kk _ _ _ _ _ _ _ _ _ _ _ _ _ hc _ _ _ hP hD hS hl)
theorem PW_getL {q idx ci k : Nat} {tys : List Nat} {ds : String} (d : decode M.2.1 pc = .ok (.getfield idx, 3) ∧ pc + 3 = pc') (f : zFL M.1.cls idx ci k ds) (hs : zsh G.2.2.2 q = .inl (ci, tys)) (ht : tys[k]? = some (1)) (kk : PW G M fr X pc' ls (lZ (σ q k) :: st) σ) : PW G M fr X pc ls (zr G q :: st) σ := by
  obtain ⟨d, rfl⟩ := d
  obtain ⟨C, T, N, hcl, hk, hds, hw⟩ := f
  obtain ⟨hin, -, -⟩ := zcl_ok ci _ hcl
  intro p l e R s m args below meth c Z A H0 hc H la locs hP hD hS hl
  have hq := zws_at (G := G) (σ := σ) (zlt94 hs)
  simp only [zcell, hs, zent] at hq
  subst hds
  exact va_get (v := lZ (σ q k)) hc.1 hc.2.1 hc.2.2.2.2.1 hin hc.2.2.2.1 hc.2.2.2.2.2.1 hP q hq hcl k hk (hc.2.2.2.2.1 _ hw) (fun _ h9 => h9) (by rw [zfs_at ht]; rfl) d (kk _ _ _ _ _ _ _ _ _ _ _ _ _ hc _ _ _ hP hD hS hl)
theorem PW_getR {q idx ci k : Nat} {tys : List Nat} {ds : String} {r : Nat} (d : decode M.2.1 pc = .ok (.getfield idx, 3) ∧ pc + 3 = pc') (f : zFL M.1.cls idx ci k ds) (hs : zsh G.2.2.2 q = .inl (ci, tys)) (ht : tys[k]? = some (r + 4)) (kk : PW G M fr X pc' ls (zr G r :: st) σ) : PW G M fr X pc ls (zr G q :: st) σ := by
  obtain ⟨d, rfl⟩ := d
  obtain ⟨C, T, N, hcl, hk, hds, hw⟩ := f
  obtain ⟨hin, -, -⟩ := zcl_ok ci _ hcl
  intro p l e R s m args below meth c Z A H0 hc H la locs hP hD hS hl
  have hq := zws_at (G := G) (σ := σ) (zlt94 hs)
  simp only [zcell, hs, zent] at hq
  subst hds
  exact va_get (v := zr G r) hc.1 hc.2.1 hc.2.2.2.2.1 hin hc.2.2.2.1 hc.2.2.2.2.2.1 hP q hq hcl k hk (hc.2.2.2.2.1 _ hw) (fun _ h9 => h9) (by rw [zfs_at ht]; rfl) d (kk _ _ _ _ _ _ _ _ _ _ _ _ _ hc _ _ _ hP hD hS hl)
theorem PW_getD {q idx ci k : Nat} {tys : List Nat} {ds : String} {r : Nat} (d : decode M.2.1 pc = .ok (.getfield idx, 3) ∧ pc + 3 = pc') (f : zFL M.1.cls idx ci k ds) (hs : zsh G.2.2.2 q = .inl (ci, tys)) (ht : tys[k]? = some (3)) (hv : σ q k = ((r : Nat) : Int)) (kk : PW G M fr X pc' ls (zr G r :: st) σ) : PW G M fr X pc ls (zr G q :: st) σ := by
  obtain ⟨d, rfl⟩ := d
  obtain ⟨C, T, N, hcl, hk, hds, hw⟩ := f
  obtain ⟨hin, -, -⟩ := zcl_ok ci _ hcl
  intro p l e R s m args below meth c Z A H0 hc H la locs hP hD hS hl
  have hq := zws_at (G := G) (σ := σ) (zlt94 hs)
  simp only [zcell, hs, zent] at hq
  subst hds
  exact va_get (v := zr G r) hc.1 hc.2.1 hc.2.2.2.2.1 hin hc.2.2.2.1 hc.2.2.2.2.2.1 hP q hq hcl k hk (hc.2.2.2.2.1 _ hw) (fun _ h9 => h9) (by rw [zfs_at ht]; rw [show zsv G 3 (σ q k) = zr G (σ q k).toNat from rfl, hv]; rfl) d (kk _ _ _ _ _ _ _ _ _ _ _ _ _ hc _ _ _ hP hD hS hl)
theorem PW_putI {q idx ci k : Nat} {tys : List Nat} (d : decode M.2.1 pc = .ok (.putfield idx, 3) ∧ pc + 3 = pc') (f : zFP M.1.cls idx ci k "I") (hs : zsh G.2.2.2 q = .inl (ci, tys)) (ht : tys[k]? = some (0)) (kk : PW G M fr X pc' ls st (zupd σ q k z)) : PW G M fr X pc ls (iZ z :: zr G q :: st) σ := by
  obtain ⟨d, rfl⟩ := d
  obtain ⟨C, T, N, hcl, hk, hds, hw, hfin⟩ := f
  obtain ⟨hin, ⟨ty0, hty⟩, hnm⟩ := zcl_ok ci _ hcl
  intro p l e R s m args below meth c Z A H0 hc H la locs hP hD hS hl
  have hq := zws_at (G := G) (σ := σ) (zlt94 hs)
  simp only [zcell, hs, zent] at hq
  have hset := zws_set (G := G) (σ := σ) (a := q) (k := k) (z := z) (e := .inr (ci, (zfs G tys (σ q)).set k (iZ z))) (by rw [hs]; simp only [zent]; rw [zfs_set ht (v := iZ z) rfl])
  have hlen : k < (zfs G tys (σ q)).length := by rw [zfs_len]; exact (List.getElem?_eq_some_iff.mp ht).1
  refine va_put (v := iZ z) (ty := .int) hc.1 hc.2.1 hc.2.2.2.2.1 hin ty0 hty hnm hc.2.2.2.1 hc.2.2.2.2.2.1 hP hD hS q hq hcl k hk (by rw [hds]; exact hc.2.2.2.2.1 _ hw) (fun _ h9 => h9) hfin (by rw [hds]; decide +kernel) (rfl) (rfl) hlen d (fun H1 locs1 hP1 hD1 hS1 => ?_)
  rw [hset] at hP1 hD1
  exact kk _ _ _ _ _ _ _ _ _ _ _ _ _ hc _ _ _ hP1 hD1 hS1 hl
theorem PW_putZ {q idx ci k : Nat} {tys : List Nat} (d : decode M.2.1 pc = .ok (.putfield idx, 3) ∧ pc + 3 = pc') (f : zFP M.1.cls idx ci k "Z") (hs : zsh G.2.2.2 q = .inl (ci, tys)) (ht : tys[k]? = some (2)) (hz : z = 0 ∨ z = 1) (kk : PW G M fr X pc' ls st (zupd σ q k z)) : PW G M fr X pc ls (iZ z :: zr G q :: st) σ := by
  obtain ⟨d, rfl⟩ := d
  obtain ⟨C, T, N, hcl, hk, hds, hw, hfin⟩ := f
  obtain ⟨hin, ⟨ty0, hty⟩, hnm⟩ := zcl_ok ci _ hcl
  intro p l e R s m args below meth c Z A H0 hc H la locs hP hD hS hl
  have hq := zws_at (G := G) (σ := σ) (zlt94 hs)
  simp only [zcell, hs, zent] at hq
  have hset := zws_set (G := G) (σ := σ) (a := q) (k := k) (z := z) (e := .inr (ci, (zfs G tys (σ q)).set k (iZ z))) (by rw [hs]; simp only [zent]; rw [zfs_set ht (v := iZ z) rfl])
  have hlen : k < (zfs G tys (σ q)).length := by rw [zfs_len]; exact (List.getElem?_eq_some_iff.mp ht).1
  refine va_put (v := iZ z) (ty := .boolean) hc.1 hc.2.1 hc.2.2.2.2.1 hin ty0 hty hnm hc.2.2.2.1 hc.2.2.2.2.2.1 hP hD hS q hq hcl k hk (by rw [hds]; exact hc.2.2.2.2.1 _ hw) (fun _ h9 => h9) hfin (by rw [hds]; decide +kernel) (by rcases hz with rfl | rfl <;> rfl) (by rcases hz with rfl | rfl <;> rfl) hlen d (fun H1 locs1 hP1 hD1 hS1 => ?_)
  rw [hset] at hP1 hD1
  exact kk _ _ _ _ _ _ _ _ _ _ _ _ _ hc _ _ _ hP1 hD1 hS1 hl
theorem PW_putL {q idx ci k : Nat} {tys : List Nat} (d : decode M.2.1 pc = .ok (.putfield idx, 3) ∧ pc + 3 = pc') (f : zFP M.1.cls idx ci k "J") (hs : zsh G.2.2.2 q = .inl (ci, tys)) (ht : tys[k]? = some (1)) (kk : PW G M fr X pc' ls st (zupd σ q k z)) : PW G M fr X pc ls (lZ z :: zr G q :: st) σ := by
  obtain ⟨d, rfl⟩ := d
  obtain ⟨C, T, N, hcl, hk, hds, hw, hfin⟩ := f
  obtain ⟨hin, ⟨ty0, hty⟩, hnm⟩ := zcl_ok ci _ hcl
  intro p l e R s m args below meth c Z A H0 hc H la locs hP hD hS hl
  have hq := zws_at (G := G) (σ := σ) (zlt94 hs)
  simp only [zcell, hs, zent] at hq
  have hset := zws_set (G := G) (σ := σ) (a := q) (k := k) (z := z) (e := .inr (ci, (zfs G tys (σ q)).set k (lZ z))) (by rw [hs]; simp only [zent]; rw [zfs_set ht (v := lZ z) rfl])
  have hlen : k < (zfs G tys (σ q)).length := by rw [zfs_len]; exact (List.getElem?_eq_some_iff.mp ht).1
  refine va_put (v := lZ z) (ty := .long) hc.1 hc.2.1 hc.2.2.2.2.1 hin ty0 hty hnm hc.2.2.2.1 hc.2.2.2.2.2.1 hP hD hS q hq hcl k hk (by rw [hds]; exact hc.2.2.2.2.1 _ hw) (fun _ h9 => h9) hfin (by rw [hds]; decide +kernel) (rfl) (rfl) hlen d (fun H1 locs1 hP1 hD1 hS1 => ?_)
  rw [hset] at hP1 hD1
  exact kk _ _ _ _ _ _ _ _ _ _ _ _ _ hc _ _ _ hP1 hD1 hS1 hl
theorem PW_putD {q idx ci k : Nat} {tys : List Nat} {r : Nat} {ds : String} {fty : FieldType} (d : decode M.2.1 pc = .ok (.putfield idx, 3) ∧ pc + 3 = pc') (f : zFP M.1.cls idx ci k ds) (hs : zsh G.2.2.2 q = .inl (ci, tys)) (ht : tys[k]? = some (3)) (hd : parseFieldDescriptor ds = some fty) (hfo : (∃ C, fty = .object C) ∨ ∃ t, fty = .array t) (kk : PW G M fr X pc' ls st (zupd σ q k ((r : Nat) : Int))) : PW G M fr X pc ls (zr G r :: zr G q :: st) σ := by
  obtain ⟨d, rfl⟩ := d
  obtain ⟨C, T, N, hcl, hk, hds, hw, hfin⟩ := f
  obtain ⟨hin, ⟨ty0, hty⟩, hnm⟩ := zcl_ok ci _ hcl
  intro p l e R s m args below meth c Z A H0 hc H la locs hP hD hS hl
  have hq := zws_at (G := G) (σ := σ) (zlt94 hs)
  simp only [zcell, hs, zent] at hq
  have hset := zws_set (G := G) (σ := σ) (a := q) (k := k) (z := ((r : Nat) : Int)) (e := .inr (ci, (zfs G tys (σ q)).set k (zr G r))) (by rw [hs]; simp only [zent]; rw [zfs_set ht (v := zr G r) (by show zr G (((r : Nat) : Int)).toNat = _; rw [Int.toNat_natCast])])
  have hlen : k < (zfs G tys (σ q)).length := by rw [zfs_len]; exact (List.getElem?_eq_some_iff.mp ht).1
  refine va_put (v := zr G r) (ty := fty) hc.1 hc.2.1 hc.2.2.2.2.1 hin ty0 hty hnm hc.2.2.2.1 hc.2.2.2.2.2.1 hP hD hS q hq hcl k hk (by rw [hds]; exact hc.2.2.2.2.1 _ hw) (fun _ h9 => h9) hfin (by rw [hds]; exact hd) (by rcases hfo with ⟨C, rfl⟩ | ⟨C, rfl⟩ <;> rfl) (by rcases hfo with ⟨C, rfl⟩ | ⟨C, rfl⟩ <;> rfl) hlen d (fun H1 locs1 hP1 hD1 hS1 => ?_)
  rw [hset] at hP1 hD1
  exact kk _ _ _ _ _ _ _ _ _ _ _ _ _ hc _ _ _ hP1 hD1 hS1 hl
theorem PW_iaload {q n : Nat} (d : decode M.2.1 pc = .ok (.iaload, 1) ∧ pc + 1 = pc') (hs : zsh G.2.2.2 q = .inr (0, n)) (h : 0 ≤ x ∧ x < n) (k : PW G M fr X pc' ls (iZ (σ q x.toNat) :: st) σ) (hn : n ≤ 2147483648 := by decide) : PW G M fr X pc ls (iZ x :: zr G q :: st) σ := by
  obtain ⟨d, rfl⟩ := d
  intro p l e R s m args below meth c Z A H0 hc H la locs hP hD hS hl
  have hq := zws_at (G := G) (σ := σ) (zlt94a hs (by omega))
  simp only [zcell, hs, zent, zarr] at hq
  refine va_iald (i := Int32.ofInt x) hc.1 hc.2.1 hc.2.2.2.2.2.1 hP q 0 hq rfl (zvpin h hn) d ?_
  rw [zclamp (by omega)]
  exact k _ _ _ _ _ _ _ _ _ _ _ _ _ hc _ _ _ hP hD hS hl
theorem PW_iastore {q n : Nat} (d : decode M.2.1 pc = .ok (.iastore, 1) ∧ pc + 1 = pc') (hs : zsh G.2.2.2 q = .inr (0, n)) (h : 0 ≤ x ∧ x < n) (k : PW G M fr X pc' ls st (zupd σ q x.toNat z)) (hn : n ≤ 2147483648 := by decide) : PW G M fr X pc ls (iZ z :: iZ x :: zr G q :: st) σ := by
  obtain ⟨d, rfl⟩ := d
  intro p l e R s m args below meth c Z A H0 hc H la locs hP hD hS hl
  have hq := zws_at (G := G) (σ := σ) (zlt94a hs (by omega))
  simp only [zcell, hs, zent, zarr] at hq
  have hset := zws_set (G := G) (σ := σ) (a := q) (k := x.toNat) (z := z) (e := .inl (G.2.2.1 0, n, .inl (upd (fun k => Int32.ofInt (σ q k)) x.toNat (Int32.ofInt z)))) (by
    rw [hs]; simp only [zent, zarr]
    congr 4
    funext j
    by_cases hj : j = x.toNat
    · subst hj; simp [zupd, upd]
    · simp [zupd, upd, hj])
  refine va_iast (i := Int32.ofInt x) (x := Int32.ofInt z) hc.1 hc.2.1 hc.2.2.2.2.2.1 hP hD hS q 0 hq rfl (zvpin h hn) d (fun H1 locs1 hP1 hD1 hS1 => ?_)
  skip
  rw [zclamp (by omega), hset] at hP1 hD1
  exact k _ _ _ _ _ _ _ _ _ _ _ _ _ hc _ _ _ hP1 hD1 hS1 hl
theorem PW_alen {q e n : Nat} (d : decode M.2.1 pc = .ok (.arraylength, 1) ∧ pc + 1 = pc') (hs : zsh G.2.2.2 q = .inr (e, n)) (he : e < 2) (hq : q < 58) (k : PW G M fr X pc' ls (iZ ((n : Nat) : Int) :: st) σ) : PW G M fr X pc ls (zr G q :: st) σ := by
  obtain ⟨d, rfl⟩ := d
  intro p l E R s m args below meth c Z A H0 hc H la locs hP hD hS hl
  have hq := zws_at (G := G) (σ := σ) hq
  simp only [zcell, hs, zent] at hq
  have hn : (zarr e n (σ q)).1 = n := rfl
  have ht : (ztys G)[e]? = some (G.2.2.1 e, zety e) := by
    rcases (show e = 0 ∨ e = 1 by omega) with rfl | rfl <;> rfl
  exact va_alen hc.1 hc.2.1 hc.2.2.2.2.2.1 hP q e hq ht (v := Int32.ofInt n) (by rw [hn]; exact Int32.ofInt_eq_ofNat.symm) d (k _ _ _ _ _ _ _ _ _ _ _ _ _ hc _ _ _ hP hD hS hl)
theorem PW_iret (d : decode M.2.1 pc = .ok (.ireturn, 1) ∧ pc + 1 = pc') (hr : M.2.2.2 = some .int) (hx : X (some (iZ z)) σ) : PW G M fr X pc ls [iZ z] σ :=
  fun p l e R s m args below meth c Z A H0 hc H la locs hP hD hS hl => hc.2.2.2.2.2.2.2.2.2 _ _ _ _ _ _ hx hP hD hS (Or.inl ⟨d.1, z, .int, rfl, hr, rfl⟩)
theorem PW_zret (d : decode M.2.1 pc = .ok (.ireturn, 1) ∧ pc + 1 = pc') (hr : M.2.2.2 = some .boolean) (hz : z = 0 ∨ z = 1) (hx : X (some (iZ z)) σ) : PW G M fr X pc ls [iZ z] σ :=
  fun p l e R s m args below meth c Z A H0 hc H la locs hP hD hS hl => hc.2.2.2.2.2.2.2.2.2 _ _ _ _ _ _ hx hP hD hS (Or.inl ⟨d.1, z, .boolean, rfl, hr, by rcases hz with rfl | rfl <;> rfl⟩)
theorem PW_aret {q : Nat} {C : String} (d : decode M.2.1 pc = .ok (.areturn, 1) ∧ pc + 1 = pc') (hr : M.2.2.2 = some (.object C)) (hx : X (some (zr G q)) σ) : PW G M fr X pc ls [zr G q] σ :=
  fun p l e R s m args below meth c Z A H0 hc H la locs hP hD hS hl => hc.2.2.2.2.2.2.2.2.2 _ _ _ _ _ _ hx hP hD hS (Or.inr (Or.inl ⟨d.1, _, C, rfl, hr⟩))
theorem PW_vret (d : decode M.2.1 pc = .ok (.return_, 1) ∧ pc + 1 = pc') (hr : M.2.2.2 = none) (hx : X none σ) : PW G M fr X pc ls [] σ :=
  fun p l e R s m args below meth c Z A H0 hc H la locs hP hD hS hl => hc.2.2.2.2.2.2.2.2.2 _ _ _ _ _ _ hx hP hD hS (Or.inr (Or.inr ⟨d.1, rfl, hr⟩))
end PWR
