def zsp (a t : Nat) : Nat → zPH → zPH
  | 0, σ => σ
  | k + 1, σ => zpass a t (zsp a t k σ (a + 3) k / 8) (zsp a t k σ (a + 3) k % 8) (zsp a t k σ)
theorem zpass_row {a t : Nat} {n c : Int} {σ : zPH} {q : Nat} (h1 : q ≠ a) (h2 : q ≠ a + 1) (h3 : q ≠ a + 3) (h4 : q ≠ a + 4) : zpass a t n c σ q = σ q := zpassv_row h1 h2 h3 h4
theorem zpass_fld {a t : Nat} {n c : Int} {σ : zPH} {j : Nat} (h : j ≠ 3) : zpass a t n c σ a j = σ a j := zpassv_fld h
theorem zsp_row {a t k : Nat} {σ : zPH} {q : Nat} (h1 : q ≠ a) (h2 : q ≠ a + 1) (h3 : q ≠ a + 3) (h4 : q ≠ a + 4) : zsp a t k σ q = σ q := by
  induction k with
  | zero => rfl
  | succ k ih => rw [zsp, zpass_row h1 h2 h3 h4, ih]
theorem zsp_fld {a t k : Nat} {σ : zPH} {j : Nat} (h : j ≠ 3) : zsp a t k σ a j = σ a j := by
  induction k with
  | zero => rfl
  | succ k ih => rw [zsp, zpass_fld h, ih]
theorem zTrow {a t : Nat} (ha : zisL a) (ht : zisT t) {q : Nat} (h1 : t ≤ q) (h2 : q ≤ t + 12) : q ≠ a ∧ q ≠ a + 1 ∧ q ≠ a + 2 ∧ q ≠ a + 3 ∧ q ≠ a + 4 := by
  have ha2 : a = 19 ∨ a = 24 := ha
  have ht2 : t = 32 ∨ t = 45 := ht
  omega
theorem zsp_Ts {a t k : Nat} {σ : zPH} (ha : zisL a) (ht : zisT t) (h : zTs σ t) : zTs (zsp a t k σ) t := h.to fun q h1 h2 => by
  obtain ⟨e1, e2, e3, e4, e5⟩ := zTrow ha ht h1 h2
  exact zsp_row e1 e2 e4 e5
theorem zsp_Ls {a t k : Nat} {σ : zPH} (ha : zisL a) (ht : zisT t) (hL : zLs σ a) (hT : zTs σ t) : zLs (zsp a t k σ) a := by
  induction k with
  | zero => exact hL
  | succ k ih => exact zpassv_Ls ih (zsp_Ts ha ht hT).1 (by omega)
def zdk (a : Nat) : Nat → zPH → zPH
  | 0, σ => σ
  | k + 1, σ => zupd (zdk a k σ) (a + 1) (σ (a + 3) k / 8).toNat 0
theorem zdk_row {a k : Nat} {σ : zPH} {q : Nat} (h : q ≠ a + 1) : zdk a k σ q = σ q := by
  induction k with
  | zero => rfl
  | succ k ih => rw [zdk, zupd_row h, ih]
def zlm (a t : Nat) (lamps cols : Int) : Nat → zPH → zPH
  | 0, σ => σ
  | k + 1, σ => if lamps / 2 ^ k % 2 = 1 ∧ σ (t + 3) (σ (t + 9) k).toNat ≠ -1 then zsend a (σ (t + 1) (σ (t + 3) (σ (t + 9) k).toNat * 4 + σ (t + 7) (σ (t + 9) k).toNat).toNat) (zand (σ (t + 6) (σ (t + 9) k).toNat) cols) 1 (zlm a t lamps cols k σ) else zlm a t lamps cols k σ
theorem zlm_row {a t k : Nat} {l c : Int} {σ : zPH} {q : Nat} (h1 : q ≠ a) (h2 : q ≠ a + 1) (h3 : q ≠ a + 3) (h4 : q ≠ a + 4) : zlm a t l c k σ q = σ q := by
  induction k with
  | zero => rfl
  | succ k ih =>
    rw [zlm]; split
    · rw [zsend_row h1 h2 h3 h4, ih]
    · exact ih
theorem zlm_fld {a t k : Nat} {l c : Int} {σ : zPH} {j : Nat} (h : j ≠ 3) : zlm a t l c k σ a j = σ a j := by
  induction k with
  | zero => rfl
  | succ k ih =>
    rw [zlm]; split
    · rw [zsend_fld h, ih]
    · exact ih
/-- lamps' numbers -/
def zTl (σ : zPH) (t : Nat) : Prop := ∀ k : Nat, (k : Int) < σ (t + 8) 0 → (0 ≤ σ (t + 7) (σ (t + 9) k).toNat ∧ σ (t + 7) (σ (t + 9) k).toNat < 4) ∧ 0 ≤ σ (t + 6) (σ (t + 9) k).toNat
theorem zlm_Ls {a t k : Nat} {l c : Int} {σ : zPH} (hL : zLs σ a) (hT : zTs σ t) (hTl : zTl σ t) (hk : (k : Int) ≤ σ (t + 8) 0) : zLs (zlm a t l c k σ) a := by
  induction k with
  | zero => exact hL
  | succ k ih =>
    rw [zlm]; split
    · obtain ⟨-, -, -, hP, -⟩ := hT
      have h6 := (hP (σ (t + 9) k).toNat).2.2.1
      exact zsend_Ls (ih (by omega)) (hT.1 _) (zand_8 ⟨(hTl k (by omega)).2, h6.2⟩)
    · exact ih (by omega)
def zey (a t : Nat) : Nat → zPH → zPH
  | 0, σ => σ
  | e + 1, σ => if zci σ a (σ (t + 3) (σ (t + 9) (24 + e)).toNat) = 0 then zupd (zey a t e σ) (a + 2) e (zci σ a (σ (t + 3) (σ (t + 9) (24 + e)).toNat))
    else zupd (zupd (zey a t e σ) (a + 2) e (zci σ a (σ (t + 3) (σ (t + 9) (24 + e)).toNat))) a 2 (zor (zey a t e σ a 2) (2 ^ e))
theorem zey_row {a t e : Nat} {σ : zPH} {q : Nat} (h1 : q ≠ a) (h2 : q ≠ a + 2) : zey a t e σ q = σ q := by
  induction e with
  | zero => rfl
  | succ e ih =>
    rw [zey]; split
    · rw [zupd_row h2, ih]
    · rw [zupd_row h1, zupd_row h2, ih]
theorem zey_fld {a t e : Nat} {σ : zPH} {j : Nat} (h : j ≠ 2) : zey a t e σ a j = σ a j := by
  induction e with
  | zero => rfl
  | succ e ih =>
    rw [zey]; split
    · rw [zupd_na (by omega), ih]
    · rw [zupd_nk h, zupd_na (by omega), ih]
theorem zey_b {a t e : Nat} {σ : zPH} (h0 : σ a 2 = 0) : 0 ≤ zey a t e σ a 2 ∧ zey a t e σ a 2 < ((2 ^ e : Nat) : Int) := by
  induction e with
  | zero => rw [zey, h0]; decide
  | succ e ih =>
    have h2 : ((2 ^ (e + 1) : Nat) : Int) = ((2 ^ e : Nat) : Int) * 2 := by rw [Nat.pow_succ]; omega
    rw [zey]; split
    · rw [zupd_na (by omega)]; omega
    · rw [zupd_same]
      refine ⟨zor_nn _ _, zor_lt (e + 1) (by omega) ?_⟩
      have := Nat.two_pow_pos e
      have e2 : ((2 : Int) ^ e) = ((2 ^ e : Nat) : Int) := by rw [Int.natCast_pow]; rfl
      omega
theorem zey_Ls {a t e : Nat} {σ : zPH} (hL : zLs σ a) : zLs (zey a t e σ) a := by
  unfold zLs at *
  rw [zey_fld (by omega), zey_row (by omega) (by omega), zey_row (by omega) (by omega)]
  exact hL
theorem zci_8 {σ : zPH} {a : Nat} {q : Int} (hL : zLs σ a) : 0 ≤ zci σ a q ∧ zci σ a q < 8 := by
  unfold zci
  split
  · decide
  · have h := hL.2.1
    exact ⟨zor_nn _ _, zor_lt 3 (zor_lt 3 (zor_lt 3 (h _).2 (h _).2) (h _).2) (h _).2⟩
theorem zci_to {σ σ' : zPH} {a : Nat} {q : Int} (h : σ' (a + 1) = σ (a + 1)) : zci σ' a q = zci σ a q := by unfold zci; rw [h]

set_option maxHeartbeats 4000000 in
set_option maxRecDepth 100000 in
theorem ms_L_spread {G : zG} {σ : zPH} {X : zX} {a t : Nat} (ha : zisL a) (ht : zisT t) (hL : zLs σ a) (hT : zTs σ t) (h6 : 0 ≤ σ a 6 ∧ σ a 6 < 2147483648) (h7 : 0 ≤ σ a 7 ∧ σ a 7 < 2147483648) (hX : ∀ k : Nat, k ≤ 1728 → (zsp a t k σ a 3 ≤ k ∨ k = 1728) → (∀ j : Nat, j < k → (j : Int) < zsp a t j σ a 3) → X none (zsp a t k σ)) : MS G zm_L_spread 2 [zr G a, zr G t] σ X := by
  have ha2 : a = 19 ∨ a = 24 := ha
  have ht2 : t = 32 ∨ t = 45 := ht
  have hLk : ∀ k, zLs (zsp a t k σ) a := fun k => zsp_Ls ha ht hL hT
  have hTk : ∀ k, zTs (zsp a t k σ) t := fun k => zsp_Ts ha ht hT
  have h6k : ∀ k, zsp a t k σ a 6 = σ a 6 := fun k => zsp_fld (by decide)
  have h7k : ∀ k, zsp a t k σ a 7 = σ a 7 := fun k => zsp_fld (by decide)
  refine ms_of (ls := [some (zr G a), some (zr G t), none]) zk_L_spread (Nat.le_of_ble_eq_true rfl) rfl ?_
  refine PW_iconst zd_L_spread_0 ?_
  refine PW_istore_n zd_L_spread_1 rfl (by decide) (ls2 := [_, _, _]) rfl ?_
  have hl_2 : ∀ (n : Nat) (k : Nat), k ≤ 1728 ∧ (∀ j : Nat, j < k → (j : Int) < zsp a t j σ a 3) → 1729 - k < n → PW G zm_L_spread 2 X 2 [some (zr G a), some (zr G t), some (iZ (k : Int))] [] (zsp a t k σ) := by
    intro n; induction n with
    | zero => intro k hI hm; exact absurd hm (Nat.not_lt_zero _)
    | succ n ih =>
      intro k hI hm
      obtain ⟨hk, hI⟩ := hI
      obtain ⟨hA, -, hR⟩ := hLk k
      have hRk := hR k
      have h6q := h6k k
      have h7q := h7k k
      refine PW_iload_n zd_L_spread_2 rfl ?_
      refine PW_aload_n zd_L_spread_3 rfl ?_
      refine PW_getI zd_L_spread_4 zf_L_76 (zsL_0 ha) rfl ?_
      try simp (disch := omega) only [zupd_same, zupd_na, zupd_nk, zsend_row, zsend_fld, zsp_row, zsp_fld, zdk_row, zlm_row, zlm_fld, zey_row, zsh1_row, zsh2_row, zsh3_row, Int.toNat_natCast]
      refine PW_icmp_ge zd_L_spread_7 (by omega) (fun h7 => ?_) (fun h7 => ?_)
      · refine PW_vret zd_L_spread_44 rfl ?_
        exact hX k hk (by omega) hI
      · refine PW_iload_n zd_L_spread_10 rfl ?_
        refine PW_aload_n zd_L_spread_11 rfl ?_
        refine PW_getR zd_L_spread_12 zf_L_18 (zsL_0 ha) rfl ?_
        refine PW_alen zd_L_spread_15 (zsL_3 ha) (by decide) (by rcases ha with rfl | rfl <;> decide) ?_
        refine PW_icmp_ge zd_L_spread_16 (by omega) (fun h16 => ?_) (fun h16 => ?_)
        · refine PW_vret zd_L_spread_44 rfl ?_
          exact hX k hk (by omega) hI
        · refine PW_aload_n zd_L_spread_19 rfl ?_
          refine PW_aload_n zd_L_spread_20 rfl ?_
          refine PW_aload_n zd_L_spread_21 rfl ?_
          refine PW_iload_n zd_L_spread_22 rfl ?_
          refine PW_callV1i zd_L_spread_23 zl_L_79 zk_L_arrivedNode zv_L_arrivedNode (fr' := 0) (by omega) (zsL_0 ha) rfl rfl (Nat.le_of_ble_eq_true rfl) ?_
          refine ms_L_arrivedNode ha (by omega) (by rw [Int.toNat_natCast]; exact hRk) ?_
          refine ⟨_, rfl, ?_⟩
          rw [Int.toNat_natCast]
          refine PW_aload_n zd_L_spread_26 rfl ?_
          refine PW_getR zd_L_spread_27 zf_L_18 (zsL_0 ha) rfl ?_
          refine PW_iload_n zd_L_spread_30 rfl ?_
          refine PW_iaload zd_L_spread_31 (zsL_3 ha) (by omega) ?_
          try simp (disch := omega) only [zupd_same, zupd_na, zupd_nk, zsend_row, zsend_fld, zsp_row, zsp_fld, zdk_row, zlm_row, zlm_fld, zey_row, zsh1_row, zsh2_row, zsh3_row, Int.toNat_natCast]
          refine PW_bipush zd_L_spread_32 rfl ?_
          refine PW_iand zd_L_spread_34 (by omega) ?_
          refine PW_z (zand_7 hRk.1) ?_
          refine PW_callV3v zd_L_spread_35 zl_L_72 zk_L_pass zv_L_pass (fr' := 1) (by omega) (zsL_0 ha) rfl rfl (Nat.le_of_ble_eq_true rfl) ?_
          refine ms_L_pass ha ht (hLk k) (hTk k) (by omega) (by omega) (by omega) (by omega) ?_
          refine ⟨rfl, ?_⟩
          refine PW_iinc zd_L_spread_38 rfl rfl (by decide) (ls2 := [_, _, _]) rfl ?_
          refine PW_goto zd_L_spread_41 ?_
          exact ih (k + 1) ⟨by omega, fun j hj => by
            rcases (show j < k ∨ j = k by omega) with q | q
            · exact hI j q
            · subst q; omega⟩ (by omega)
  exact hl_2 1729 0 ⟨by omega, fun j hj => by omega⟩ (by omega)

set_option maxHeartbeats 4000000 in
set_option maxRecDepth 100000 in
theorem ms_L_darken {G : zG} {σ : zPH} {X : zX} {a : Nat} (ha : zisL a) (hL : zLs σ a) (hX : X none (zupd (zdk a (σ a 3).toNat σ) a 3 0)) : MS G zm_L_darken 1 [zr G a] σ X := by
  have ha2 : a = 19 ∨ a = 24 := ha
  obtain ⟨hA, -, hR⟩ := id hL
  refine ms_of (ls := [some (zr G a), none]) zk_L_darken (Nat.le_of_ble_eq_true rfl) rfl ?_
  refine PW_iconst zd_L_darken_0 ?_
  refine PW_istore_n zd_L_darken_1 rfl (by decide) (ls2 := [_, _]) rfl ?_
  have hl_2 : ∀ (n : Nat) (k : Nat), (k : Int) ≤ σ a 3 → 1729 - k < n → PW G zm_L_darken 1 X 2 [some (zr G a), some (iZ (k : Int))] [] (zdk a k σ) := by
    intro n; induction n with
    | zero => intro k hI hm; exact absurd hm (Nat.not_lt_zero _)
    | succ n ih =>
      intro k hI hm
      have hRk := hR k
      refine PW_iload_n zd_L_darken_2 rfl ?_
      refine PW_aload_n zd_L_darken_3 rfl ?_
      refine PW_getI zd_L_darken_4 zf_L_76 (zsL_0 ha) rfl ?_
      try simp (disch := omega) only [zupd_same, zupd_na, zupd_nk, zsend_row, zsend_fld, zsp_row, zsp_fld, zdk_row, zlm_row, zlm_fld, zey_row, zsh1_row, zsh2_row, zsh3_row, Int.toNat_natCast]
      refine PW_icmp_ge zd_L_darken_7 (by omega) (fun h7 => ?_) (fun h7 => ?_)
      · refine PW_aload_n zd_L_darken_27 rfl ?_
        refine PW_iconst zd_L_darken_28 ?_
        refine PW_putI zd_L_darken_29 zp_L_76 (zsL_0 ha) rfl ?_
        refine PW_vret zd_L_darken_32 rfl ?_
        exact zretσ hX (by rw [show (σ a 3).toNat = k by omega])
      · refine PW_aload_n zd_L_darken_10 rfl ?_
        refine PW_getR zd_L_darken_11 zf_L_9 (zsL_0 ha) rfl ?_
        refine PW_aload_n zd_L_darken_14 rfl ?_
        refine PW_iload_n zd_L_darken_15 rfl ?_
        refine PW_callV1i zd_L_darken_16 zl_L_79 zk_L_arrivedNode zv_L_arrivedNode (fr' := 0) (by omega) (zsL_0 ha) rfl rfl (Nat.le_of_ble_eq_true rfl) ?_
        refine ms_L_arrivedNode ha (by omega) (by rw [Int.toNat_natCast, zdk_row (by omega)]; exact hRk) ?_
        refine ⟨_, rfl, ?_⟩
        rw [Int.toNat_natCast, zdk_row (by omega)]
        refine PW_iconst zd_L_darken_19 ?_
        refine PW_iastore zd_L_darken_20 (zsL_1 ha) (by omega) ?_
        refine PW_iinc zd_L_darken_21 rfl rfl (by decide) (ls2 := [_, _]) rfl ?_
        refine PW_goto zd_L_darken_24 ?_
        exact ih (k + 1) (by omega) (by omega)
  exact hl_2 1729 0 (by omega) (by omega)

theorem zdk_Ls {a k : Nat} {σ : zPH} (hL : zLs σ a) : zLs (zupd (zdk a k σ) a 3 0) a := by
  obtain ⟨h1, h2, h3⟩ := hL
  refine ⟨by rw [zupd_same]; decide, fun n => ?_, fun n => ?_⟩
  · rw [zupd_na (by omega)]
    induction k with
    | zero => exact h2 n
    | succ k ih =>
      rw [zdk]
      by_cases hn : n = (σ (a + 3) k / 8).toNat
      · subst hn; rw [zupd_same]; decide
      · rw [zupd_nk hn]; exact ih
  · rw [zupd_na (by omega), zdk_row (by omega)]; exact h3 n

/-- what shine leaves: darkened, the lamps sent, k nodes passed, the eyes told -/
def zsh1 (a : Nat) (tu st : Int) (σ : zPH) : zPH := zupd (zupd (zupd (zdk a (σ a 3).toNat σ) a 3 0) a 6 tu) a 7 st
def zsh2 (a t : Nat) (tu st lamps cols : Int) (σ : zPH) : zPH := zlm a t lamps cols (σ (t + 8) 0).toNat (zsh1 a tu st σ)
def zsh3 (a t : Nat) (tu st lamps cols : Int) (k : Nat) (σ : zPH) : zPH := zupd (zsp a t k (zsh2 a t tu st lamps cols σ)) a 2 0
theorem zsh1_row {a : Nat} {tu st : Int} {σ : zPH} {q : Nat} (h1 : q ≠ a) (h2 : q ≠ a + 1) : zsh1 a tu st σ q = σ q := by
  unfold zsh1
  rw [zupd_row h1, zupd_row h1, zupd_row h1, zdk_row h2]
theorem zsh2_row {a t : Nat} {tu st l c : Int} {σ : zPH} {q : Nat} (h1 : q ≠ a) (h2 : q ≠ a + 1) (h3 : q ≠ a + 3) (h4 : q ≠ a + 4) : zsh2 a t tu st l c σ q = σ q := by
  unfold zsh2
  rw [zlm_row h1 h2 h3 h4, zsh1_row h1 h2]
theorem zsh3_row {a t k : Nat} {tu st l c : Int} {σ : zPH} {q : Nat} (h1 : q ≠ a) (h2 : q ≠ a + 1) (h3 : q ≠ a + 3) (h4 : q ≠ a + 4) : zsh3 a t tu st l c k σ q = σ q := by
  unfold zsh3
  rw [zupd_row h1, zsp_row h1 h2 h3 h4, zsh2_row h1 h2 h3 h4]
theorem zsh1_Ls {a : Nat} {tu st : Int} {σ : zPH} (hL : zLs σ a) : zLs (zsh1 a tu st σ) a := by
  obtain ⟨h1, h2, h3⟩ := zdk_Ls (k := (σ a 3).toNat) hL
  unfold zsh1
  refine ⟨?_, fun n => ?_, fun n => ?_⟩
  · rw [zupd_nk (by omega), zupd_nk (by omega)]; exact h1
  · rw [zupd_na (by omega), zupd_na (by omega)]; exact h2 n
  · rw [zupd_na (by omega), zupd_na (by omega)]; exact h3 n
theorem zTl.to {σ σ' : zPH} {t : Nat} (h : zTl σ t) (hr : ∀ q, t ≤ q → q ≤ t + 12 → σ' q = σ q) : zTl σ' t := by
  unfold zTl at *
  rw [hr (t + 6) (by omega) (by omega), hr (t + 7) (by omega) (by omega), hr (t + 8) (by omega) (by omega), hr (t + 9) (by omega) (by omega)]
  exact h

set_option maxHeartbeats 4000000 in
set_option maxRecDepth 100000 in
theorem ms_L_shine {G : zG} {σ : zPH} {X : zX} {a t : Nat} (ha : zisL a) (ht : zisT t) (hL : zLs σ a) (hT : zTs σ t) (hTl : zTl σ t) {tu st lm c : Int} (h6 : 0 ≤ tu ∧ tu < 2147483648) (h7 : 0 ≤ st ∧ st < 2147483648) (hlm : 0 ≤ lm ∧ lm < 2147483648) (hc : 0 ≤ c ∧ c < 8) (hX : ∀ k : Nat, k ≤ 1728 → (zsp a t k (zsh2 a t tu st lm c σ) a 3 ≤ k ∨ k = 1728) → (∀ j : Nat, j < k → (j : Int) < zsp a t j (zsh2 a t tu st lm c σ) a 3) → X none (zey a t (σ (t + 8) 3).toNat (zsh3 a t tu st lm c k σ))) : MS G zm_L_shine 3 [zr G a, zr G t, iZ tu, iZ st, iZ lm, iZ c] σ X := by
  have ha2 : a = 19 ∨ a = 24 := ha
  have ht2 : t = 32 ∨ t = 45 := ht
  obtain ⟨hN, hPo, hSq, hPc, hCt, hMb, -⟩ := id hT
  have hC0 := hCt 0
  have hC3 := hCt 3
  have hL1 := zsh1_Ls (tu := tu) (st := st) hL
  have hr1 : ∀ q, t ≤ q → q ≤ t + 12 → zsh1 a tu st σ q = σ q := fun q e1 e2 => by
    obtain ⟨f1, f2, f3, f4, f5⟩ := zTrow ha ht e1 e2
    exact zsh1_row f1 f2
  have hT1 := hT.to hr1
  have hTl1 := hTl.to hr1
  have hsh : ∀ (x : Int) (n : Nat), 0 ≤ x → 0 ≤ x / 2 ^ n := fun x n hx => Int.ediv_nonneg hx (Int.le_of_lt (Int.pow_pos (by decide)))
  have g6 : zsh1 a tu st σ a 6 = tu := by unfold zsh1; rw [zupd_nk (by omega), zupd_same]
  have g7 : zsh1 a tu st σ a 7 = st := by unfold zsh1; rw [zupd_same]
  refine ms_of (ls := [some (zr G a), some (zr G t), some (iZ tu), some (iZ st), some (iZ lm), some (iZ c), none, none, none]) zk_L_shine (Nat.le_of_ble_eq_true rfl) rfl ?_
  refine PW_aload_n zd_L_shine_0 rfl ?_
  refine PW_callV0v zd_L_shine_1 zl_L_24 zk_L_darken zv_L_darken (fr' := 1) (by omega) (zsL_0 ha) rfl rfl (Nat.le_of_ble_eq_true rfl) ?_
  refine ms_L_darken ha hL ?_
  refine ⟨rfl, ?_⟩
  refine PW_aload_n zd_L_shine_4 rfl ?_
  refine PW_iload_n zd_L_shine_5 rfl ?_
  refine PW_putI zd_L_shine_6 zp_L_27 (zsL_0 ha) rfl ?_
  refine PW_aload_n zd_L_shine_9 rfl ?_
  refine PW_iload_n zd_L_shine_10 rfl ?_
  refine PW_putI zd_L_shine_11 zp_L_31 (zsL_0 ha) rfl ?_
  refine PW_s (show _ = zsh1 a tu st σ from rfl) ?_
  refine PW_iconst zd_L_shine_14 ?_
  refine PW_istore zd_L_shine_15 rfl (by decide) (ls2 := [_, _, _, _, _, _, _, _, _]) rfl ?_
  have hl_17 : ∀ (n : Nat) (k : Nat) (lq lr : Option Value), (k : Int) ≤ σ (t + 8) 0 → 9 - k < n → PW G zm_L_shine 3 X 17 [some (zr G a), some (zr G t), some (iZ tu), some (iZ st), some (iZ lm), some (iZ c), some (iZ (k : Int)), lq, lr] [] (zlm a t lm c k (zsh1 a tu st σ)) := by
    intro n; induction n with
    | zero => intro k lq lr hI hm; exact absurd hm (Nat.not_lt_zero _)
    | succ n ih =>
      intro k lq lr hI hm
      have hMk := hMb k
      have hSk := hSq (σ (t + 9) k).toNat
      have hLk := zlm_Ls (l := lm) (c := c) hL1 hT1 hTl1 (k := k) (by rw [zsh1_row (by omega) (by omega)]; exact hI)
      have e1 : ∀ q, t ≤ q → q ≤ t + 12 → zlm a t lm c k (zsh1 a tu st σ) q = σ q := fun q e1 e2 => by
        obtain ⟨f1, f2, f3, f4, f5⟩ := zTrow ha ht e1 e2
        rw [zlm_row f1 f2 f4 f5, zsh1_row f1 f2]
      have e3 : (zlm a t lm c k (zsh1 a tu st σ)) (t + 3) = σ (t + 3) := e1 _ (by omega) (by omega)
      have e9 : (zlm a t lm c k (zsh1 a tu st σ)) (t + 9) = σ (t + 9) := e1 _ (by omega) (by omega)
      have e7 : (zlm a t lm c k (zsh1 a tu st σ)) (t + 7) = σ (t + 7) := e1 _ (by omega) (by omega)
      have e6 : (zlm a t lm c k (zsh1 a tu st σ)) (t + 6) = σ (t + 6) := e1 _ (by omega) (by omega)
      have e8 : (zlm a t lm c k (zsh1 a tu st σ)) (t + 8) = σ (t + 8) := e1 _ (by omega) (by omega)
      have e10 : (zlm a t lm c k (zsh1 a tu st σ)) (t + 1) = σ (t + 1) := e1 _ (by omega) (by omega)
      have s9 : zsh1 a tu st σ (t + 9) = σ (t + 9) := hr1 _ (by omega) (by omega)
      have s3 : zsh1 a tu st σ (t + 3) = σ (t + 3) := hr1 _ (by omega) (by omega)
      have s7 : zsh1 a tu st σ (t + 7) = σ (t + 7) := hr1 _ (by omega) (by omega)
      have s6 : zsh1 a tu st σ (t + 6) = σ (t + 6) := hr1 _ (by omega) (by omega)
      have s1 : zsh1 a tu st σ (t + 1) = σ (t + 1) := hr1 _ (by omega) (by omega)
      have hz := hsh lm k hlm.1
      have hTlk := hTl k
      refine PW_iload zd_L_shine_17 rfl ?_
      refine PW_aload_n zd_L_shine_19 rfl ?_
      refine PW_getR zd_L_shine_20 zf_L_34 (zsT_0 ht) rfl ?_
      refine PW_iconst zd_L_shine_23 ?_
      refine PW_iaload zd_L_shine_24 (zsT_8 ht) (by omega) ?_
      try simp (disch := omega) only [zupd_same, zupd_na, zupd_nk, zsend_row, zsend_fld, zsp_row, zsp_fld, zdk_row, zlm_row, zlm_fld, zey_row, zsh1_row, zsh2_row, zsh3_row, Int.toNat_natCast]
      refine PW_icmp_ge zd_L_shine_25 (by omega) (fun h25 => ?_) (fun h25 => ?_)
      · refine PW_s (show zlm a t lm c k (zsh1 a tu st σ) = zsh2 a t tu st lm c σ by rw [zsh2, show (σ (t + 8) 0).toNat = k by omega]) ?_
        have hL2 : zLs (zsh2 a t tu st lm c σ) a := by rw [zsh2, show (σ (t + 8) 0).toNat = k by omega]; exact hLk
        have hT2 : zTs (zsh2 a t tu st lm c σ) t := hT.to fun q e1 e2 => by
          obtain ⟨f1, f2, f3, f4, f5⟩ := zTrow ha ht e1 e2
          exact zsh2_row f1 f2 f4 f5
        refine PW_aload_n zd_L_shine_101 rfl ?_
        refine PW_aload_n zd_L_shine_102 rfl ?_
        refine PW_callV1v zd_L_shine_103 zl_L_59 zk_L_spread zv_L_spread (fr' := 2) (by omega) (zsL_0 ha) rfl rfl (Nat.le_of_ble_eq_true rfl) ?_
        refine ms_L_spread ha ht hL2 hT2 (by rw [zsh2, zlm_fld (by decide), g6]; omega) (by rw [zsh2, zlm_fld (by decide), g7]; omega) (fun k2 hk2 hk3 hk4 => ?_)
        refine ⟨rfl, ?_⟩
        refine PW_aload_n zd_L_shine_106 rfl ?_
        refine PW_iconst zd_L_shine_107 ?_
        refine PW_putI zd_L_shine_108 zp_L_63 (zsL_0 ha) rfl ?_
        refine PW_s (show _ = zsh3 a t tu st lm c k2 σ from rfl) ?_
        have hT3 : zTs (zsh3 a t tu st lm c k2 σ) t := hT.to fun q e1 e2 => by
          obtain ⟨f1, f2, f3, f4, f5⟩ := zTrow ha ht e1 e2
          exact zsh3_row f1 f2 f4 f5
        have hL3 : zLs (zsh3 a t tu st lm c k2 σ) a := by
          have := zsp_Ls (k := k2) ha ht hL2 hT2
          unfold zsh3
          refine ⟨?_, fun n => ?_, fun n => ?_⟩
          · rw [zupd_nk (by omega)]; exact this.1
          · rw [zupd_na (by omega)]; exact this.2.1 n
          · rw [zupd_na (by omega)]; exact this.2.2 n
        have h02 : zsh3 a t tu st lm c k2 σ a 2 = 0 := by unfold zsh3; rw [zupd_same]
        have hX2 := hX k2 hk2 hk3 hk4
        have hS8 : zsh3 a t tu st lm c k2 σ (t + 8) = σ (t + 8) := zsh3_row (by omega) (by omega) (by omega) (by omega)
        generalize zsh3 a t tu st lm c k2 σ = S3 at hT3 hL3 h02 hX2 hS8 ⊢
        refine PW_iconst zd_L_shine_111 ?_
        refine PW_istore zd_L_shine_112 rfl (by decide) (ls2 := [_, _, _, _, _, _, _, _, _]) rfl ?_
        have hl_114 : ∀ (n : Nat) (e : Nat) (lq lr : Option Value), (e : Int) ≤ σ (t + 8) 3 → 9 - e < n → PW G zm_L_shine 3 X 114 [some (zr G a), some (zr G t), some (iZ tu), some (iZ st), some (iZ lm), some (iZ c), some (iZ (e : Int)), lq, lr] [] (zey a t e S3) := by
          intro n; induction n with
          | zero => intro e lq lr hI hm; exact absurd hm (Nat.not_lt_zero _)
          | succ n ih =>
            intro e lq lr hI hm
            have hTe := hT3.to (σ' := zey a t e S3) (fun q e1 e2 => by
              obtain ⟨f1, f2, f3, f4, f5⟩ := zTrow ha ht e1 e2
              exact zey_row f1 f3)
            have f3 : zey a t e S3 (t + 3) = S3 (t + 3) := zey_row (by omega) (by omega)
            have f9 : zey a t e S3 (t + 9) = S3 (t + 9) := zey_row (by omega) (by omega)
            have f8 : zey a t e S3 (t + 8) = σ (t + 8) := by rw [zey_row (by omega) (by omega), hS8]
            have hLe := zey_Ls (t := t) (e := e) hL3
            have hq3 := hT3.2.2.1 (S3 (t + 9) (24 + e)).toNat
            have hz8 := zci_8 (q := S3 (t + 3) (S3 (t + 9) (24 + e)).toNat) hL3
            have hb2 := zey_b (a := a) (t := t) (e := e) h02
            have hp2 : (0 : Int) ≤ 2 ^ e := Int.le_of_lt (Int.pow_pos (by decide))
            refine PW_iload zd_L_shine_114 rfl ?_
            refine PW_aload_n zd_L_shine_116 rfl ?_
            refine PW_getR zd_L_shine_117 zf_L_34 (zsT_0 ht) rfl ?_
            refine PW_iconst zd_L_shine_120 ?_
            refine PW_iaload zd_L_shine_121 (zsT_8 ht) (by omega) ?_
            rw [f8]
            refine PW_icmp_ge zd_L_shine_122 (by omega) (fun h122 => ?_) (fun h122 => ?_)
            · refine PW_vret zd_L_shine_172 rfl ?_
              exact zretσ hX2 (by rw [show (σ (t + 8) 3).toNat = e by omega])
            · refine PW_aload_n zd_L_shine_125 rfl ?_
              refine PW_getR zd_L_shine_126 zf_L_15 (zsL_0 ha) rfl ?_
              refine PW_iload zd_L_shine_129 rfl ?_
              refine PW_aload_n zd_L_shine_131 rfl ?_
              refine PW_aload_n zd_L_shine_132 rfl ?_
              refine PW_iconst zd_L_shine_133 ?_
              refine PW_iload zd_L_shine_134 rfl ?_
              refine PW_callV2i zd_L_shine_136 zl_L_66 zk_T_squareOf zv_T_squareOf (fr' := 1) (by omega) (zsT_0 ht) rfl rfl (Nat.le_of_ble_eq_true rfl) ?_
              refine ms_T_squareOf ht hTe (by omega) (by omega) ?_
              refine ⟨_, rfl, ?_⟩
              rw [f3, f9, show ((3 : Int) * 8 + (e : Int)).toNat = 24 + e by omega]
              refine PW_callV1i zd_L_shine_139 zl_L_68 zk_L_comesInto zv_L_comesInto (fr' := 0) (by omega) (zsL_0 ha) rfl rfl (Nat.le_of_ble_eq_true rfl) ?_
              refine ms_L_comesInto ha hLe (by omega) ?_
              refine ⟨_, rfl, ?_⟩
              rw [zci_to (σ := S3) (zey_row (by omega) (by omega))]
              refine PW_iastore zd_L_shine_142 (zsL_2 ha) (by omega) ?_
              rw [Int.toNat_natCast]
              refine PW_aload_n zd_L_shine_143 rfl ?_
              refine PW_getR zd_L_shine_144 zf_L_15 (zsL_0 ha) rfl ?_
              refine PW_iload zd_L_shine_147 rfl ?_
              refine PW_iaload zd_L_shine_149 (zsL_2 ha) (by omega) ?_
              try simp (disch := omega) only [zupd_same, zupd_na, zupd_nk, zsend_row, zsend_fld, zsp_row, zsp_fld, zdk_row, zlm_row, zlm_fld, zey_row, zsh1_row, zsh2_row, zsh3_row, Int.toNat_natCast]
              refine PW_if_eq zd_L_shine_150 (by omega) (fun h150 => ?_) (fun h150 => ?_)
              · refine PW_iinc zd_L_shine_166 rfl rfl (by decide) (ls2 := [_, _, _, _, _, _, _, _, _]) rfl ?_
                refine PW_goto zd_L_shine_169 ?_
                exact PW_s (by rw [zey]; first | rw [if_pos h150] | rw [if_neg h150]) (ih (e + 1) _ _ (by omega) (by omega))
              · refine PW_aload_n zd_L_shine_153 rfl ?_
                refine PW_dup zd_L_shine_154 rfl ?_
                refine PW_getI zd_L_shine_155 zf_L_63 (zsL_0 ha) rfl ?_
                try simp (disch := omega) only [zupd_same, zupd_na, zupd_nk, zsend_row, zsend_fld, zsp_row, zsp_fld, zdk_row, zlm_row, zlm_fld, zey_row, zsh1_row, zsh2_row, zsh3_row, Int.toNat_natCast]
                refine PW_iconst zd_L_shine_158 ?_
                refine PW_iload zd_L_shine_159 rfl ?_
                refine PW_ishl zd_L_shine_161 (by omega) ?_
                rw [Int.toNat_natCast, Int.one_mul]
                refine PW_ior zd_L_shine_162 (by exact ⟨hb2.1, hp2⟩) ?_
                refine PW_putI zd_L_shine_163 zp_L_63 (zsL_0 ha) rfl ?_
                refine PW_iinc zd_L_shine_166 rfl rfl (by decide) (ls2 := [_, _, _, _, _, _, _, _, _]) rfl ?_
                refine PW_goto zd_L_shine_169 ?_
                exact PW_s (by rw [zey]; first | rw [if_pos h150] | rw [if_neg h150]) (ih (e + 1) _ _ (by omega) (by omega))
        exact hl_114 9 0 _ _ (by omega) (by omega)
      · refine PW_aload_n zd_L_shine_28 rfl ?_
        refine PW_iconst zd_L_shine_29 ?_
        refine PW_iload zd_L_shine_30 rfl ?_
        refine PW_callV2i zd_L_shine_32 zl_L_39 zk_T_pieceOf zv_T_pieceOf (fr' := 0) (by omega) (zsT_0 ht) rfl rfl (Nat.le_of_ble_eq_true rfl) ?_
        refine ms_T_pieceOf ht (by omega) (by omega) ?_
        refine ⟨_, rfl, ?_⟩
        rw [e9, show ((0 : Int) * 8 + (k : Int)).toNat = k by omega]
        refine PW_istore zd_L_shine_35 rfl (by decide) (ls2 := [_, _, _, _, _, _, _, _, _]) rfl ?_
        refine PW_aload_n zd_L_shine_37 rfl ?_
        refine PW_getR zd_L_shine_38 zf_L_43 (zsT_0 ht) rfl ?_
        refine PW_iload zd_L_shine_41 rfl ?_
        refine PW_iaload zd_L_shine_43 (zsT_3 ht) (by omega) ?_
        try simp (disch := omega) only [zupd_same, zupd_na, zupd_nk, zsend_row, zsend_fld, zsp_row, zsp_fld, zdk_row, zlm_row, zlm_fld, zey_row, zsh1_row, zsh2_row, zsh3_row, Int.toNat_natCast]
        refine PW_istore zd_L_shine_44 rfl (by decide) (ls2 := [_, _, _, _, _, _, _, _, _]) rfl ?_
        refine PW_iload zd_L_shine_46 rfl ?_
        refine PW_iload zd_L_shine_48 rfl ?_
        refine PW_ishr zd_L_shine_50 (by omega) ?_
        rw [Int.toNat_natCast]
        refine PW_iconst zd_L_shine_51 ?_
        refine PW_iand zd_L_shine_52 (by exact ⟨hz, by decide⟩) ?_
        refine PW_z (zand_1 hz) ?_
        refine PW_iconst zd_L_shine_53 ?_
        refine PW_icmp_ne zd_L_shine_54 (by omega) (fun h54 => ?_) (fun h54 => ?_)
        · refine PW_iinc zd_L_shine_95 rfl rfl (by decide) (ls2 := [_, _, _, _, _, _, _, _, _]) rfl ?_
          refine PW_goto zd_L_shine_98 ?_
          exact PW_s (by rw [zlm, s9, s3]; first | rw [if_neg (by omega)] | (rw [s7, s6, s1, if_pos ⟨by omega, by omega⟩])) (ih (k + 1) _ _ (by omega) (by omega))
        · refine PW_iload zd_L_shine_57 rfl ?_
          refine PW_iconst zd_L_shine_59 ?_
          refine PW_icmp_eq zd_L_shine_60 (by omega) (fun h60 => ?_) (fun h60 => ?_)
          · refine PW_iinc zd_L_shine_95 rfl rfl (by decide) (ls2 := [_, _, _, _, _, _, _, _, _]) rfl ?_
            refine PW_goto zd_L_shine_98 ?_
            exact PW_s (by rw [zlm, s9, s3]; first | rw [if_neg (by omega)] | (rw [s7, s6, s1, if_pos ⟨by omega, by omega⟩])) (ih (k + 1) _ _ (by omega) (by omega))
          · refine PW_aload_n zd_L_shine_63 rfl ?_
            refine PW_aload_n zd_L_shine_64 rfl ?_
            refine PW_getR zd_L_shine_65 zf_L_46 (zsT_0 ht) rfl ?_
            refine PW_iload zd_L_shine_68 rfl ?_
            refine PW_iconst zd_L_shine_70 ?_
            refine PW_imul zd_L_shine_71 ?_
            refine PW_aload_n zd_L_shine_72 rfl ?_
            refine PW_getR zd_L_shine_73 zf_L_49 (zsT_0 ht) rfl ?_
            refine PW_iload zd_L_shine_76 rfl ?_
            refine PW_iaload zd_L_shine_78 (zsT_7 ht) (by omega) ?_
            try simp (disch := omega) only [zupd_same, zupd_na, zupd_nk, zsend_row, zsend_fld, zsp_row, zsp_fld, zdk_row, zlm_row, zlm_fld, zey_row, zsh1_row, zsh2_row, zsh3_row, Int.toNat_natCast]
            refine PW_iadd zd_L_shine_79 ?_
            refine PW_iaload zd_L_shine_80 (zsT_1 ht) (by have := (hTlk (by omega)).1; omega) ?_
            try simp (disch := omega) only [zupd_same, zupd_na, zupd_nk, zsend_row, zsend_fld, zsp_row, zsp_fld, zdk_row, zlm_row, zlm_fld, zey_row, zsh1_row, zsh2_row, zsh3_row, Int.toNat_natCast]
            refine PW_aload_n zd_L_shine_81 rfl ?_
            refine PW_getR zd_L_shine_82 zf_L_52 (zsT_0 ht) rfl ?_
            refine PW_iload zd_L_shine_85 rfl ?_
            refine PW_iaload zd_L_shine_87 (zsT_6 ht) (by omega) ?_
            try simp (disch := omega) only [zupd_same, zupd_na, zupd_nk, zsend_row, zsend_fld, zsp_row, zsp_fld, zdk_row, zlm_row, zlm_fld, zey_row, zsh1_row, zsh2_row, zsh3_row, Int.toNat_natCast]
            refine PW_iload zd_L_shine_88 rfl ?_
            refine PW_iand zd_L_shine_90 (by exact ⟨(hTlk (by omega)).2, hc.1⟩) ?_
            refine PW_iconst zd_L_shine_91 ?_
            refine PW_callV3v zd_L_shine_92 zl_L_55 zk_L_send zv_L_send (fr' := 0) (by omega) (zsL_0 ha) rfl rfl (Nat.le_of_ble_eq_true rfl) ?_
            refine ms_L_send ha hLk (hN _) (zand_8 ⟨(hTlk (by omega)).2, (hPc (σ (t + 9) k).toNat).2.2.1.2⟩) ?_
            refine ⟨rfl, ?_⟩
            refine PW_iinc zd_L_shine_95 rfl rfl (by decide) (ls2 := [_, _, _, _, _, _, _, _, _]) rfl ?_
            refine PW_goto zd_L_shine_98 ?_
            exact PW_s (by rw [zlm, s9, s3]; first | rw [if_neg (by omega)] | (rw [s7, s6, s1, if_pos ⟨by omega, by omega⟩])) (ih (k + 1) _ _ (by omega) (by omega))
  exact hl_17 9 0 none none (by omega) (by omega)

set_option maxHeartbeats 4000000 in
set_option maxRecDepth 100000 in
theorem ms_L_comesAgain {G : zG} {σ : zPH} {X : zX} {a t : Nat} (ha : zisL a) (ht : zisT t) (hL : zLs σ a) (hT : zTs σ t) {tu st n c : Int} (h6 : 0 ≤ tu ∧ tu < 2147483648) (h7 : 0 ≤ st ∧ st < 2147483648) (hn : 0 ≤ n ∧ n < 576) (hc : 0 ≤ c ∧ c < 8) (hX : ∀ k : Nat, k ≤ 1728 → (zsp a t k (zpass a t n c (zsh1 a tu st σ)) a 3 ≤ k ∨ k = 1728) → (∀ j : Nat, j < k → (j : Int) < zsp a t j (zpass a t n c (zsh1 a tu st σ)) a 3) → X (some (iZ (zb (zsp a t k (zpass a t n c (zsh1 a tu st σ)) (a + 1) n.toNat ≠ 0)))) (zsp a t k (zpass a t n c (zsh1 a tu st σ)))) : MS G zm_L_comesAgain 3 [zr G a, zr G t, iZ tu, iZ st, iZ n, iZ c] σ X := by
  have ha2 : a = 19 ∨ a = 24 := ha
  have ht2 : t = 32 ∨ t = 45 := ht
  have hL1 := zsh1_Ls (tu := tu) (st := st) hL
  have hT1 : zTs (zsh1 a tu st σ) t := hT.to fun q e1 e2 => by
    obtain ⟨f1, f2, f3, f4, f5⟩ := zTrow ha ht e1 e2
    exact zsh1_row f1 f2
  have g6 : zsh1 a tu st σ a 6 = tu := by unfold zsh1; rw [zupd_nk (by omega), zupd_same]
  have g7 : zsh1 a tu st σ a 7 = st := by unfold zsh1; rw [zupd_same]
  have hL2 : zLs (zpass a t n c (zsh1 a tu st σ)) a := zpassv_Ls hL1 hT1.1 hc
  have hT2 : zTs (zpass a t n c (zsh1 a tu st σ)) t := hT1.to fun q e1 e2 => by
    obtain ⟨f1, f2, f3, f4, f5⟩ := zTrow ha ht e1 e2
    exact zpass_row f1 f2 f4 f5
  refine ms_of (ls := [some (zr G a), some (zr G t), some (iZ tu), some (iZ st), some (iZ n), some (iZ c)]) zk_L_comesAgain (Nat.le_of_ble_eq_true rfl) rfl ?_
  refine PW_aload_n zd_L_comesAgain_0 rfl ?_
  refine PW_callV0v zd_L_comesAgain_1 zl_L_24 zk_L_darken zv_L_darken (fr' := 1) (by omega) (zsL_0 ha) rfl rfl (Nat.le_of_ble_eq_true rfl) ?_
  refine ms_L_darken ha hL ?_
  refine ⟨rfl, ?_⟩
  refine PW_aload_n zd_L_comesAgain_4 rfl ?_
  refine PW_iload_n zd_L_comesAgain_5 rfl ?_
  refine PW_putI zd_L_comesAgain_6 zp_L_27 (zsL_0 ha) rfl ?_
  refine PW_aload_n zd_L_comesAgain_9 rfl ?_
  refine PW_iload_n zd_L_comesAgain_10 rfl ?_
  refine PW_putI zd_L_comesAgain_11 zp_L_31 (zsL_0 ha) rfl ?_
  refine PW_s (show _ = zsh1 a tu st σ from rfl) ?_
  refine PW_aload_n zd_L_comesAgain_14 rfl ?_
  refine PW_aload_n zd_L_comesAgain_15 rfl ?_
  refine PW_iload zd_L_comesAgain_16 rfl ?_
  refine PW_iload zd_L_comesAgain_18 rfl ?_
  refine PW_callV3v zd_L_comesAgain_20 zl_L_72 zk_L_pass zv_L_pass (fr' := 1) (by omega) (zsL_0 ha) rfl rfl (Nat.le_of_ble_eq_true rfl) ?_
  refine ms_L_pass ha ht hL1 hT1 hn hc (by omega) (by omega) ?_
  refine ⟨rfl, ?_⟩
  refine PW_aload_n zd_L_comesAgain_23 rfl ?_
  refine PW_aload_n zd_L_comesAgain_24 rfl ?_
  refine PW_callV1v zd_L_comesAgain_25 zl_L_59 zk_L_spread zv_L_spread (fr' := 2) (by omega) (zsL_0 ha) rfl rfl (Nat.le_of_ble_eq_true rfl) ?_
  refine ms_L_spread ha ht hL2 hT2 (by rw [zpass_fld (by decide), g6]; omega) (by rw [zpass_fld (by decide), g7]; omega) (fun k2 hk2 hk3 hk4 => ?_)
  refine ⟨rfl, ?_⟩
  have hI := (zsp_Ls (k := k2) ha ht hL2 hT2).2.1 n.toNat
  refine PW_aload_n zd_L_comesAgain_28 rfl ?_
  refine PW_getR zd_L_comesAgain_29 zf_L_9 (zsL_0 ha) rfl ?_
  refine PW_iload zd_L_comesAgain_32 rfl ?_
  refine PW_iaload zd_L_comesAgain_34 (zsL_1 ha) (by omega) ?_
  refine PW_if_eq zd_L_comesAgain_35 (by omega) (fun h35 => ?_) (fun h35 => ?_)
  · refine PW_iconst zd_L_comesAgain_42 ?_
    refine PW_zret zd_L_comesAgain_43 rfl (Or.inl rfl) ?_
    exact zX0 (F := fun r => X (some (iZ r)) _) (hX k2 hk2 hk3 hk4) (by omega)
  · refine PW_iconst zd_L_comesAgain_38 ?_
    refine PW_goto zd_L_comesAgain_39 ?_
    refine PW_zret zd_L_comesAgain_43 rfl (Or.inr rfl) ?_
    exact zX1 (F := fun r => X (some (iZ r)) _) (hX k2 hk2 hk3 hk4) (by omega)

/-- the least of the first k ways -/
def zlst (σ : zPH) (a q : Nat) : Nat → Int
  | 0 => -1
  | k + 1 => if σ (a + 1) (4 * q + k) ≠ 0 ∧ (zlst σ a q k = -1 ∨ σ (a + 4) (4 * q + k) < zlst σ a q k) then σ (a + 4) (4 * q + k) else zlst σ a q k
theorem zlst_b {σ : zPH} {a q : Nat} (hf : ∀ n, σ (a + 1) n ≠ 0 → 0 ≤ σ (a + 4) n ∧ σ (a + 4) n < 2147483648) (k : Nat) : -1 ≤ zlst σ a q k ∧ zlst σ a q k < 2147483648 := by
  induction k with
  | zero => unfold zlst; omega
  | succ k ih =>
    unfold zlst
    split
    · rename_i h; have := hf _ h.1; omega
    · exact ih

set_option maxHeartbeats 4000000 in
set_option maxRecDepth 100000 in
theorem ms_L_leastTo {G : zG} {σ : zPH} {X : zX} {a : Nat} (ha : zisL a) (hL : zLs σ a) (hf : ∀ n, σ (a + 1) n ≠ 0 → 0 ≤ σ (a + 4) n ∧ σ (a + 4) n < 2147483648) {q : Int} (hq : -1 ≤ q ∧ q < 144) (hX : X (some (iZ (if q = -1 then -1 else zlst σ a q.toNat 4))) σ) : MS G zm_L_leastTo 0 [zr G a, iZ q] σ X := by
  have hL2 := hL.2.1
  refine ms_of (ls := [some (zr G a), some (iZ q), none, none, none]) zk_L_leastTo (Nat.le_of_ble_eq_true rfl) rfl ?_
  refine PW_iconst zd_L_leastTo_0 ?_
  refine PW_istore_n zd_L_leastTo_1 rfl (by decide) (ls2 := [_, _, _, _, _]) rfl ?_
  refine PW_iconst zd_L_leastTo_2 ?_
  refine PW_istore_n zd_L_leastTo_3 rfl (by decide) (ls2 := [_, _, _, _, _]) rfl ?_
  have hl_4 : ∀ (n : Nat) (k : Nat) (lq : Option Value), k ≤ 4 → 5 - k < n → PW G zm_L_leastTo 0 X 4 [some (zr G a), some (iZ q), some (iZ (zlst σ a q.toNat k)), some (iZ (k : Int)), lq] [] σ := by
    intro n; induction n with
    | zero => intro k lq hI hm; exact absurd hm (Nat.not_lt_zero _)
    | succ n ih =>
      intro k lq hI hm
      have hb := zlst_b (q := q.toNat) hf k
      have hf4 := hf (4 * q.toNat + k)
      have hL4 := hL2 (4 * q.toNat + k)
      refine PW_iload_n zd_L_leastTo_4 rfl ?_
      refine PW_iconst zd_L_leastTo_5 ?_
      refine PW_icmp_ge zd_L_leastTo_6 (by omega) (fun h6 => ?_) (fun h6 => ?_)
      · refine PW_iload_n zd_L_leastTo_61 rfl ?_
        refine PW_iret zd_L_leastTo_62 rfl ?_
        exact zret (F := fun r => X (some (iZ r)) _) hX (by first | rw [if_pos (by omega)]; done | (rw [if_neg (by omega), show (4 : Nat) = k by omega]))
      · refine PW_iload_n zd_L_leastTo_9 rfl ?_
        refine PW_iconst zd_L_leastTo_10 ?_
        refine PW_icmp_eq zd_L_leastTo_11 (by omega) (fun h11 => ?_) (fun h11 => ?_)
        · refine PW_iload_n zd_L_leastTo_61 rfl ?_
          refine PW_iret zd_L_leastTo_62 rfl ?_
          exact zret (F := fun r => X (some (iZ r)) _) hX (by first | rw [if_pos (by omega)]; done | (rw [if_neg (by omega), show (4 : Nat) = k by omega]))
        · refine PW_iload_n zd_L_leastTo_14 rfl ?_
          refine PW_iconst zd_L_leastTo_15 ?_
          refine PW_imul zd_L_leastTo_16 ?_
          refine PW_iload_n zd_L_leastTo_17 rfl ?_
          refine PW_iadd zd_L_leastTo_18 ?_
          refine PW_istore zd_L_leastTo_19 rfl (by decide) (ls2 := [_, _, _, _, _]) rfl ?_
          refine PW_aload_n zd_L_leastTo_21 rfl ?_
          refine PW_getR zd_L_leastTo_22 zf_L_9 (zsL_0 ha) rfl ?_
          refine PW_iload zd_L_leastTo_25 rfl ?_
          refine PW_iaload zd_L_leastTo_27 (zsL_1 ha) (by omega) ?_
          rw [show (q * 4 + (k : Int)).toNat = 4 * q.toNat + k by omega]
          refine PW_if_eq zd_L_leastTo_28 (by omega) (fun h28 => ?_) (fun h28 => ?_)
          · refine PW_iinc zd_L_leastTo_55 rfl rfl (by decide) (ls2 := [_, _, _, _, _]) rfl ?_
            refine PW_goto zd_L_leastTo_58 ?_
            have e4 : zlst σ a q.toNat (k + 1) = if σ (a + 1) (4 * q.toNat + k) ≠ 0 ∧ (zlst σ a q.toNat k = -1 ∨ σ (a + 4) (4 * q.toNat + k) < zlst σ a q.toNat k) then σ (a + 4) (4 * q.toNat + k) else zlst σ a q.toNat k := rfl
            first | rw [if_pos (by omega)] at e4 | rw [if_neg (by omega)] at e4
            have ih2 := ih (k + 1) (some (iZ (q * 4 + (k : Int)))) (by omega) (by omega)
            rw [e4] at ih2
            exact ih2
          · refine PW_iload_n zd_L_leastTo_31 rfl ?_
            refine PW_iconst zd_L_leastTo_32 ?_
            refine PW_icmp_eq zd_L_leastTo_33 (by omega) (fun h33 => ?_) (fun h33 => ?_)
            · refine PW_aload_n zd_L_leastTo_47 rfl ?_
              refine PW_getR zd_L_leastTo_48 zf_L_21 (zsL_0 ha) rfl ?_
              refine PW_iload zd_L_leastTo_51 rfl ?_
              refine PW_iaload zd_L_leastTo_53 (zsL_4 ha) (by omega) ?_
              rw [show (q * 4 + (k : Int)).toNat = 4 * q.toNat + k by omega]
              refine PW_istore_n zd_L_leastTo_54 rfl (by decide) (ls2 := [_, _, _, _, _]) rfl ?_
              refine PW_iinc zd_L_leastTo_55 rfl rfl (by decide) (ls2 := [_, _, _, _, _]) rfl ?_
              refine PW_goto zd_L_leastTo_58 ?_
              have e4 : zlst σ a q.toNat (k + 1) = if σ (a + 1) (4 * q.toNat + k) ≠ 0 ∧ (zlst σ a q.toNat k = -1 ∨ σ (a + 4) (4 * q.toNat + k) < zlst σ a q.toNat k) then σ (a + 4) (4 * q.toNat + k) else zlst σ a q.toNat k := rfl
              first | rw [if_pos (by omega)] at e4 | rw [if_neg (by omega)] at e4
              have ih2 := ih (k + 1) (some (iZ (q * 4 + (k : Int)))) (by omega) (by omega)
              rw [e4] at ih2
              exact ih2
            · refine PW_aload_n zd_L_leastTo_36 rfl ?_
              refine PW_getR zd_L_leastTo_37 zf_L_21 (zsL_0 ha) rfl ?_
              refine PW_iload zd_L_leastTo_40 rfl ?_
              refine PW_iaload zd_L_leastTo_42 (zsL_4 ha) (by omega) ?_
              rw [show (q * 4 + (k : Int)).toNat = 4 * q.toNat + k by omega]
              refine PW_iload_n zd_L_leastTo_43 rfl ?_
              refine PW_icmp_ge zd_L_leastTo_44 (by omega) (fun h44 => ?_) (fun h44 => ?_)
              · refine PW_iinc zd_L_leastTo_55 rfl rfl (by decide) (ls2 := [_, _, _, _, _]) rfl ?_
                refine PW_goto zd_L_leastTo_58 ?_
                have e4 : zlst σ a q.toNat (k + 1) = if σ (a + 1) (4 * q.toNat + k) ≠ 0 ∧ (zlst σ a q.toNat k = -1 ∨ σ (a + 4) (4 * q.toNat + k) < zlst σ a q.toNat k) then σ (a + 4) (4 * q.toNat + k) else zlst σ a q.toNat k := rfl
                first | rw [if_pos (by omega)] at e4 | rw [if_neg (by omega)] at e4
                have ih2 := ih (k + 1) (some (iZ (q * 4 + (k : Int)))) (by omega) (by omega)
                rw [e4] at ih2
                exact ih2
              · refine PW_aload_n zd_L_leastTo_47 rfl ?_
                refine PW_getR zd_L_leastTo_48 zf_L_21 (zsL_0 ha) rfl ?_
                refine PW_iload zd_L_leastTo_51 rfl ?_
                refine PW_iaload zd_L_leastTo_53 (zsL_4 ha) (by omega) ?_
                rw [show (q * 4 + (k : Int)).toNat = 4 * q.toNat + k by omega]
                refine PW_istore_n zd_L_leastTo_54 rfl (by decide) (ls2 := [_, _, _, _, _]) rfl ?_
                refine PW_iinc zd_L_leastTo_55 rfl rfl (by decide) (ls2 := [_, _, _, _, _]) rfl ?_
                refine PW_goto zd_L_leastTo_58 ?_
                have e4 : zlst σ a q.toNat (k + 1) = if σ (a + 1) (4 * q.toNat + k) ≠ 0 ∧ (zlst σ a q.toNat k = -1 ∨ σ (a + 4) (4 * q.toNat + k) < zlst σ a q.toNat k) then σ (a + 4) (4 * q.toNat + k) else zlst σ a q.toNat k := rfl
                first | rw [if_pos (by omega)] at e4 | rw [if_neg (by omega)] at e4
                have ih2 := ih (k + 1) (some (iZ (q * 4 + (k : Int)))) (by omega) (by omega)
                rw [e4] at ih2
                exact ih2
  exact hl_4 5 0 _ (by omega) (by omega)
