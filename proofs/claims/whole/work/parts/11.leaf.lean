set_option maxHeartbeats 4000000 in
set_option maxRecDepth 100000 in
theorem ms_K_isLetter {G : zG} {σ : zPH} {X : zX} {c : Int} (hc : -2147483648 ≤ c ∧ c < 2147483648) (hX : X (some (iZ (zb (97 ≤ c ∧ c ≤ 122)))) σ) : MS G zm_K_isLetter 0 [iZ c] σ X := by
  refine ms_of (ls := [some (iZ c)]) zk_K_isLetter (Nat.le_of_ble_eq_true rfl) rfl ?_
  refine PW_iload_n zd_K_isLetter_0 rfl ?_
  refine PW_bipush zd_K_isLetter_1 rfl ?_
  refine PW_icmp_lt zd_K_isLetter_3 (by omega) (fun h3 => ?_) (fun h3 => ?_)
  · refine PW_iconst zd_K_isLetter_16 ?_
    refine PW_zret zd_K_isLetter_17 rfl (Or.inl rfl) ?_
    exact zX0 (F := fun r => X (some (iZ r)) _) hX (by omega)
  · refine PW_iload_n zd_K_isLetter_6 rfl ?_
    refine PW_bipush zd_K_isLetter_7 rfl ?_
    refine PW_icmp_gt zd_K_isLetter_9 (by omega) (fun h9 => ?_) (fun h9 => ?_)
    · refine PW_iconst zd_K_isLetter_16 ?_
      refine PW_zret zd_K_isLetter_17 rfl (Or.inl rfl) ?_
      exact zX0 (F := fun r => X (some (iZ r)) _) hX (by omega)
    · refine PW_iconst zd_K_isLetter_12 ?_
      refine PW_goto zd_K_isLetter_13 ?_
      refine PW_zret zd_K_isLetter_17 rfl (Or.inr rfl) ?_
      exact zX1 (F := fun r => X (some (iZ r)) _) hX (by omega)

set_option maxHeartbeats 4000000 in
set_option maxRecDepth 100000 in
theorem ms_K_isDigit {G : zG} {σ : zPH} {X : zX} {c : Int} (hc : -2147483648 ≤ c ∧ c < 2147483648) (hX : X (some (iZ (zb (48 ≤ c ∧ c ≤ 57)))) σ) : MS G zm_K_isDigit 0 [iZ c] σ X := by
  refine ms_of (ls := [some (iZ c)]) zk_K_isDigit (Nat.le_of_ble_eq_true rfl) rfl ?_
  refine PW_iload_n zd_K_isDigit_0 rfl ?_
  refine PW_bipush zd_K_isDigit_1 rfl ?_
  refine PW_icmp_lt zd_K_isDigit_3 (by omega) (fun h3 => ?_) (fun h3 => ?_)
  · refine PW_iconst zd_K_isDigit_16 ?_
    refine PW_zret zd_K_isDigit_17 rfl (Or.inl rfl) ?_
    exact zX0 (F := fun r => X (some (iZ r)) _) hX (by omega)
  · refine PW_iload_n zd_K_isDigit_6 rfl ?_
    refine PW_bipush zd_K_isDigit_7 rfl ?_
    refine PW_icmp_gt zd_K_isDigit_9 (by omega) (fun h9 => ?_) (fun h9 => ?_)
    · refine PW_iconst zd_K_isDigit_16 ?_
      refine PW_zret zd_K_isDigit_17 rfl (Or.inl rfl) ?_
      exact zX0 (F := fun r => X (some (iZ r)) _) hX (by omega)
    · refine PW_iconst zd_K_isDigit_12 ?_
      refine PW_goto zd_K_isDigit_13 ?_
      refine PW_zret zd_K_isDigit_17 rfl (Or.inr rfl) ?_
      exact zX1 (F := fun r => X (some (iZ r)) _) hX (by omega)

set_option maxHeartbeats 4000000 in
set_option maxRecDepth 100000 in
theorem ms_T_isFull {G : zG} {σ : zPH} {X : zX} {t : Nat} (ht : zisT t) {g : Int} (hg : -1 ≤ g ∧ g < 4) (hb : ∀ k : Nat, 0 ≤ σ (t + 8) k ∧ σ (t + 8) k < 100) (hX : X (some (iZ (zb (g ≠ -1 ∧ (if g = 2 then 6 else 8) ≤ σ (t + 8) g.toNat)))) σ) : MS G zm_T_isFull 0 [zr G t, iZ g] σ X := by
  have hb1 := hb g.toNat
  refine ms_of (ls := [some (zr G t), some (iZ g)]) zk_T_isFull (Nat.le_of_ble_eq_true rfl) rfl ?_
  refine PW_iload_n zd_T_isFull_0 rfl ?_
  refine PW_iconst zd_T_isFull_1 ?_
  refine PW_icmp_eq zd_T_isFull_2 (by omega) (fun h2 => ?_) (fun h2 => ?_)
  · refine PW_iconst zd_T_isFull_30 ?_
    refine PW_zret zd_T_isFull_31 rfl (Or.inl rfl) ?_
    exact zX0 (F := fun r => X (some (iZ r)) _) hX (by first | omega | (simp_all; omega))
  · refine PW_aload_n zd_T_isFull_5 rfl ?_
    refine PW_getR zd_T_isFull_6 zf_T_33 (zsT_0 ht) rfl ?_
    refine PW_iload_n zd_T_isFull_9 rfl ?_
    refine PW_iaload zd_T_isFull_10 (zsT_8 ht) (by omega) ?_
    refine PW_iload_n zd_T_isFull_11 rfl ?_
    refine PW_iconst zd_T_isFull_12 ?_
    refine PW_icmp_ne zd_T_isFull_13 (by omega) (fun h13 => ?_) (fun h13 => ?_)
    · refine PW_bipush zd_T_isFull_21 rfl ?_
      refine PW_icmp_lt zd_T_isFull_23 (by omega) (fun h23 => ?_) (fun h23 => ?_)
      · refine PW_iconst zd_T_isFull_30 ?_
        refine PW_zret zd_T_isFull_31 rfl (Or.inl rfl) ?_
        exact zX0 (F := fun r => X (some (iZ r)) _) hX (by first | omega | (simp_all; omega))
      · refine PW_iconst zd_T_isFull_26 ?_
        refine PW_goto zd_T_isFull_27 ?_
        refine PW_zret zd_T_isFull_31 rfl (Or.inr rfl) ?_
        exact zX1 (F := fun r => X (some (iZ r)) _) hX (by first | omega | (simp_all; omega))
    · refine PW_bipush zd_T_isFull_16 rfl ?_
      refine PW_goto zd_T_isFull_18 ?_
      refine PW_icmp_lt zd_T_isFull_23 (by omega) (fun h23 => ?_) (fun h23 => ?_)
      · refine PW_iconst zd_T_isFull_30 ?_
        refine PW_zret zd_T_isFull_31 rfl (Or.inl rfl) ?_
        exact zX0 (F := fun r => X (some (iZ r)) _) hX (by first | omega | (simp_all; omega))
      · refine PW_iconst zd_T_isFull_26 ?_
        refine PW_goto zd_T_isFull_27 ?_
        refine PW_zret zd_T_isFull_31 rfl (Or.inr rfl) ?_
        exact zX1 (F := fun r => X (some (iZ r)) _) hX (by first | omega | (simp_all; omega))

/-- what a piece's numbers may be -/
def zPc (σ : zPH) (t i : Nat) : Prop := (0 ≤ σ (t + 4) i ∧ σ (t + 4) i ≤ 9) ∧ (-1 ≤ σ (t + 5) i ∧ σ (t + 5) i < 8) ∧ (-1 ≤ σ (t + 6) i ∧ σ (t + 6) i < 8) ∧ (σ (t + 4) i = 2 ∨ σ (t + 4) i = 3 ∨ σ (t + 4) i = 8 ∨ σ (t + 4) i = 9 → σ (t + 6) i = 0 ∨ σ (t + 6) i = 1) ∧ (σ (t + 4) i = 8 ∨ σ (t + 4) i = 9 → 0 ≤ σ (t + 5) i) ∧ (σ (t + 4) i = 1 ∨ σ (t + 4) i = 4 → 0 ≤ σ (t + 6) i) ∧ (σ (t + 4) i = 1 → 0 ≤ σ (t + 7) i ∧ σ (t + 7) i < 4)
/-- a table's numbers are such that its methods don't leave their rows -/
def zTs (σ : zPH) (t : Nat) : Prop := (∀ n, -1 ≤ σ (t + 1) n ∧ σ (t + 1) n < 576) ∧ (∀ p, -1 ≤ σ (t + 2) p ∧ σ (t + 2) p < 60) ∧ (∀ i, -1 ≤ σ (t + 3) i ∧ σ (t + 3) i < 144) ∧ (∀ i, zPc σ t i) ∧ (∀ g, 0 ≤ σ (t + 8) g ∧ σ (t + 8) g ≤ 8) ∧ (∀ k, 0 ≤ σ (t + 9) k ∧ σ (t + 9) k < 60) ∧ σ (t + 8) 2 ≤ 6
theorem zTs.to {σ σ' : zPH} {t : Nat} (h : zTs σ t) (hr : ∀ q, t ≤ q → q ≤ t + 12 → σ' q = σ q) : zTs σ' t := by
  unfold zTs zPc at *
  rw [hr (t + 1) (by omega) (by omega), hr (t + 2) (by omega) (by omega), hr (t + 3) (by omega) (by omega), hr (t + 4) (by omega) (by omega), hr (t + 5) (by omega) (by omega), hr (t + 6) (by omega) (by omega), hr (t + 7) (by omega) (by omega), hr (t + 8) (by omega) (by omega), hr (t + 9) (by omega) (by omega)]
  exact h
/-- a light's numbers -/
def zLs (σ : zPH) (a : Nat) : Prop := (0 ≤ σ a 3 ∧ σ a 3 ≤ 1728) ∧ (∀ n, 0 ≤ σ (a + 1) n ∧ σ (a + 1) n < 8) ∧ (∀ n, 0 ≤ σ (a + 3) n ∧ σ (a + 3) n < 4608)
def zmir (f w : Int) : Int := zxor w (if f = 0 then 1 else 3)
def zlkv (s n f tu st : Int) : Int := if s = 2 ∨ s = 3 then (if n = -1 then f else (f + tu / 2 ^ n.toNat % 2) % 2) else if s = 8 ∨ s = 9 then (f + st / 2 ^ n.toNat % 2) % 2 else f
/-- a piece's form or colour now -/
def zlk (σ : zPH) (t i : Nat) (tu st : Int) : Int := zlkv (σ (t + 4) i) (σ (t + 5) i) (σ (t + 6) i) tu st
theorem zxor01 {a b : Int} (ha : a = 0 ∨ a = 1) (hb : b = 0 ∨ b = 1) : zxor a b = (a + b) % 2 := by
  rcases ha with rfl | rfl <;> rcases hb with rfl | rfl <;> rfl
theorem zmod2 (x : Int) : x % 2 = 0 ∨ x % 2 = 1 := by omega
theorem zlk_x {f x : Int} {n : Nat} (hf : f = 0 ∨ f = 1) (hx : 0 ≤ x) : zxor f (zand (x / 2 ^ n) 1) = (f + x / 2 ^ n % 2) % 2 := by
  have h0 : 0 ≤ x / 2 ^ n := Int.ediv_nonneg hx (Int.le_of_lt (Int.pow_pos (by decide)))
  rw [zand_1 h0, zxor01 hf (zmod2 _)]

set_option maxHeartbeats 4000000 in
set_option maxRecDepth 100000 in
theorem ms_L_turnedWay {G : zG} {σ : zPH} {X : zX} {w f : Int} (hw : 0 ≤ w ∧ w < 4) (hf : -2147483648 ≤ f ∧ f < 2147483648) (hX : X (some (iZ (zmir f w))) σ) : MS G zm_L_turnedWay 0 [iZ w, iZ f] σ X := by
  refine ms_of (ls := [some (iZ w), some (iZ f)]) zk_L_turnedWay (Nat.le_of_ble_eq_true rfl) rfl ?_
  refine PW_iload_n zd_L_turnedWay_0 rfl ?_
  refine PW_iload_n zd_L_turnedWay_1 rfl ?_
  refine PW_if_ne zd_L_turnedWay_2 (by omega) (fun h2 => ?_) (fun h2 => ?_)
  · refine PW_iconst zd_L_turnedWay_9 ?_
    refine PW_ixor zd_L_turnedWay_10 (by omega) ?_
    refine PW_iret zd_L_turnedWay_11 rfl ?_
    exact zret (F := fun r => X (some (iZ r)) _) hX (by simp [zmir, h2])
  · refine PW_iconst zd_L_turnedWay_5 ?_
    refine PW_goto zd_L_turnedWay_6 ?_
    refine PW_ixor zd_L_turnedWay_10 (by omega) ?_
    refine PW_iret zd_L_turnedWay_11 rfl ?_
    exact zret (F := fun r => X (some (iZ r)) _) hX (by simp [zmir, h2])

set_option maxHeartbeats 4000000 in
set_option maxRecDepth 100000 in
theorem ms_L_arrivedNode {G : zG} {σ : zPH} {X : zX} {a : Nat} (ha : zisL a) {i : Int} (hi : 0 ≤ i ∧ i < 1728) (hv : 0 ≤ σ (a + 3) i.toNat ∧ σ (a + 3) i.toNat < 4608) (hX : X (some (iZ (σ (a + 3) i.toNat / 8))) σ) : MS G zm_L_arrivedNode 0 [zr G a, iZ i] σ X := by
  refine ms_of (ls := [some (zr G a), some (iZ i)]) zk_L_arrivedNode (Nat.le_of_ble_eq_true rfl) rfl ?_
  refine PW_aload_n zd_L_arrivedNode_0 rfl ?_
  refine PW_getR zd_L_arrivedNode_1 zf_L_18 (zsL_0 ha) rfl ?_
  refine PW_iload_n zd_L_arrivedNode_4 rfl ?_
  refine PW_iaload zd_L_arrivedNode_5 (zsL_3 ha) (by omega) ?_
  refine PW_iconst zd_L_arrivedNode_6 ?_
  refine PW_ishrC 8 zd_L_arrivedNode_7 (by omega) rfl ?_
  refine PW_iret zd_L_arrivedNode_8 rfl ?_
  exact hX

set_option maxHeartbeats 4000000 in
set_option maxRecDepth 100000 in
theorem ms_T_pieceOf {G : zG} {σ : zPH} {X : zX} {t : Nat} (ht : zisT t) {g n : Int} (hg : 0 ≤ g ∧ g < 4) (hn : 0 ≤ n ∧ n < 8) (hX : X (some (iZ (σ (t + 9) (g * 8 + n).toNat))) σ) : MS G zm_T_pieceOf 0 [zr G t, iZ g, iZ n] σ X := by
  refine ms_of (ls := [some (zr G t), some (iZ g), some (iZ n)]) zk_T_pieceOf (Nat.le_of_ble_eq_true rfl) rfl ?_
  refine PW_aload_n zd_T_pieceOf_0 rfl ?_
  refine PW_getR zd_T_pieceOf_1 zf_T_36 (zsT_0 ht) rfl ?_
  refine PW_iload_n zd_T_pieceOf_4 rfl ?_
  refine PW_bipush zd_T_pieceOf_5 rfl ?_
  refine PW_imul zd_T_pieceOf_7 ?_
  refine PW_iload_n zd_T_pieceOf_8 rfl ?_
  refine PW_iadd zd_T_pieceOf_9 ?_
  refine PW_iaload zd_T_pieceOf_10 (zsT_9 ht) (by omega) ?_
  refine PW_iret zd_T_pieceOf_11 rfl ?_
  exact hX

set_option maxHeartbeats 4000000 in
set_option maxRecDepth 100000 in
theorem ms_T_squareOf {G : zG} {σ : zPH} {X : zX} {t : Nat} (ht : zisT t) (hT : zTs σ t) {g n : Int} (hg : 0 ≤ g ∧ g < 4) (hn : 0 ≤ n ∧ n < 8) (hX : X (some (iZ (σ (t + 3) (σ (t + 9) (g * 8 + n).toNat).toNat))) σ) : MS G zm_T_squareOf 1 [zr G t, iZ g, iZ n] σ X := by
  have hm := hT.2.2.2.2.2.1 (g * 8 + n).toNat
  refine ms_of (ls := [some (zr G t), some (iZ g), some (iZ n)]) zk_T_squareOf (Nat.le_of_ble_eq_true rfl) rfl ?_
  refine PW_aload_n zd_T_squareOf_0 rfl ?_
  refine PW_getR zd_T_squareOf_1 zf_T_18 (zsT_0 ht) rfl ?_
  refine PW_aload_n zd_T_squareOf_4 rfl ?_
  refine PW_iload_n zd_T_squareOf_5 rfl ?_
  refine PW_iload_n zd_T_squareOf_6 rfl ?_
  refine PW_callV2i zd_T_squareOf_7 zl_T_79 zk_T_pieceOf zv_T_pieceOf (fr' := 0) (by omega) (zsT_0 ht) rfl rfl (Nat.le_of_ble_eq_true rfl) ?_
  refine ms_T_pieceOf ht (by omega) (by omega) ?_
  refine ⟨_, rfl, ?_⟩
  refine PW_iaload zd_T_squareOf_10 (zsT_3 ht) (by omega) ?_
  refine PW_iret zd_T_squareOf_11 rfl ?_
  exact hX

set_option maxHeartbeats 4000000 in
set_option maxRecDepth 100000 in
theorem ms_T_lookNow {G : zG} {σ : zPH} {X : zX} {t : Nat} (ht : zisT t) {i tu st : Int} (hi : 0 ≤ i ∧ i < 60) (hp : zPc σ t i.toNat) (htu : 0 ≤ tu ∧ tu < 2147483648) (hst : 0 ≤ st ∧ st < 2147483648) (hX : X (some (iZ (zlk σ t i.toNat tu st))) σ) : MS G zm_T_lookNow 0 [zr G t, iZ i, iZ tu, iZ st] σ X := by
  obtain ⟨p1, p2, p3, p4, p5, -⟩ := hp
  have hsh : ∀ (x : Int) (n : Nat), 0 ≤ x → 0 ≤ x / 2 ^ n := fun x n hx => Int.ediv_nonneg hx (Int.le_of_lt (Int.pow_pos (by decide)))
  refine ms_of (ls := [some (zr G t), some (iZ i), some (iZ tu), some (iZ st)]) zk_T_lookNow (Nat.le_of_ble_eq_true rfl) rfl ?_
  refine PW_aload_n zd_T_lookNow_0 rfl ?_
  refine PW_getR zd_T_lookNow_1 zf_T_21 (zsT_0 ht) rfl ?_
  refine PW_iload_n zd_T_lookNow_4 rfl ?_
  refine PW_iaload zd_T_lookNow_5 (zsT_4 ht) (by omega) ?_
  rcases (show σ (t + 4) i.toNat = 2 ∨ σ (t + 4) i.toNat = 3 ∨ σ (t + 4) i.toNat = 4 ∨ σ (t + 4) i.toNat = 5 ∨ σ (t + 4) i.toNat = 6 ∨ σ (t + 4) i.toNat = 7 ∨ σ (t + 4) i.toNat = 8 ∨ σ (t + 4) i.toNat = 9 ∨ (σ (t + 4) i.toNat < 2 ∨ 9 < σ (t + 4) i.toNat) by omega) with hs | hs | hs | hs | hs | hs | hs | hs | hs
  · refine PW_tsin (tgt := 52) zd_T_lookNow_6 2 (by omega) (by decide) rfl (by decide) ?_
    refine PW_aload_n zd_T_lookNow_52 rfl ?_
    refine PW_getR zd_T_lookNow_53 zf_T_24 (zsT_0 ht) rfl ?_
    refine PW_iload_n zd_T_lookNow_56 rfl ?_
    refine PW_iaload zd_T_lookNow_57 (zsT_5 ht) (by omega) ?_
    refine PW_iconst zd_T_lookNow_58 ?_
    refine PW_icmp_ne zd_T_lookNow_59 (by omega) (fun h59 => ?_) (fun h59 => ?_)
    · refine PW_aload_n zd_T_lookNow_71 rfl ?_
      refine PW_getR zd_T_lookNow_72 zf_T_27 (zsT_0 ht) rfl ?_
      refine PW_iload_n zd_T_lookNow_75 rfl ?_
      refine PW_iaload zd_T_lookNow_76 (zsT_6 ht) (by omega) ?_
      refine PW_iload_n zd_T_lookNow_77 rfl ?_
      refine PW_aload_n zd_T_lookNow_78 rfl ?_
      refine PW_getR zd_T_lookNow_79 zf_T_24 (zsT_0 ht) rfl ?_
      refine PW_iload_n zd_T_lookNow_82 rfl ?_
      refine PW_iaload zd_T_lookNow_83 (zsT_5 ht) (by omega) ?_
      refine PW_ishr zd_T_lookNow_84 (by omega) ?_
      refine PW_iconst zd_T_lookNow_85 ?_
      refine PW_iand zd_T_lookNow_86 (by exact ⟨hsh _ _ htu.1, by decide⟩) ?_
      refine PW_ixor zd_T_lookNow_87 (by exact ⟨by omega, zand_nn _ _⟩) ?_
      refine PW_iret zd_T_lookNow_88 rfl ?_
      exact zret (F := fun r => X (some (iZ r)) _) hX (by first | (rw [zlk_x (p4 (by omega)) htu.1]; simp [zlk, zlkv, hs, h59]; done) | simp [zlk, zlkv, hs, h59])
    · refine PW_aload_n zd_T_lookNow_62 rfl ?_
      refine PW_getR zd_T_lookNow_63 zf_T_27 (zsT_0 ht) rfl ?_
      refine PW_iload_n zd_T_lookNow_66 rfl ?_
      refine PW_iaload zd_T_lookNow_67 (zsT_6 ht) (by omega) ?_
      refine PW_goto zd_T_lookNow_68 ?_
      refine PW_iret zd_T_lookNow_88 rfl ?_
      exact zret (F := fun r => X (some (iZ r)) _) hX (by first | (rw [zlk_x (p4 (by omega)) htu.1]; simp [zlk, zlkv, hs, h59]; done) | simp [zlk, zlkv, hs, h59])
  · refine PW_tsin (tgt := 52) zd_T_lookNow_6 3 (by omega) (by decide) rfl (by decide) ?_
    refine PW_aload_n zd_T_lookNow_52 rfl ?_
    refine PW_getR zd_T_lookNow_53 zf_T_24 (zsT_0 ht) rfl ?_
    refine PW_iload_n zd_T_lookNow_56 rfl ?_
    refine PW_iaload zd_T_lookNow_57 (zsT_5 ht) (by omega) ?_
    refine PW_iconst zd_T_lookNow_58 ?_
    refine PW_icmp_ne zd_T_lookNow_59 (by omega) (fun h59 => ?_) (fun h59 => ?_)
    · refine PW_aload_n zd_T_lookNow_71 rfl ?_
      refine PW_getR zd_T_lookNow_72 zf_T_27 (zsT_0 ht) rfl ?_
      refine PW_iload_n zd_T_lookNow_75 rfl ?_
      refine PW_iaload zd_T_lookNow_76 (zsT_6 ht) (by omega) ?_
      refine PW_iload_n zd_T_lookNow_77 rfl ?_
      refine PW_aload_n zd_T_lookNow_78 rfl ?_
      refine PW_getR zd_T_lookNow_79 zf_T_24 (zsT_0 ht) rfl ?_
      refine PW_iload_n zd_T_lookNow_82 rfl ?_
      refine PW_iaload zd_T_lookNow_83 (zsT_5 ht) (by omega) ?_
      refine PW_ishr zd_T_lookNow_84 (by omega) ?_
      refine PW_iconst zd_T_lookNow_85 ?_
      refine PW_iand zd_T_lookNow_86 (by exact ⟨hsh _ _ htu.1, by decide⟩) ?_
      refine PW_ixor zd_T_lookNow_87 (by exact ⟨by omega, zand_nn _ _⟩) ?_
      refine PW_iret zd_T_lookNow_88 rfl ?_
      exact zret (F := fun r => X (some (iZ r)) _) hX (by first | (rw [zlk_x (p4 (by omega)) htu.1]; simp [zlk, zlkv, hs, h59]; done) | simp [zlk, zlkv, hs, h59])
    · refine PW_aload_n zd_T_lookNow_62 rfl ?_
      refine PW_getR zd_T_lookNow_63 zf_T_27 (zsT_0 ht) rfl ?_
      refine PW_iload_n zd_T_lookNow_66 rfl ?_
      refine PW_iaload zd_T_lookNow_67 (zsT_6 ht) (by omega) ?_
      refine PW_goto zd_T_lookNow_68 ?_
      refine PW_iret zd_T_lookNow_88 rfl ?_
      exact zret (F := fun r => X (some (iZ r)) _) hX (by first | (rw [zlk_x (p4 (by omega)) htu.1]; simp [zlk, zlkv, hs, h59]; done) | simp [zlk, zlkv, hs, h59])
  · refine PW_tsin (tgt := 107) zd_T_lookNow_6 4 (by omega) (by decide) rfl (by decide) ?_
    refine PW_aload_n zd_T_lookNow_107 rfl ?_
    refine PW_getR zd_T_lookNow_108 zf_T_27 (zsT_0 ht) rfl ?_
    refine PW_iload_n zd_T_lookNow_111 rfl ?_
    refine PW_iaload zd_T_lookNow_112 (zsT_6 ht) (by omega) ?_
    refine PW_iret zd_T_lookNow_113 rfl ?_
    exact zret (F := fun r => X (some (iZ r)) _) hX (by unfold zlk zlkv; rw [if_neg (by omega), if_neg (by omega)])
  · refine PW_tsin (tgt := 107) zd_T_lookNow_6 5 (by omega) (by decide) rfl (by decide) ?_
    refine PW_aload_n zd_T_lookNow_107 rfl ?_
    refine PW_getR zd_T_lookNow_108 zf_T_27 (zsT_0 ht) rfl ?_
    refine PW_iload_n zd_T_lookNow_111 rfl ?_
    refine PW_iaload zd_T_lookNow_112 (zsT_6 ht) (by omega) ?_
    refine PW_iret zd_T_lookNow_113 rfl ?_
    exact zret (F := fun r => X (some (iZ r)) _) hX (by unfold zlk zlkv; rw [if_neg (by omega), if_neg (by omega)])
  · refine PW_tsin (tgt := 107) zd_T_lookNow_6 6 (by omega) (by decide) rfl (by decide) ?_
    refine PW_aload_n zd_T_lookNow_107 rfl ?_
    refine PW_getR zd_T_lookNow_108 zf_T_27 (zsT_0 ht) rfl ?_
    refine PW_iload_n zd_T_lookNow_111 rfl ?_
    refine PW_iaload zd_T_lookNow_112 (zsT_6 ht) (by omega) ?_
    refine PW_iret zd_T_lookNow_113 rfl ?_
    exact zret (F := fun r => X (some (iZ r)) _) hX (by unfold zlk zlkv; rw [if_neg (by omega), if_neg (by omega)])
  · refine PW_tsin (tgt := 107) zd_T_lookNow_6 7 (by omega) (by decide) rfl (by decide) ?_
    refine PW_aload_n zd_T_lookNow_107 rfl ?_
    refine PW_getR zd_T_lookNow_108 zf_T_27 (zsT_0 ht) rfl ?_
    refine PW_iload_n zd_T_lookNow_111 rfl ?_
    refine PW_iaload zd_T_lookNow_112 (zsT_6 ht) (by omega) ?_
    refine PW_iret zd_T_lookNow_113 rfl ?_
    exact zret (F := fun r => X (some (iZ r)) _) hX (by unfold zlk zlkv; rw [if_neg (by omega), if_neg (by omega)])
  · refine PW_tsin (tgt := 89) zd_T_lookNow_6 8 (by omega) (by decide) rfl (by decide) ?_
    refine PW_aload_n zd_T_lookNow_89 rfl ?_
    refine PW_getR zd_T_lookNow_90 zf_T_27 (zsT_0 ht) rfl ?_
    refine PW_iload_n zd_T_lookNow_93 rfl ?_
    refine PW_iaload zd_T_lookNow_94 (zsT_6 ht) (by omega) ?_
    refine PW_iload_n zd_T_lookNow_95 rfl ?_
    refine PW_aload_n zd_T_lookNow_96 rfl ?_
    refine PW_getR zd_T_lookNow_97 zf_T_24 (zsT_0 ht) rfl ?_
    refine PW_iload_n zd_T_lookNow_100 rfl ?_
    refine PW_iaload zd_T_lookNow_101 (zsT_5 ht) (by omega) ?_
    refine PW_ishr zd_T_lookNow_102 (by omega) ?_
    refine PW_iconst zd_T_lookNow_103 ?_
    refine PW_iand zd_T_lookNow_104 (by exact ⟨hsh _ _ hst.1, by decide⟩) ?_
    refine PW_ixor zd_T_lookNow_105 (by exact ⟨by omega, zand_nn _ _⟩) ?_
    refine PW_iret zd_T_lookNow_106 rfl ?_
    exact zret (F := fun r => X (some (iZ r)) _) hX (by rw [zlk_x (p4 (by omega)) hst.1]; simp [zlk, zlkv, hs])
  · refine PW_tsin (tgt := 89) zd_T_lookNow_6 9 (by omega) (by decide) rfl (by decide) ?_
    refine PW_aload_n zd_T_lookNow_89 rfl ?_
    refine PW_getR zd_T_lookNow_90 zf_T_27 (zsT_0 ht) rfl ?_
    refine PW_iload_n zd_T_lookNow_93 rfl ?_
    refine PW_iaload zd_T_lookNow_94 (zsT_6 ht) (by omega) ?_
    refine PW_iload_n zd_T_lookNow_95 rfl ?_
    refine PW_aload_n zd_T_lookNow_96 rfl ?_
    refine PW_getR zd_T_lookNow_97 zf_T_24 (zsT_0 ht) rfl ?_
    refine PW_iload_n zd_T_lookNow_100 rfl ?_
    refine PW_iaload zd_T_lookNow_101 (zsT_5 ht) (by omega) ?_
    refine PW_ishr zd_T_lookNow_102 (by omega) ?_
    refine PW_iconst zd_T_lookNow_103 ?_
    refine PW_iand zd_T_lookNow_104 (by exact ⟨hsh _ _ hst.1, by decide⟩) ?_
    refine PW_ixor zd_T_lookNow_105 (by exact ⟨by omega, zand_nn _ _⟩) ?_
    refine PW_iret zd_T_lookNow_106 rfl ?_
    exact zret (F := fun r => X (some (iZ r)) _) hX (by rw [zlk_x (p4 (by omega)) hst.1]; simp [zlk, zlkv, hs])
  · refine PW_tsout (tgt := 107) zd_T_lookNow_6 (by omega) (by decide) ?_
    refine PW_aload_n zd_T_lookNow_107 rfl ?_
    refine PW_getR zd_T_lookNow_108 zf_T_27 (zsT_0 ht) rfl ?_
    refine PW_iload_n zd_T_lookNow_111 rfl ?_
    refine PW_iaload zd_T_lookNow_112 (zsT_6 ht) (by omega) ?_
    refine PW_iret zd_T_lookNow_113 rfl ?_
    exact zret (F := fun r => X (some (iZ r)) _) hX (by unfold zlk zlkv; rw [if_neg (by omega), if_neg (by omega)])

/-- colours that come into a square -/
def zci (σ : zPH) (a : Nat) (sq : Int) : Int := if sq = -1 then 0 else zor (zor (zor (σ (a + 1) (4 * sq.toNat)) (σ (a + 1) (4 * sq.toNat + 1))) (σ (a + 1) (4 * sq.toNat + 2))) (σ (a + 1) (4 * sq.toNat + 3))

set_option maxHeartbeats 4000000 in
set_option maxRecDepth 100000 in
theorem ms_L_comesInto {G : zG} {σ : zPH} {X : zX} {a : Nat} (ha : zisL a) (hL : zLs σ a) {q : Int} (hq : -1 ≤ q ∧ q < 144) (hX : X (some (iZ (zci σ a q))) σ) : MS G zm_L_comesInto 0 [zr G a, iZ q] σ X := by
  refine ms_of (ls := [some (zr G a), some (iZ q), none]) zk_L_comesInto (Nat.le_of_ble_eq_true rfl) rfl ?_
  refine PW_iload_n zd_L_comesInto_0 rfl ?_
  refine PW_iconst zd_L_comesInto_1 ?_
  refine PW_icmp_ne zd_L_comesInto_2 (by omega) (fun h2 => ?_) (fun h2 => ?_)
  · refine PW_iload_n zd_L_comesInto_7 rfl ?_
    refine PW_iconst zd_L_comesInto_8 ?_
    refine PW_imul zd_L_comesInto_9 ?_
    refine PW_istore_n zd_L_comesInto_10 rfl (by decide) (ls2 := [_, _, _]) rfl ?_
    refine PW_aload_n zd_L_comesInto_11 rfl ?_
    refine PW_getR zd_L_comesInto_12 zf_L_9 (zsL_0 ha) rfl ?_
    refine PW_iload_n zd_L_comesInto_15 rfl ?_
    refine PW_iconst zd_L_comesInto_16 ?_
    refine PW_iadd zd_L_comesInto_17 ?_
    refine PW_iaload zd_L_comesInto_18 (zsL_1 ha) (by omega) ?_
    refine PW_aload_n zd_L_comesInto_19 rfl ?_
    refine PW_getR zd_L_comesInto_20 zf_L_9 (zsL_0 ha) rfl ?_
    refine PW_iload_n zd_L_comesInto_23 rfl ?_
    refine PW_iconst zd_L_comesInto_24 ?_
    refine PW_iadd zd_L_comesInto_25 ?_
    refine PW_iaload zd_L_comesInto_26 (zsL_1 ha) (by omega) ?_
    refine PW_ior zd_L_comesInto_27 (by exact ⟨(hL.2.1 _).1, (hL.2.1 _).1⟩) ?_
    refine PW_aload_n zd_L_comesInto_28 rfl ?_
    refine PW_getR zd_L_comesInto_29 zf_L_9 (zsL_0 ha) rfl ?_
    refine PW_iload_n zd_L_comesInto_32 rfl ?_
    refine PW_iconst zd_L_comesInto_33 ?_
    refine PW_iadd zd_L_comesInto_34 ?_
    refine PW_iaload zd_L_comesInto_35 (zsL_1 ha) (by omega) ?_
    refine PW_ior zd_L_comesInto_36 (by exact ⟨zor_nn _ _, (hL.2.1 _).1⟩) ?_
    refine PW_aload_n zd_L_comesInto_37 rfl ?_
    refine PW_getR zd_L_comesInto_38 zf_L_9 (zsL_0 ha) rfl ?_
    refine PW_iload_n zd_L_comesInto_41 rfl ?_
    refine PW_iconst zd_L_comesInto_42 ?_
    refine PW_iadd zd_L_comesInto_43 ?_
    refine PW_iaload zd_L_comesInto_44 (zsL_1 ha) (by omega) ?_
    refine PW_ior zd_L_comesInto_45 (by exact ⟨zor_nn _ _, (hL.2.1 _).1⟩) ?_
    refine PW_iret zd_L_comesInto_46 rfl ?_
    exact zret (F := fun r => X (some (iZ r)) _) hX (by rw [zci, if_neg (by omega), show (q * 4 + 0).toNat = 4 * q.toNat by omega, show (q * 4 + 1).toNat = 4 * q.toNat + 1 by omega, show (q * 4 + 2).toNat = 4 * q.toNat + 2 by omega, show (q * 4 + 3).toNat = 4 * q.toNat + 3 by omega])
  · refine PW_iconst zd_L_comesInto_5 ?_
    refine PW_iret zd_L_comesInto_6 rfl ?_
    exact zret (F := fun r => X (some (iZ r)) _) hX (by simp [zci, h2])

def zfr (σ : zPH) (a : Nat) (n col : Int) : Int := if n = -1 then 0 else zdif col (σ (a + 1) n.toNat)
def zsend (a : Nat) (n col stp : Int) (σ : zPH) : zPH :=
  if zfr σ a n col = 0 ∨ 1728 ≤ σ a 3 then σ else
    zupd (zupd (zupd (if σ (a + 1) n.toNat = 0 then zupd σ (a + 4) n.toNat stp else σ) (a + 1) n.toNat (zor (σ (a + 1) n.toNat) (zfr σ a n col))) (a + 3) (σ a 3).toNat (zor (n * 8) (zfr σ a n col))) a 3 (σ a 3 + 1)

set_option maxHeartbeats 4000000 in
set_option maxRecDepth 100000 in
theorem ms_L_send {G : zG} {σ : zPH} {X : zX} {a : Nat} (ha : zisL a) (hL : zLs σ a) {n c s : Int} (hn : -1 ≤ n ∧ n < 576) (hc : 0 ≤ c ∧ c < 8) (hX : X none (zsend a n c s σ)) : MS G zm_L_send 0 [zr G a, iZ n, iZ c, iZ s] σ X := by
  have hi := hL.2.1 n.toNat
  obtain ⟨hA, -, -⟩ := id hL
  have hf0 : 0 ≤ zfr σ a n c ∧ zfr σ a n c < 8 := by
    unfold zfr; split
    · omega
    · have := zdif_nn (y := σ (a + 1) n.toNat) hc.1; have := zdif_le (y := σ (a + 1) n.toNat) hc.1; omega
  refine ms_of (ls := [some (zr G a), some (iZ n), some (iZ c), some (iZ s), none]) zk_L_send (Nat.le_of_ble_eq_true rfl) rfl ?_
  have hj_19 : ∀ (f : Int), f = zfr σ a n c → PW G zm_L_send 0 X 19 [some (zr G a), some (iZ n), some (iZ c), some (iZ s), none] [iZ f] σ := by
    intro f hf
    refine PW_istore zd_L_send_19 rfl (by decide) (ls2 := [_, _, _, _, _]) rfl ?_
    refine PW_iload zd_L_send_21 rfl ?_
    refine PW_if_eq zd_L_send_23 (by omega) (fun h23 => ?_) (fun h23 => ?_)
    · refine PW_vret zd_L_send_38 rfl ?_
      exact zretσ hX (by rw [zsend, if_pos (by omega)])
    · refine PW_aload_n zd_L_send_26 rfl ?_
      refine PW_getI zd_L_send_27 zf_L_76 (zsL_0 ha) rfl ?_
      refine PW_aload_n zd_L_send_30 rfl ?_
      refine PW_getR zd_L_send_31 zf_L_18 (zsL_0 ha) rfl ?_
      refine PW_alen zd_L_send_34 (zsL_3 ha) (by decide) (by rcases ha with rfl | rfl <;> decide) ?_
      refine PW_icmp_lt zd_L_send_35 (by omega) (fun h35 => ?_) (fun h35 => ?_)
      · refine PW_aload_n zd_L_send_39 rfl ?_
        have hn0 : 0 ≤ n := by
          rcases (show n = -1 ∨ 0 ≤ n by omega) with q | q
          · rw [zfr, if_pos q] at hf; omega
          · exact q
        refine PW_getR zd_L_send_40 zf_L_9 (zsL_0 ha) rfl ?_
        refine PW_iload_n zd_L_send_43 rfl ?_
        refine PW_iaload zd_L_send_44 (zsL_1 ha) (by omega) ?_
        refine PW_if_ne zd_L_send_45 (by omega) (fun h45 => ?_) (fun h45 => ?_)
        · refine PW_aload_n zd_L_send_55 rfl ?_
          refine PW_getR zd_L_send_56 zf_L_9 (zsL_0 ha) rfl ?_
          refine PW_iload_n zd_L_send_59 rfl ?_
          refine PW_dup2 zd_L_send_60 rfl rfl ?_
          refine PW_iaload zd_L_send_61 (zsL_1 ha) (by omega) ?_
          refine PW_iload zd_L_send_62 rfl ?_
          refine PW_ior zd_L_send_64 (by exact ⟨hi.1, by omega⟩) ?_
          refine PW_iastore zd_L_send_65 (zsL_1 ha) (by omega) ?_
          refine PW_aload_n zd_L_send_66 rfl ?_
          refine PW_getR zd_L_send_67 zf_L_18 (zsL_0 ha) rfl ?_
          refine PW_aload_n zd_L_send_70 rfl ?_
          refine PW_getI zd_L_send_71 zf_L_76 (zsL_0 ha) rfl ?_
          try simp (disch := omega) only [zupd_same, zupd_na, zupd_nk]
          refine PW_iload_n zd_L_send_74 rfl ?_
          refine PW_iconst zd_L_send_75 ?_
          refine PW_ishlC 8 zd_L_send_76 (by omega) rfl ?_
          refine PW_iload zd_L_send_77 rfl ?_
          refine PW_ior zd_L_send_79 (by omega) ?_
          refine PW_iastore zd_L_send_80 (zsL_3 ha) (by omega) ?_
          refine PW_aload_n zd_L_send_81 rfl ?_
          refine PW_dup zd_L_send_82 rfl ?_
          refine PW_getI zd_L_send_83 zf_L_76 (zsL_0 ha) rfl ?_
          try simp (disch := omega) only [zupd_same, zupd_na, zupd_nk]
          refine PW_iconst zd_L_send_86 ?_
          refine PW_iadd zd_L_send_87 ?_
          refine PW_putI zd_L_send_88 zp_L_76 (zsL_0 ha) rfl ?_
          refine PW_vret zd_L_send_91 rfl ?_
          exact zretσ hX (by rw [zsend, if_neg (by omega)]; simp [h45, hf])
        · refine PW_aload_n zd_L_send_48 rfl ?_
          refine PW_getR zd_L_send_49 zf_L_21 (zsL_0 ha) rfl ?_
          refine PW_iload_n zd_L_send_52 rfl ?_
          refine PW_iload_n zd_L_send_53 rfl ?_
          refine PW_iastore zd_L_send_54 (zsL_4 ha) (by omega) ?_
          refine PW_aload_n zd_L_send_55 rfl ?_
          refine PW_getR zd_L_send_56 zf_L_9 (zsL_0 ha) rfl ?_
          refine PW_iload_n zd_L_send_59 rfl ?_
          refine PW_dup2 zd_L_send_60 rfl rfl ?_
          refine PW_iaload zd_L_send_61 (zsL_1 ha) (by omega) ?_
          try simp (disch := omega) only [zupd_same, zupd_na, zupd_nk]
          refine PW_iload zd_L_send_62 rfl ?_
          refine PW_ior zd_L_send_64 (by exact ⟨hi.1, by omega⟩) ?_
          refine PW_iastore zd_L_send_65 (zsL_1 ha) (by omega) ?_
          refine PW_aload_n zd_L_send_66 rfl ?_
          refine PW_getR zd_L_send_67 zf_L_18 (zsL_0 ha) rfl ?_
          refine PW_aload_n zd_L_send_70 rfl ?_
          refine PW_getI zd_L_send_71 zf_L_76 (zsL_0 ha) rfl ?_
          try simp (disch := omega) only [zupd_same, zupd_na, zupd_nk]
          refine PW_iload_n zd_L_send_74 rfl ?_
          refine PW_iconst zd_L_send_75 ?_
          refine PW_ishlC 8 zd_L_send_76 (by omega) rfl ?_
          refine PW_iload zd_L_send_77 rfl ?_
          refine PW_ior zd_L_send_79 (by omega) ?_
          refine PW_iastore zd_L_send_80 (zsL_3 ha) (by omega) ?_
          refine PW_aload_n zd_L_send_81 rfl ?_
          refine PW_dup zd_L_send_82 rfl ?_
          refine PW_getI zd_L_send_83 zf_L_76 (zsL_0 ha) rfl ?_
          try simp (disch := omega) only [zupd_same, zupd_na, zupd_nk]
          refine PW_iconst zd_L_send_86 ?_
          refine PW_iadd zd_L_send_87 ?_
          refine PW_putI zd_L_send_88 zp_L_76 (zsL_0 ha) rfl ?_
          refine PW_vret zd_L_send_91 rfl ?_
          exact zretσ hX (by rw [zsend, if_neg (by omega)]; simp [h45, hf])
      · refine PW_vret zd_L_send_38 rfl ?_
        exact zretσ hX (by rw [zsend, if_pos (by omega)])
  refine PW_iload_n zd_L_send_0 rfl ?_
  refine PW_iconst zd_L_send_1 ?_
  refine PW_icmp_ne zd_L_send_2 (by omega) (fun h2 => ?_) (fun h2 => ?_)
  · refine PW_iload_n zd_L_send_9 rfl ?_
    refine PW_aload_n zd_L_send_10 rfl ?_
    refine PW_getR zd_L_send_11 zf_L_9 (zsL_0 ha) rfl ?_
    refine PW_iload_n zd_L_send_14 rfl ?_
    refine PW_iaload zd_L_send_15 (zsL_1 ha) (by omega) ?_
    refine PW_iconst zd_L_send_16 ?_
    refine PW_ixorM zd_L_send_17 ?_
    refine PW_iandG (z := zdif c (σ (a + 1) n.toNat)) zd_L_send_18 (zandnot hc.1 hi.1) ?_
    exact hj_19 _ (by first | (simp [zfr, h2]; done) | (rw [zfr, if_neg (by omega)]))
  · refine PW_iconst zd_L_send_5 ?_
    refine PW_goto zd_L_send_6 ?_
    exact hj_19 _ (by first | (simp [zfr, h2]; done) | (rw [zfr, if_neg (by omega)]))
