def w_M_is (G : zG) (v least most : Int) (X : zX) (σ : zPH) : Prop :=
  (zI v ∧ zI least) ∧
  (v < least →
    X (some (iZ 0)) σ) ∧
  (least ≤ v →
    (zI v ∧ zI most) ∧
    (most < v →
      X (some (iZ 0)) σ) ∧
    (v ≤ most →
      X (some (iZ 1)) σ))
set_option maxHeartbeats 4000000 in
theorem k_M_is {G : zG} {v least most : Int} {X : zX} {σ : zPH} (h : w_M_is G v least most X σ) : MS G zm_M_is 0 [iZ v, iZ least, iZ most] σ X := by
  refine ms_of zk_M_is (Nat.le_of_ble_eq_true rfl) (ls := [some (iZ v), some (iZ least), some (iZ most)]) rfl ?_
  unfold w_M_is at h
  refine PW_iload_n zd_M_is_0 rfl ?_
  refine PW_iload_n zd_M_is_1 rfl ?_
  obtain ⟨h0, hT, hF⟩ := h
  refine PW_icmp_lt zd_M_is_2 h0 (fun q => ?_) (fun q => ?_)
  · have h := hT q
    refine PW_iconst zd_M_is_14 ?_
    exact PW_zret zd_M_is_15 rfl (by decide) h
  · have h := hF q
    refine PW_iload_n zd_M_is_5 rfl ?_
    refine PW_iload_n zd_M_is_6 rfl ?_
    obtain ⟨h0, hT, hF⟩ := h
    refine PW_icmp_gt zd_M_is_7 h0 (fun q => ?_) (fun q => ?_)
    · have h := hT q
      refine PW_iconst zd_M_is_14 ?_
      exact PW_zret zd_M_is_15 rfl (by decide) h
    · have h := hF q
      refine PW_iconst zd_M_is_10 ?_
      refine PW_goto zd_M_is_11 ?_
      exact PW_zret zd_M_is_15 rfl (by decide) h
def b_M_put_3 (G : zG) (v : Int) (X : zX) (K3 : Int → zPH → Prop) (x2 : Int) (σ : zPH) : Prop :=
  (zI x2) ∧
  (x2 < 0 →
    X none σ) ∧
  (0 ≤ x2 →
    (zI v ∧ 0 ≤ x2 ∧ x2 < 32) ∧
    (0 ≤ (σ 58 1) ∧ (σ 58 1) < 1600) ∧
    ∀ σ22 : zPH, σ22 = zupd σ 59 (σ 58 1).toNat ((v / 2 ^ x2.toNat) % 256) →
    ∀ σ30 : zPH, σ30 = zupd σ22 58 1 ((σ22 58 1) + 1) →
    K3 (x2 + (-8)) σ30)
set_option maxHeartbeats 4000000 in
theorem kb_M_put_3 {G : zG} {v : Int} {X : zX} {K3 : Int → zPH → Prop} (hK3 : ∀ (y0 : Int) (σ : zPH), K3 y0 σ → PW G zm_M_put 0 X 3 [some (zr G 58), some (iZ v), some (iZ y0)] [] σ) {x2 : Int} {σ : zPH} (h : b_M_put_3 G v X K3 x2 σ) : PW G zm_M_put 0 X 3 [some (zr G 58), some (iZ v), some (iZ x2)] [] σ := by
  unfold b_M_put_3 at h
  refine PW_iload_n zd_M_put_3 rfl ?_
  obtain ⟨h0, hT, hF⟩ := h
  refine PW_if_lt zd_M_put_4 h0 (fun q => ?_) (fun q => ?_)
  · have h := hT q
    exact PW_vret zd_M_put_39 rfl h
  · have h := hF q
    refine PW_aload_n zd_M_put_7 rfl ?_
    refine PW_getR zd_M_put_8 zf_M_7 (zs_58 _) rfl ?_
    refine PW_aload_n zd_M_put_11 rfl ?_
    refine PW_getI zd_M_put_12 zf_M_13 (zs_58 _) rfl ?_
    refine PW_iload_n zd_M_put_15 rfl ?_
    refine PW_iload_n zd_M_put_16 rfl ?_
    obtain ⟨h0, h⟩ := h
    refine PW_ishr zd_M_put_17 h0 ?_
    refine PW_sipush zd_M_put_18 rfl ?_
    refine PW_iandm255 zd_M_put_21 ?_
    obtain ⟨h0, h⟩ := h
    refine PW_iastore zd_M_put_22 (zs_59 _) h0 ?_
    have h := h _ rfl
    refine PW_aload_n zd_M_put_23 rfl ?_
    refine PW_dup zd_M_put_24 rfl ?_
    refine PW_getI zd_M_put_25 zf_M_13 (zs_58 _) rfl ?_
    refine PW_iconst zd_M_put_28 ?_
    refine PW_iadd zd_M_put_29 ?_
    refine PW_putI zd_M_put_30 zp_M_13 (zs_58 _) rfl ?_
    have h := h _ rfl
    refine PW_iinc zd_M_put_33 rfl rfl (by decide) (ls2 := [_, _, _]) rfl ?_
    refine PW_goto zd_M_put_36 ?_
    exact PW_sub (by exact ⟨rfl, rfl, rfl, trivial⟩) (hK3 _ _ h)
theorem kl_M_put_3 {G : zG} {v : Int} {X : zX} {x2 : Int} {σ : zPH} (h : zLP1 (b_M_put_3 G v X ) x2 σ) : PW G zm_M_put 0 X 3 [some (zr G 58), some (iZ v), some (iZ x2)] [] σ := by
  obtain ⟨n, h⟩ := h
  induction n generalizing x2 σ with
  | zero => exact h.elim
  | succ n ih => exact kb_M_put_3   (fun _ _ h => ih h) h
def w_M_put (G : zG) (v : Int) (X : zX) (σ : zPH) : Prop :=
  zLP1 (b_M_put_3 G v X ) 24 σ
set_option maxHeartbeats 4000000 in
theorem k_M_put {G : zG} {v : Int} {X : zX} {σ : zPH} (h : w_M_put G v X σ) : MS G zm_M_put 0 [zr G 58, iZ v] σ X := by
  refine ms_of zk_M_put (Nat.le_of_ble_eq_true rfl) (ls := [some (zr G 58), some (iZ v), none]) rfl ?_
  unfold w_M_put at h
  refine PW_bipush zd_M_put_0 rfl ?_
  refine PW_istore_n zd_M_put_2 rfl (by decide) (ls2 := [_, _, _]) rfl ?_
  exact PW_sub (by exact ⟨rfl, rfl, rfl, trivial⟩) (kl_M_put_3   h)
def w_M_feed (G : zG) (a b c d e : Int) (X : zX) (σ : zPH) : Prop :=
  (zI ((σ 58 1) + 20)) ∧
  (((σ 58 1) + 20) ≤ 1600 →
    MS G zm_M_put 0 [zr G 58, iZ a] σ (fun v σ17 =>
      v = none ∧
      MS G zm_M_put 0 [zr G 58, iZ b] σ17 (fun v σ22 =>
        v = none ∧
        MS G zm_M_put 0 [zr G 58, iZ c] σ22 (fun v σ27 =>
          v = none ∧
          MS G zm_M_put 0 [zr G 58, iZ d] σ27 (fun v σ33 =>
            v = none ∧
            MS G zm_M_put 0 [zr G 58, iZ e] σ33 (fun v σ39 =>
              v = none ∧
              X (some (iZ (σ39 58 1))) σ39)))))) ∧
  (1600 < ((σ 58 1) + 20) →
    X (some (iZ (-1))) σ)
set_option maxHeartbeats 4000000 in
theorem k_M_feed {G : zG} {a b c d e : Int} {X : zX} {σ : zPH} (h : w_M_feed G a b c d e X σ) : MS G zm_M_feed 1 [zr G 58, iZ a, iZ b, iZ c, iZ d, iZ e] σ X := by
  refine ms_of zk_M_feed (Nat.le_of_ble_eq_true rfl) (ls := [some (zr G 58), some (iZ a), some (iZ b), some (iZ c), some (iZ d), some (iZ e)]) rfl ?_
  unfold w_M_feed at h
  refine PW_aload_n zd_M_feed_0 rfl ?_
  refine PW_getI zd_M_feed_1 zf_M_13 (zs_58 _) rfl ?_
  refine PW_bipush zd_M_feed_4 rfl ?_
  refine PW_iadd zd_M_feed_6 ?_
  refine PW_sipush zd_M_feed_7 rfl ?_
  obtain ⟨h0, hT, hF⟩ := h
  refine PW_icmp_le zd_M_feed_10 ⟨h0, by decide⟩ (fun q => ?_) (fun q => ?_)
  · have h := hT q
    refine PW_aload_n zd_M_feed_15 rfl ?_
    refine PW_iload_n zd_M_feed_16 rfl ?_
    refine PW_callV1v zd_M_feed_17 zl_M_234 zk_M_put zv_M_put (fr' := 0) (by decide) (zs_58 _) rfl rfl (Nat.le_of_ble_eq_true rfl) ?_
    refine ms_mono h ?_
    rintro v σ1 ⟨rfl, h⟩
    refine ⟨rfl, ?_⟩
    refine PW_aload_n zd_M_feed_20 rfl ?_
    refine PW_iload_n zd_M_feed_21 rfl ?_
    refine PW_callV1v zd_M_feed_22 zl_M_234 zk_M_put zv_M_put (fr' := 0) (by decide) (zs_58 _) rfl rfl (Nat.le_of_ble_eq_true rfl) ?_
    refine ms_mono h ?_
    rintro v σ1 ⟨rfl, h⟩
    refine ⟨rfl, ?_⟩
    refine PW_aload_n zd_M_feed_25 rfl ?_
    refine PW_iload_n zd_M_feed_26 rfl ?_
    refine PW_callV1v zd_M_feed_27 zl_M_234 zk_M_put zv_M_put (fr' := 0) (by decide) (zs_58 _) rfl rfl (Nat.le_of_ble_eq_true rfl) ?_
    refine ms_mono h ?_
    rintro v σ1 ⟨rfl, h⟩
    refine ⟨rfl, ?_⟩
    refine PW_aload_n zd_M_feed_30 rfl ?_
    refine PW_iload zd_M_feed_31 rfl ?_
    refine PW_callV1v zd_M_feed_33 zl_M_234 zk_M_put zv_M_put (fr' := 0) (by decide) (zs_58 _) rfl rfl (Nat.le_of_ble_eq_true rfl) ?_
    refine ms_mono h ?_
    rintro v σ1 ⟨rfl, h⟩
    refine ⟨rfl, ?_⟩
    refine PW_aload_n zd_M_feed_36 rfl ?_
    refine PW_iload zd_M_feed_37 rfl ?_
    refine PW_callV1v zd_M_feed_39 zl_M_234 zk_M_put zv_M_put (fr' := 0) (by decide) (zs_58 _) rfl rfl (Nat.le_of_ble_eq_true rfl) ?_
    refine ms_mono h ?_
    rintro v σ1 ⟨rfl, h⟩
    refine ⟨rfl, ?_⟩
    refine PW_aload_n zd_M_feed_42 rfl ?_
    refine PW_getI zd_M_feed_43 zf_M_13 (zs_58 _) rfl ?_
    exact PW_iret zd_M_feed_46 rfl h
  · have h := hF q
    refine PW_iconst zd_M_feed_13 ?_
    exact PW_iret zd_M_feed_14 rfl h
def w_M_end (G : zG) (n : Int) (X : zX) (σ : zPH) : Prop :=
  (zI n) ∧
  (n < 0 →
    X (some (iZ 0)) σ) ∧
  (0 ≤ n →
    (zI n ∧ zI (σ 58 1)) ∧
    (n ≤ (σ 58 1) →
      ∀ σ16 : zPH, σ16 = zupd σ 58 1 n →
      X (some (iZ 1)) σ16) ∧
    ((σ 58 1) < n →
      X (some (iZ 0)) σ))
set_option maxHeartbeats 4000000 in
theorem k_M_end {G : zG} {n : Int} {X : zX} {σ : zPH} (h : w_M_end G n X σ) : MS G zm_M_end 0 [zr G 58, iZ n] σ X := by
  refine ms_of zk_M_end (Nat.le_of_ble_eq_true rfl) (ls := [some (zr G 58), some (iZ n)]) rfl ?_
  unfold w_M_end at h
  refine PW_iload_n zd_M_end_0 rfl ?_
  obtain ⟨h0, hT, hF⟩ := h
  refine PW_if_lt zd_M_end_1 h0 (fun q => ?_) (fun q => ?_)
  · have h := hT q
    refine PW_iconst zd_M_end_12 ?_
    exact PW_zret zd_M_end_13 rfl (by decide) h
  · have h := hF q
    refine PW_iload_n zd_M_end_4 rfl ?_
    refine PW_aload_n zd_M_end_5 rfl ?_
    refine PW_getI zd_M_end_6 zf_M_13 (zs_58 _) rfl ?_
    obtain ⟨h0, hT, hF⟩ := h
    refine PW_icmp_le zd_M_end_9 h0 (fun q => ?_) (fun q => ?_)
    · have h := hT q
      refine PW_aload_n zd_M_end_14 rfl ?_
      refine PW_iload_n zd_M_end_15 rfl ?_
      refine PW_putI zd_M_end_16 zp_M_13 (zs_58 _) rfl ?_
      have h := h _ rfl
      refine PW_iconst zd_M_end_19 ?_
      exact PW_zret zd_M_end_20 rfl (by decide) h
    · have h := hF q
      refine PW_iconst zd_M_end_12 ?_
      exact PW_zret zd_M_end_13 rfl (by decide) h
def w_M_blame (G : zG) (kind place : Int) (X : zX) (σ : zPH) : Prop :=
  (zI (σ 58 10)) ∧
  ((σ 58 10) ≤ 0 →
    ∀ σ10 : zPH, σ10 = zupd σ 58 10 kind →
    ∀ σ15 : zPH, σ15 = zupd σ10 58 11 place →
    X none σ15) ∧
  (0 < (σ 58 10) →
    X none σ)
set_option maxHeartbeats 4000000 in
theorem k_M_blame {G : zG} {kind place : Int} {X : zX} {σ : zPH} (h : w_M_blame G kind place X σ) : MS G zm_M_blame 0 [zr G 58, iZ kind, iZ place] σ X := by
  refine ms_of zk_M_blame (Nat.le_of_ble_eq_true rfl) (ls := [some (zr G 58), some (iZ kind), some (iZ place)]) rfl ?_
  unfold w_M_blame at h
  refine PW_aload_n zd_M_blame_0 rfl ?_
  refine PW_getI zd_M_blame_1 zf_M_42 (zs_58 _) rfl ?_
  obtain ⟨h0, hT, hF⟩ := h
  refine PW_if_le zd_M_blame_4 h0 (fun q => ?_) (fun q => ?_)
  · have h := hT q
    refine PW_aload_n zd_M_blame_8 rfl ?_
    refine PW_iload_n zd_M_blame_9 rfl ?_
    refine PW_putI zd_M_blame_10 zp_M_42 (zs_58 _) rfl ?_
    have h := h _ rfl
    refine PW_aload_n zd_M_blame_13 rfl ?_
    refine PW_iload_n zd_M_blame_14 rfl ?_
    refine PW_putI zd_M_blame_15 zp_M_45 (zs_58 _) rfl ?_
    have h := h _ rfl
    exact PW_vret zd_M_blame_18 rfl h
  · have h := hF q
    exact PW_vret zd_M_blame_7 rfl h
def w_M_byteAt (G : zG) (k : Int) (X : zX) (σ : zPH) : Prop :=
  (zI k) ∧
  (k < 0 →
    X (some (iZ (-1))) σ) ∧
  (0 ≤ k →
    (zI k ∧ zI (σ 58 4)) ∧
    ((σ 58 4) ≤ k →
      X (some (iZ (-1))) σ) ∧
    (k < (σ 58 4) →
      (0 ≤ k ∧ k < 1600) ∧
      X (some (iZ (σ 59 k.toNat))) σ))
set_option maxHeartbeats 4000000 in
theorem k_M_byteAt {G : zG} {k : Int} {X : zX} {σ : zPH} (h : w_M_byteAt G k X σ) : MS G zm_M_byteAt 0 [zr G 58, iZ k] σ X := by
  refine ms_of zk_M_byteAt (Nat.le_of_ble_eq_true rfl) (ls := [some (zr G 58), some (iZ k)]) rfl ?_
  unfold w_M_byteAt at h
  refine PW_iload_n zd_M_byteAt_0 rfl ?_
  obtain ⟨h0, hT, hF⟩ := h
  refine PW_if_lt zd_M_byteAt_1 h0 (fun q => ?_) (fun q => ?_)
  · have h := hT q
    refine PW_iconst zd_M_byteAt_21 ?_
    exact PW_iret zd_M_byteAt_22 rfl h
  · have h := hF q
    refine PW_iload_n zd_M_byteAt_4 rfl ?_
    refine PW_aload_n zd_M_byteAt_5 rfl ?_
    refine PW_getI zd_M_byteAt_6 zf_M_23 (zs_58 _) rfl ?_
    obtain ⟨h0, hT, hF⟩ := h
    refine PW_icmp_ge zd_M_byteAt_9 h0 (fun q => ?_) (fun q => ?_)
    · have h := hT q
      refine PW_iconst zd_M_byteAt_21 ?_
      exact PW_iret zd_M_byteAt_22 rfl h
    · have h := hF q
      refine PW_aload_n zd_M_byteAt_12 rfl ?_
      refine PW_getR zd_M_byteAt_13 zf_M_7 (zs_58 _) rfl ?_
      refine PW_iload_n zd_M_byteAt_16 rfl ?_
      obtain ⟨h0, h⟩ := h
      refine PW_iaload zd_M_byteAt_17 (zs_59 _) h0 ?_
      refine PW_goto zd_M_byteAt_18 ?_
      exact PW_iret zd_M_byteAt_22 rfl h
def w_M_isLetter (G : zG) (c : Int) (X : zX) (σ : zPH) : Prop :=
  (zI c) ∧
  (c < 97 →
    X (some (iZ 0)) σ) ∧
  (97 ≤ c →
    (zI c) ∧
    (122 < c →
      X (some (iZ 0)) σ) ∧
    (c ≤ 122 →
      X (some (iZ 1)) σ))
set_option maxHeartbeats 4000000 in
theorem k_M_isLetter {G : zG} {c : Int} {X : zX} {σ : zPH} (h : w_M_isLetter G c X σ) : MS G zm_M_isLetter 0 [iZ c] σ X := by
  refine ms_of zk_M_isLetter (Nat.le_of_ble_eq_true rfl) (ls := [some (iZ c)]) rfl ?_
  unfold w_M_isLetter at h
  refine PW_iload_n zd_M_isLetter_0 rfl ?_
  refine PW_bipush zd_M_isLetter_1 rfl ?_
  obtain ⟨h0, hT, hF⟩ := h
  refine PW_icmp_lt zd_M_isLetter_3 ⟨h0, by decide⟩ (fun q => ?_) (fun q => ?_)
  · have h := hT q
    refine PW_iconst zd_M_isLetter_16 ?_
    exact PW_zret zd_M_isLetter_17 rfl (by decide) h
  · have h := hF q
    refine PW_iload_n zd_M_isLetter_6 rfl ?_
    refine PW_bipush zd_M_isLetter_7 rfl ?_
    obtain ⟨h0, hT, hF⟩ := h
    refine PW_icmp_gt zd_M_isLetter_9 ⟨h0, by decide⟩ (fun q => ?_) (fun q => ?_)
    · have h := hT q
      refine PW_iconst zd_M_isLetter_16 ?_
      exact PW_zret zd_M_isLetter_17 rfl (by decide) h
    · have h := hF q
      refine PW_iconst zd_M_isLetter_12 ?_
      refine PW_goto zd_M_isLetter_13 ?_
      exact PW_zret zd_M_isLetter_17 rfl (by decide) h
def w_M_isDigit (G : zG) (c : Int) (X : zX) (σ : zPH) : Prop :=
  (zI c) ∧
  (c < 48 →
    X (some (iZ 0)) σ) ∧
  (48 ≤ c →
    (zI c) ∧
    (57 < c →
      X (some (iZ 0)) σ) ∧
    (c ≤ 57 →
      X (some (iZ 1)) σ))
set_option maxHeartbeats 4000000 in
theorem k_M_isDigit {G : zG} {c : Int} {X : zX} {σ : zPH} (h : w_M_isDigit G c X σ) : MS G zm_M_isDigit 0 [iZ c] σ X := by
  refine ms_of zk_M_isDigit (Nat.le_of_ble_eq_true rfl) (ls := [some (iZ c)]) rfl ?_
  unfold w_M_isDigit at h
  refine PW_iload_n zd_M_isDigit_0 rfl ?_
  refine PW_bipush zd_M_isDigit_1 rfl ?_
  obtain ⟨h0, hT, hF⟩ := h
  refine PW_icmp_lt zd_M_isDigit_3 ⟨h0, by decide⟩ (fun q => ?_) (fun q => ?_)
  · have h := hT q
    refine PW_iconst zd_M_isDigit_16 ?_
    exact PW_zret zd_M_isDigit_17 rfl (by decide) h
  · have h := hF q
    refine PW_iload_n zd_M_isDigit_6 rfl ?_
    refine PW_bipush zd_M_isDigit_7 rfl ?_
    obtain ⟨h0, hT, hF⟩ := h
    refine PW_icmp_gt zd_M_isDigit_9 ⟨h0, by decide⟩ (fun q => ?_) (fun q => ?_)
    · have h := hT q
      refine PW_iconst zd_M_isDigit_16 ?_
      exact PW_zret zd_M_isDigit_17 rfl (by decide) h
    · have h := hF q
      refine PW_iconst zd_M_isDigit_12 ?_
      refine PW_goto zd_M_isDigit_13 ?_
      exact PW_zret zd_M_isDigit_17 rfl (by decide) h
def w_M_isOwn (G : zG) (w : Int) (X : zX) (σ : zPH) : Prop :=
  (zJ w) ∧
  (w = 1936292453 →
    X (some (iZ 1)) σ) ∧
  (w ≠ 1936292453 →
    (zJ w) ∧
    (w = 1818324336 →
      X (some (iZ 1)) σ) ∧
    (w ≠ 1818324336 →
      (zJ w) ∧
      (w = 120299659095922 →
        X (some (iZ 1)) σ) ∧
      (w ≠ 120299659095922 →
        (zJ w) ∧
        (w = 1751215206 →
          X (some (iZ 1)) σ) ∧
        (w ≠ 1751215206 →
          (zJ w) ∧
          (w ≠ 444199957363 →
            (zJ w) ∧
            (w = 482955850605 →
              X (some (iZ 1)) σ) ∧
            (w ≠ 482955850605 →
              (zJ w) ∧
              (w = 2002873452 →
                X (some (iZ 1)) σ) ∧
              (w ≠ 2002873452 →
                (zJ w) ∧
                (w = 6650213 →
                  X (some (iZ 1)) σ) ∧
                (w ≠ 6650213 →
                  (zJ w) ∧
                  (w = 32484475995972978 →
                    X (some (iZ 1)) σ) ∧
                  (w ≠ 32484475995972978 →
                    (zJ w) ∧
                    (w ≠ 1986096741 →
                      (zJ w) ∧
                      (w = 24948 →
                        X (some (iZ 1)) σ) ∧
                      (w ≠ 24948 →
                        (zJ w) ∧
                        (w = 2003330414 →
                          X (some (iZ 1)) σ) ∧
                        (w ≠ 2003330414 →
                          (zJ w) ∧
                          (w = 7497060 →
                            X (some (iZ 1)) σ) ∧
                          (w ≠ 7497060 →
                            (zJ w) ∧
                            (w = 444300879214 →
                              X (some (iZ 1)) σ) ∧
                            (w ≠ 444300879214 →
                              (zJ w) ∧
                              (w ≠ 1651275109 →
                                (zJ w) ∧
                                (w = 512852849765 →
                                  X (some (iZ 1)) σ) ∧
                                (w ≠ 512852849765 →
                                  (zJ w) ∧
                                  (w = 30064 →
                                    X (some (iZ 1)) σ) ∧
                                  (w ≠ 30064 →
                                    (zJ w) ∧
                                    (w = 491394656372 →
                                      X (some (iZ 1)) σ) ∧
                                    (w ≠ 491394656372 →
                                      (zJ w) ∧
                                      (w = 1685026670 →
                                        X (some (iZ 1)) σ) ∧
                                      (w ≠ 1685026670 →
                                        (zJ w) ∧
                                        (w ≠ 1818584692 →
                                          (zJ w) ∧
                                          (w = 495739564904 →
                                            X (some (iZ 1)) σ) ∧
                                          (w ≠ 495739564904 →
                                            (zJ w) ∧
                                            (w = 1650549611 →
                                              X (some (iZ 1)) σ) ∧
                                            (w ≠ 1650549611 →
                                              (zJ w) ∧
                                              (w = 28530 →
                                                X (some (iZ 1)) σ) ∧
                                              (w ≠ 28530 →
                                                (zJ w) ∧
                                                (w = 6385252 →
                                                  X (some (iZ 1)) σ) ∧
                                                (w ≠ 6385252 →
                                                  (zJ w) ∧
                                                  (w ≠ 7237492 →
                                                    (zJ w) ∧
                                                    (w = 6384748 →
                                                      X (some (iZ 1)) σ) ∧
                                                    (w ≠ 6384748 →
                                                      (zJ w) ∧
                                                      (w ≠ 1936024947 →
                                                        X (some (iZ 0)) σ) ∧
                                                      (w = 1936024947 →
                                                        X (some (iZ 1)) σ))) ∧
                                                  (w = 7237492 →
                                                    X (some (iZ 1)) σ)))))) ∧
                                        (w = 1818584692 →
                                          X (some (iZ 1)) σ)))))) ∧
                              (w = 1651275109 →
                                X (some (iZ 1)) σ)))))) ∧
                    (w = 1986096741 →
                      X (some (iZ 1)) σ)))))) ∧
          (w = 444199957363 →
            X (some (iZ 1)) σ)))))
set_option maxHeartbeats 4000000 in
theorem k_M_isOwn {G : zG} {w : Int} {X : zX} {σ : zPH} (h : w_M_isOwn G w X σ) : MS G zm_M_isOwn 0 [lZ w] σ X := by
  refine ms_of zk_M_isOwn (Nat.le_of_ble_eq_true rfl) (ls := [some (lZ w), none]) rfl ?_
  unfold w_M_isOwn at h
  refine PW_lload_n zd_M_isOwn_0 rfl ?_
  refine PW_ldc2 zd_M_isOwn_1 zcst_M_238 ?_
  obtain ⟨h0, hT, hF⟩ := h
  refine PW_lcmpeq zd_M_isOwn_4 zd_M_isOwn_5 ⟨h0, by decide⟩ (fun q => ?_) (fun q => ?_)
  · have h := hT q
    refine PW_iconst zd_M_isOwn_40 ?_
    exact PW_zret zd_M_isOwn_41 rfl (by decide) h
  · have h := hF q
    refine PW_lload_n zd_M_isOwn_8 rfl ?_
    refine PW_ldc2 zd_M_isOwn_9 zcst_M_240 ?_
    obtain ⟨h0, hT, hF⟩ := h
    refine PW_lcmpeq zd_M_isOwn_12 zd_M_isOwn_13 ⟨h0, by decide⟩ (fun q => ?_) (fun q => ?_)
    · have h := hT q
      refine PW_iconst zd_M_isOwn_40 ?_
      exact PW_zret zd_M_isOwn_41 rfl (by decide) h
    · have h := hF q
      refine PW_lload_n zd_M_isOwn_16 rfl ?_
      refine PW_ldc2 zd_M_isOwn_17 zcst_M_242 ?_
      obtain ⟨h0, hT, hF⟩ := h
      refine PW_lcmpeq zd_M_isOwn_20 zd_M_isOwn_21 ⟨h0, by decide⟩ (fun q => ?_) (fun q => ?_)
      · have h := hT q
        refine PW_iconst zd_M_isOwn_40 ?_
        exact PW_zret zd_M_isOwn_41 rfl (by decide) h
      · have h := hF q
        refine PW_lload_n zd_M_isOwn_24 rfl ?_
        refine PW_ldc2 zd_M_isOwn_25 zcst_M_244 ?_
        obtain ⟨h0, hT, hF⟩ := h
        refine PW_lcmpeq zd_M_isOwn_28 zd_M_isOwn_29 ⟨h0, by decide⟩ (fun q => ?_) (fun q => ?_)
        · have h := hT q
          refine PW_iconst zd_M_isOwn_40 ?_
          exact PW_zret zd_M_isOwn_41 rfl (by decide) h
        · have h := hF q
          refine PW_lload_n zd_M_isOwn_32 rfl ?_
          refine PW_ldc2 zd_M_isOwn_33 zcst_M_246 ?_
          obtain ⟨h0, hT, hF⟩ := h
          refine PW_lcmpne zd_M_isOwn_36 zd_M_isOwn_37 ⟨h0, by decide⟩ (fun q => ?_) (fun q => ?_)
          · have h := hT q
            refine PW_lload_n zd_M_isOwn_42 rfl ?_
            refine PW_ldc2 zd_M_isOwn_43 zcst_M_248 ?_
            obtain ⟨h0, hT, hF⟩ := h
            refine PW_lcmpeq zd_M_isOwn_46 zd_M_isOwn_47 ⟨h0, by decide⟩ (fun q => ?_) (fun q => ?_)
            · have h := hT q
              refine PW_iconst zd_M_isOwn_82 ?_
              exact PW_zret zd_M_isOwn_83 rfl (by decide) h
            · have h := hF q
              refine PW_lload_n zd_M_isOwn_50 rfl ?_
              refine PW_ldc2 zd_M_isOwn_51 zcst_M_250 ?_
              obtain ⟨h0, hT, hF⟩ := h
              refine PW_lcmpeq zd_M_isOwn_54 zd_M_isOwn_55 ⟨h0, by decide⟩ (fun q => ?_) (fun q => ?_)
              · have h := hT q
                refine PW_iconst zd_M_isOwn_82 ?_
                exact PW_zret zd_M_isOwn_83 rfl (by decide) h
              · have h := hF q
                refine PW_lload_n zd_M_isOwn_58 rfl ?_
                refine PW_ldc2 zd_M_isOwn_59 zcst_M_252 ?_
                obtain ⟨h0, hT, hF⟩ := h
                refine PW_lcmpeq zd_M_isOwn_62 zd_M_isOwn_63 ⟨h0, by decide⟩ (fun q => ?_) (fun q => ?_)
                · have h := hT q
                  refine PW_iconst zd_M_isOwn_82 ?_
                  exact PW_zret zd_M_isOwn_83 rfl (by decide) h
                · have h := hF q
                  refine PW_lload_n zd_M_isOwn_66 rfl ?_
                  refine PW_ldc2 zd_M_isOwn_67 zcst_M_254 ?_
                  obtain ⟨h0, hT, hF⟩ := h
                  refine PW_lcmpeq zd_M_isOwn_70 zd_M_isOwn_71 ⟨h0, by decide⟩ (fun q => ?_) (fun q => ?_)
                  · have h := hT q
                    refine PW_iconst zd_M_isOwn_82 ?_
                    exact PW_zret zd_M_isOwn_83 rfl (by decide) h
                  · have h := hF q
                    refine PW_lload_n zd_M_isOwn_74 rfl ?_
                    refine PW_ldc2 zd_M_isOwn_75 zcst_M_256 ?_
                    obtain ⟨h0, hT, hF⟩ := h
                    refine PW_lcmpne zd_M_isOwn_78 zd_M_isOwn_79 ⟨h0, by decide⟩ (fun q => ?_) (fun q => ?_)
                    · have h := hT q
                      refine PW_lload_n zd_M_isOwn_84 rfl ?_
                      refine PW_ldc2 zd_M_isOwn_85 zcst_M_258 ?_
                      obtain ⟨h0, hT, hF⟩ := h
                      refine PW_lcmpeq zd_M_isOwn_88 zd_M_isOwn_89 ⟨h0, by decide⟩ (fun q => ?_) (fun q => ?_)
                      · have h := hT q
                        refine PW_iconst zd_M_isOwn_124 ?_
                        exact PW_zret zd_M_isOwn_125 rfl (by decide) h
                      · have h := hF q
                        refine PW_lload_n zd_M_isOwn_92 rfl ?_
                        refine PW_ldc2 zd_M_isOwn_93 zcst_M_260 ?_
                        obtain ⟨h0, hT, hF⟩ := h
                        refine PW_lcmpeq zd_M_isOwn_96 zd_M_isOwn_97 ⟨h0, by decide⟩ (fun q => ?_) (fun q => ?_)
                        · have h := hT q
                          refine PW_iconst zd_M_isOwn_124 ?_
                          exact PW_zret zd_M_isOwn_125 rfl (by decide) h
                        · have h := hF q
                          refine PW_lload_n zd_M_isOwn_100 rfl ?_
                          refine PW_ldc2 zd_M_isOwn_101 zcst_M_262 ?_
                          obtain ⟨h0, hT, hF⟩ := h
                          refine PW_lcmpeq zd_M_isOwn_104 zd_M_isOwn_105 ⟨h0, by decide⟩ (fun q => ?_) (fun q => ?_)
                          · have h := hT q
                            refine PW_iconst zd_M_isOwn_124 ?_
                            exact PW_zret zd_M_isOwn_125 rfl (by decide) h
                          · have h := hF q
                            refine PW_lload_n zd_M_isOwn_108 rfl ?_
                            refine PW_ldc2 zd_M_isOwn_109 zcst_M_264 ?_
                            obtain ⟨h0, hT, hF⟩ := h
                            refine PW_lcmpeq zd_M_isOwn_112 zd_M_isOwn_113 ⟨h0, by decide⟩ (fun q => ?_) (fun q => ?_)
                            · have h := hT q
                              refine PW_iconst zd_M_isOwn_124 ?_
                              exact PW_zret zd_M_isOwn_125 rfl (by decide) h
                            · have h := hF q
                              refine PW_lload_n zd_M_isOwn_116 rfl ?_
                              refine PW_ldc2 zd_M_isOwn_117 zcst_M_266 ?_
                              obtain ⟨h0, hT, hF⟩ := h
                              refine PW_lcmpne zd_M_isOwn_120 zd_M_isOwn_121 ⟨h0, by decide⟩ (fun q => ?_) (fun q => ?_)
                              · have h := hT q
                                refine PW_lload_n zd_M_isOwn_126 rfl ?_
                                refine PW_ldc2 zd_M_isOwn_127 zcst_M_268 ?_
                                obtain ⟨h0, hT, hF⟩ := h
                                refine PW_lcmpeq zd_M_isOwn_130 zd_M_isOwn_131 ⟨h0, by decide⟩ (fun q => ?_) (fun q => ?_)
                                · have h := hT q
                                  refine PW_iconst zd_M_isOwn_166 ?_
                                  exact PW_zret zd_M_isOwn_167 rfl (by decide) h
                                · have h := hF q
                                  refine PW_lload_n zd_M_isOwn_134 rfl ?_
                                  refine PW_ldc2 zd_M_isOwn_135 zcst_M_270 ?_
                                  obtain ⟨h0, hT, hF⟩ := h
                                  refine PW_lcmpeq zd_M_isOwn_138 zd_M_isOwn_139 ⟨h0, by decide⟩ (fun q => ?_) (fun q => ?_)
                                  · have h := hT q
                                    refine PW_iconst zd_M_isOwn_166 ?_
                                    exact PW_zret zd_M_isOwn_167 rfl (by decide) h
                                  · have h := hF q
                                    refine PW_lload_n zd_M_isOwn_142 rfl ?_
                                    refine PW_ldc2 zd_M_isOwn_143 zcst_M_272 ?_
                                    obtain ⟨h0, hT, hF⟩ := h
                                    refine PW_lcmpeq zd_M_isOwn_146 zd_M_isOwn_147 ⟨h0, by decide⟩ (fun q => ?_) (fun q => ?_)
                                    · have h := hT q
                                      refine PW_iconst zd_M_isOwn_166 ?_
                                      exact PW_zret zd_M_isOwn_167 rfl (by decide) h
                                    · have h := hF q
                                      refine PW_lload_n zd_M_isOwn_150 rfl ?_
                                      refine PW_ldc2 zd_M_isOwn_151 zcst_M_274 ?_
                                      obtain ⟨h0, hT, hF⟩ := h
                                      refine PW_lcmpeq zd_M_isOwn_154 zd_M_isOwn_155 ⟨h0, by decide⟩ (fun q => ?_) (fun q => ?_)
                                      · have h := hT q
                                        refine PW_iconst zd_M_isOwn_166 ?_
                                        exact PW_zret zd_M_isOwn_167 rfl (by decide) h
                                      · have h := hF q
                                        refine PW_lload_n zd_M_isOwn_158 rfl ?_
                                        refine PW_ldc2 zd_M_isOwn_159 zcst_M_276 ?_
                                        obtain ⟨h0, hT, hF⟩ := h
                                        refine PW_lcmpne zd_M_isOwn_162 zd_M_isOwn_163 ⟨h0, by decide⟩ (fun q => ?_) (fun q => ?_)
                                        · have h := hT q
                                          refine PW_lload_n zd_M_isOwn_168 rfl ?_
                                          refine PW_ldc2 zd_M_isOwn_169 zcst_M_278 ?_
                                          obtain ⟨h0, hT, hF⟩ := h
                                          refine PW_lcmpeq zd_M_isOwn_172 zd_M_isOwn_173 ⟨h0, by decide⟩ (fun q => ?_) (fun q => ?_)
                                          · have h := hT q
                                            refine PW_iconst zd_M_isOwn_208 ?_
                                            exact PW_zret zd_M_isOwn_209 rfl (by decide) h
                                          · have h := hF q
                                            refine PW_lload_n zd_M_isOwn_176 rfl ?_
                                            refine PW_ldc2 zd_M_isOwn_177 zcst_M_280 ?_
                                            obtain ⟨h0, hT, hF⟩ := h
                                            refine PW_lcmpeq zd_M_isOwn_180 zd_M_isOwn_181 ⟨h0, by decide⟩ (fun q => ?_) (fun q => ?_)
                                            · have h := hT q
                                              refine PW_iconst zd_M_isOwn_208 ?_
                                              exact PW_zret zd_M_isOwn_209 rfl (by decide) h
                                            · have h := hF q
                                              refine PW_lload_n zd_M_isOwn_184 rfl ?_
                                              refine PW_ldc2 zd_M_isOwn_185 zcst_M_282 ?_
                                              obtain ⟨h0, hT, hF⟩ := h
                                              refine PW_lcmpeq zd_M_isOwn_188 zd_M_isOwn_189 ⟨h0, by decide⟩ (fun q => ?_) (fun q => ?_)
                                              · have h := hT q
                                                refine PW_iconst zd_M_isOwn_208 ?_
                                                exact PW_zret zd_M_isOwn_209 rfl (by decide) h
                                              · have h := hF q
                                                refine PW_lload_n zd_M_isOwn_192 rfl ?_
                                                refine PW_ldc2 zd_M_isOwn_193 zcst_M_284 ?_
                                                obtain ⟨h0, hT, hF⟩ := h
                                                refine PW_lcmpeq zd_M_isOwn_196 zd_M_isOwn_197 ⟨h0, by decide⟩ (fun q => ?_) (fun q => ?_)
                                                · have h := hT q
                                                  refine PW_iconst zd_M_isOwn_208 ?_
                                                  exact PW_zret zd_M_isOwn_209 rfl (by decide) h
                                                · have h := hF q
                                                  refine PW_lload_n zd_M_isOwn_200 rfl ?_
                                                  refine PW_ldc2 zd_M_isOwn_201 zcst_M_286 ?_
                                                  obtain ⟨h0, hT, hF⟩ := h
                                                  refine PW_lcmpne zd_M_isOwn_204 zd_M_isOwn_205 ⟨h0, by decide⟩ (fun q => ?_) (fun q => ?_)
                                                  · have h := hT q
                                                    refine PW_lload_n zd_M_isOwn_210 rfl ?_
                                                    refine PW_ldc2 zd_M_isOwn_211 zcst_M_288 ?_
                                                    obtain ⟨h0, hT, hF⟩ := h
                                                    refine PW_lcmpeq zd_M_isOwn_214 zd_M_isOwn_215 ⟨h0, by decide⟩ (fun q => ?_) (fun q => ?_)
                                                    · have h := hT q
                                                      refine PW_iconst zd_M_isOwn_226 ?_
                                                      exact PW_zret zd_M_isOwn_227 rfl (by decide) h
                                                    · have h := hF q
                                                      refine PW_lload_n zd_M_isOwn_218 rfl ?_
                                                      refine PW_ldc2 zd_M_isOwn_219 zcst_M_290 ?_
                                                      obtain ⟨h0, hT, hF⟩ := h
                                                      refine PW_lcmpne zd_M_isOwn_222 zd_M_isOwn_223 ⟨h0, by decide⟩ (fun q => ?_) (fun q => ?_)
                                                      · have h := hT q
                                                        refine PW_iconst zd_M_isOwn_228 ?_
                                                        exact PW_zret zd_M_isOwn_229 rfl (by decide) h
                                                      · have h := hF q
                                                        refine PW_iconst zd_M_isOwn_226 ?_
                                                        exact PW_zret zd_M_isOwn_227 rfl (by decide) h
                                                  · have h := hF q
                                                    refine PW_iconst zd_M_isOwn_208 ?_
                                                    exact PW_zret zd_M_isOwn_209 rfl (by decide) h
                                        · have h := hF q
                                          refine PW_iconst zd_M_isOwn_166 ?_
                                          exact PW_zret zd_M_isOwn_167 rfl (by decide) h
                              · have h := hF q
                                refine PW_iconst zd_M_isOwn_124 ?_
                                exact PW_zret zd_M_isOwn_125 rfl (by decide) h
                    · have h := hF q
                      refine PW_iconst zd_M_isOwn_82 ?_
                      exact PW_zret zd_M_isOwn_83 rfl (by decide) h
          · have h := hF q
            refine PW_iconst zd_M_isOwn_40 ?_
            exact PW_zret zd_M_isOwn_41 rfl (by decide) h
def w_M_next (G : zG) (X : zX) (σ : zPH) : Prop :=
  MS G zm_M_looks 1 [zr G 58] σ (fun v σ1 =>
    v = none ∧
    (zI (σ1 58 12)) ∧
    ((σ1 58 12) = (-1) →
      X none σ1) ∧
    ((σ1 58 12) ≠ (-1) →
      MS G zm_M_blame 0 [zr G 58, iZ 1, iZ (σ1 58 12)] σ1 (fun v σ18 =>
        v = none ∧
        X none σ18)))
set_option maxHeartbeats 4000000 in
theorem k_M_next {G : zG} {X : zX} {σ : zPH} (h : w_M_next G  X σ) : MS G zm_M_next 2 [zr G 58] σ X := by
  refine ms_of zk_M_next (Nat.le_of_ble_eq_true rfl) (ls := [some (zr G 58)]) rfl ?_
  unfold w_M_next at h
  refine PW_aload_n zd_M_next_0 rfl ?_
  refine PW_callV0v zd_M_next_1 zl_M_292 zk_M_looks zv_M_looks (fr' := 1) (by decide) (zs_58 _) rfl rfl (Nat.le_of_ble_eq_true rfl) ?_
  refine ms_mono h ?_
  rintro v σ1 ⟨rfl, h⟩
  refine ⟨rfl, ?_⟩
  refine PW_aload_n zd_M_next_4 rfl ?_
  refine PW_getI zd_M_next_5 zf_M_48 (zs_58 _) rfl ?_
  refine PW_iconst zd_M_next_8 ?_
  obtain ⟨h0, hT, hF⟩ := h
  refine PW_icmp_eq zd_M_next_9 ⟨h0, by decide⟩ (fun q => ?_) (fun q => ?_)
  · have h := hT q
    exact PW_vret zd_M_next_21 rfl h
  · have h := hF q
    refine PW_aload_n zd_M_next_12 rfl ?_
    refine PW_iconst zd_M_next_13 ?_
    refine PW_aload_n zd_M_next_14 rfl ?_
    refine PW_getI zd_M_next_15 zf_M_48 (zs_58 _) rfl ?_
    refine PW_callV2v zd_M_next_18 zl_M_295 zk_M_blame zv_M_blame (fr' := 0) (by decide) (zs_58 _) rfl rfl (Nat.le_of_ble_eq_true rfl) ?_
    refine ms_mono h ?_
    rintro v σ1 ⟨rfl, h⟩
    refine ⟨rfl, ?_⟩
    exact PW_vret zd_M_next_21 rfl h
def b_M_looks_74 (G : zG) (X : zX) (K54 : Int → Int → zPH → Prop) (x1 x2 : Int) (σ : zPH) : Prop :=
  K54 (x1 + 1) x2 σ
set_option maxHeartbeats 4000000 in
theorem kb_M_looks_74 {G : zG} {X : zX} {K54 : Int → Int → zPH → Prop} (hK54 : ∀ (y0 y1 : Int) (σ : zPH), K54 y0 y1 σ → PW G zm_M_looks 1 X 54 [some (zr G 58), some (iZ y0), some (iZ y1), none, none] [] σ) {x1 x2 : Int} {σ : zPH} (h : b_M_looks_74 G  X K54 x1 x2 σ) : PW G zm_M_looks 1 X 74 [some (zr G 58), some (iZ x1), some (iZ x2), none, none] [] σ := by
  unfold b_M_looks_74 at h
  refine PW_iinc zd_M_looks_74 rfl rfl (by decide) (ls2 := [_, _, _, _, _]) rfl ?_
  refine PW_goto zd_M_looks_77 ?_
  exact PW_sub (by exact ⟨rfl, rfl, rfl, trivial⟩) (hK54 _ _ _ h)
def b_M_looks_362 (G : zG) (X : zX) (x1 : Int) (σ : zPH) : Prop :=
  (zI (σ 58 7)) ∧
  ((σ 58 7) ≠ 3 →
    ∀ σ378 : zPH, σ378 = zupd σ 58 6 x1 →
    X none σ378) ∧
  ((σ 58 7) = 3 →
    ∀ σ378 : zPH, σ378 = zupd σ 58 6 (x1 + 1) →
    X none σ378)
set_option maxHeartbeats 4000000 in
theorem kb_M_looks_362 {G : zG} {X : zX} {x1 : Int} {σ : zPH} (h : b_M_looks_362 G  X  x1 σ) : PW G zm_M_looks 1 X 362 [some (zr G 58), some (iZ x1), none, none, none] [] σ := by
  unfold b_M_looks_362 at h
  refine PW_aload_n zd_M_looks_362 rfl ?_
  refine PW_aload_n zd_M_looks_363 rfl ?_
  refine PW_getI zd_M_looks_364 zf_M_32 (zs_58 _) rfl ?_
  refine PW_iconst zd_M_looks_367 ?_
  obtain ⟨h0, hT, hF⟩ := h
  refine PW_icmp_ne zd_M_looks_368 ⟨h0, by decide⟩ (fun q => ?_) (fun q => ?_)
  · have h := hT q
    refine PW_iload_n zd_M_looks_377 rfl ?_
    refine PW_putI zd_M_looks_378 zp_M_29 (zs_58 _) rfl ?_
    have h := h _ rfl
    exact PW_vret zd_M_looks_381 rfl h
  · have h := hF q
    refine PW_iload_n zd_M_looks_371 rfl ?_
    refine PW_iconst zd_M_looks_372 ?_
    refine PW_iadd zd_M_looks_373 ?_
    refine PW_goto zd_M_looks_374 ?_
    refine PW_putI zd_M_looks_378 zp_M_29 (zs_58 _) rfl ?_
    have h := h _ rfl
    exact PW_vret zd_M_looks_381 rfl h
def b_M_looks_318 (G : zG) (X : zX) (x1 x4 : Int) (σ : zPH) : Prop :=
  (zI (σ 58 7)) ∧
  ((σ 58 7) ≠ 1 →
    b_M_looks_362 G  X  x1 σ) ∧
  ((σ 58 7) = 1 →
    (zI x4) ∧
    (x4 ≤ 6 →
      b_M_looks_362 G  X  x1 σ) ∧
    (6 < x4 →
      MS G zm_M_isOwn 0 [lZ (σ 58 8)] σ (fun v σ337 =>
        (v = some (iZ 0) ∧
          (zI (σ337 58 12)) ∧
          ((σ337 58 12) ≠ (-1) →
            b_M_looks_362 G  X  x1 σ337) ∧
          ((σ337 58 12) = (-1) →
            ∀ σ359 : zPH, σ359 = zupd σ337 58 12 ((σ337 58 5) + 6) →
            b_M_looks_362 G  X  x1 σ359)) ∨
        (v = some (iZ 1) ∧
          b_M_looks_362 G  X  x1 σ337))))
set_option maxHeartbeats 4000000 in
theorem kb_M_looks_318 {G : zG} {X : zX} {x1 x4 : Int} {σ : zPH} (h : b_M_looks_318 G  X  x1 x4 σ) : PW G zm_M_looks 1 X 318 [some (zr G 58), some (iZ x1), none, none, some (iZ x4)] [] σ := by
  unfold b_M_looks_318 at h
  refine PW_aload_n zd_M_looks_318 rfl ?_
  refine PW_getI zd_M_looks_319 zf_M_32 (zs_58 _) rfl ?_
  refine PW_iconst zd_M_looks_322 ?_
  obtain ⟨h0, hT, hF⟩ := h
  refine PW_icmp_ne zd_M_looks_323 ⟨h0, by decide⟩ (fun q => ?_) (fun q => ?_)
  · have h := hT q
    exact PW_sub (by exact ⟨rfl, rfl, trivial⟩) (kb_M_looks_362   h)
  · have h := hF q
    refine PW_iload zd_M_looks_326 rfl ?_
    refine PW_bipush zd_M_looks_328 rfl ?_
    obtain ⟨h0, hT, hF⟩ := h
    refine PW_icmp_le zd_M_looks_330 ⟨h0, by decide⟩ (fun q => ?_) (fun q => ?_)
    · have h := hT q
      exact PW_sub (by exact ⟨rfl, rfl, trivial⟩) (kb_M_looks_362   h)
    · have h := hF q
      refine PW_aload_n zd_M_looks_333 rfl ?_
      refine PW_getL zd_M_looks_334 zf_M_35 (zs_58 _) rfl ?_
      refine PW_callS1i zd_M_looks_337 zl_M_310 zk_M_isOwn zv_M_isOwn (fr' := 0) (by decide) (Nat.le_of_ble_eq_true rfl) ?_
      refine ms_mono h ?_
      rintro v σ1 (⟨rfl, h⟩ | ⟨rfl, h⟩)
      · refine ⟨0, rfl, ?_⟩
        refine PW_if_ne zd_M_looks_340 (by decide) (fun q => absurd rfl q) (fun _ => ?_)
        refine PW_aload_n zd_M_looks_343 rfl ?_
        refine PW_getI zd_M_looks_344 zf_M_48 (zs_58 _) rfl ?_
        refine PW_iconst zd_M_looks_347 ?_
        obtain ⟨h0, hT, hF⟩ := h
        refine PW_icmp_ne zd_M_looks_348 ⟨h0, by decide⟩ (fun q => ?_) (fun q => ?_)
        · have h := hT q
          exact PW_sub (by exact ⟨rfl, rfl, trivial⟩) (kb_M_looks_362   h)
        · have h := hF q
          refine PW_aload_n zd_M_looks_351 rfl ?_
          refine PW_aload_n zd_M_looks_352 rfl ?_
          refine PW_getI zd_M_looks_353 zf_M_26 (zs_58 _) rfl ?_
          refine PW_bipush zd_M_looks_356 rfl ?_
          refine PW_iadd zd_M_looks_358 ?_
          refine PW_putI zd_M_looks_359 zp_M_48 (zs_58 _) rfl ?_
          have h := h _ rfl
          exact PW_sub (by exact ⟨rfl, rfl, trivial⟩) (kb_M_looks_362   h)
      · refine ⟨1, rfl, ?_⟩
        refine PW_if_ne zd_M_looks_340 (by decide) (fun _ => ?_) (fun q => absurd q (by decide))
        exact PW_sub (by exact ⟨rfl, rfl, trivial⟩) (kb_M_looks_362   h)
def b_M_looks_306 (G : zG) (X : zX) (K173 : Int → Int → zPH → Prop) (x1 x4 s0 : Int) (σ : zPH) : Prop :=
  ∀ σ306 : zPH, σ306 = zupd σ 58 9 s0 →
  K173 (x1 + 1) (x4 + 1) σ306
set_option maxHeartbeats 4000000 in
theorem kb_M_looks_306 {G : zG} {X : zX} {K173 : Int → Int → zPH → Prop} (hK173 : ∀ (y0 y1 : Int) (σ : zPH), K173 y0 y1 σ → PW G zm_M_looks 1 X 173 [some (zr G 58), some (iZ y0), none, none, some (iZ y1)] [] σ) {x1 x4 s0 : Int} {σ : zPH} (h : b_M_looks_306 G  X K173 x1 x4 s0 σ) : PW G zm_M_looks 1 X 306 [some (zr G 58), some (iZ x1), none, none, some (iZ x4)] [iZ s0, zr G 58] σ := by
  unfold b_M_looks_306 at h
  refine PW_putI zd_M_looks_306 zp_M_39 (zs_58 _) rfl ?_
  have h := h _ rfl
  refine PW_iinc zd_M_looks_309 rfl rfl (by decide) (ls2 := [_, _, _, _, _]) rfl ?_
  refine PW_iinc zd_M_looks_312 rfl rfl (by decide) (ls2 := [_, _, _, _, _]) rfl ?_
  refine PW_goto zd_M_looks_315 ?_
  exact PW_sub (by exact ⟨rfl, rfl, rfl, trivial⟩) (hK173 _ _ _ h)
def b_M_looks_277 (G : zG) (X : zX) (K173 : Int → Int → zPH → Prop) (x1 x4 : Int) (σ : zPH) : Prop :=
  (zI (σ 58 7)) ∧
  ((σ 58 7) ≠ 2 →
    b_M_looks_306 G  X K173 x1 x4 0 σ) ∧
  ((σ 58 7) = 2 →
    MS G zm_M_byteAt 0 [zr G 58, iZ x1] σ (fun v σ295 =>
      ∃ z295 : Int, v = some (iZ z295) ∧
      b_M_looks_306 G  X K173 x1 x4 (((10 * (σ 58 9)) + z295) - 48) σ295))
set_option maxHeartbeats 4000000 in
theorem kb_M_looks_277 {G : zG} {X : zX} {K173 : Int → Int → zPH → Prop} (hK173 : ∀ (y0 y1 : Int) (σ : zPH), K173 y0 y1 σ → PW G zm_M_looks 1 X 173 [some (zr G 58), some (iZ y0), none, none, some (iZ y1)] [] σ) {x1 x4 : Int} {σ : zPH} (h : b_M_looks_277 G  X K173 x1 x4 σ) : PW G zm_M_looks 1 X 277 [some (zr G 58), some (iZ x1), none, none, some (iZ x4)] [] σ := by
  unfold b_M_looks_277 at h
  refine PW_aload_n zd_M_looks_277 rfl ?_
  refine PW_aload_n zd_M_looks_278 rfl ?_
  refine PW_getI zd_M_looks_279 zf_M_32 (zs_58 _) rfl ?_
  refine PW_iconst zd_M_looks_282 ?_
  obtain ⟨h0, hT, hF⟩ := h
  refine PW_icmp_ne zd_M_looks_283 ⟨h0, by decide⟩ (fun q => ?_) (fun q => ?_)
  · have h := hT q
    refine PW_iconst zd_M_looks_305 ?_
    exact PW_sub (by exact ⟨rfl, rfl, rfl, trivial⟩) (kb_M_looks_306  hK173 h)
  · have h := hF q
    refine PW_bipush zd_M_looks_286 rfl ?_
    refine PW_aload_n zd_M_looks_288 rfl ?_
    refine PW_getI zd_M_looks_289 zf_M_39 (zs_58 _) rfl ?_
    refine PW_imul zd_M_looks_292 ?_
    refine PW_aload_n zd_M_looks_293 rfl ?_
    refine PW_iload_n zd_M_looks_294 rfl ?_
    refine PW_callV1i zd_M_looks_295 zl_M_299 zk_M_byteAt zv_M_byteAt (fr' := 0) (by decide) (zs_58 _) rfl rfl (Nat.le_of_ble_eq_true rfl) ?_
    refine ms_mono h ?_
    rintro v σ1 ⟨z, rfl, h⟩
    refine ⟨z, rfl, ?_⟩
    refine PW_iadd zd_M_looks_298 ?_
    refine PW_bipush zd_M_looks_299 rfl ?_
    refine PW_isub zd_M_looks_301 ?_
    refine PW_goto zd_M_looks_302 ?_
    exact PW_sub (by exact ⟨rfl, rfl, rfl, trivial⟩) (kb_M_looks_306  hK173 h)
def b_M_looks_244 (G : zG) (X : zX) (K173 : Int → Int → zPH → Prop) (x1 x4 : Int) (σ : zPH) : Prop :=
  (zI (σ 58 7)) ∧
  ((σ 58 7) ≠ 1 →
    b_M_looks_277 G  X K173 x1 x4 σ) ∧
  ((σ 58 7) = 1 →
    (zI x4) ∧
    (8 ≤ x4 →
      b_M_looks_277 G  X K173 x1 x4 σ) ∧
    (x4 < 8 →
      MS G zm_M_byteAt 0 [zr G 58, iZ x1] σ (fun v σ269 =>
        ∃ z269 : Int, v = some (iZ z269) ∧
        zI z269 ∧
        (0 ≤ ((σ 58 8) * 256) ∧ 0 ≤ z269) ∧
        ∀ σ274 : zPH, σ274 = zupd σ269 58 8 (zor ((σ 58 8) * 256) z269) →
        b_M_looks_277 G  X K173 x1 x4 σ274)))
set_option maxHeartbeats 4000000 in
theorem kb_M_looks_244 {G : zG} {X : zX} {K173 : Int → Int → zPH → Prop} (hK173 : ∀ (y0 y1 : Int) (σ : zPH), K173 y0 y1 σ → PW G zm_M_looks 1 X 173 [some (zr G 58), some (iZ y0), none, none, some (iZ y1)] [] σ) {x1 x4 : Int} {σ : zPH} (h : b_M_looks_244 G  X K173 x1 x4 σ) : PW G zm_M_looks 1 X 244 [some (zr G 58), some (iZ x1), none, none, some (iZ x4)] [] σ := by
  unfold b_M_looks_244 at h
  refine PW_aload_n zd_M_looks_244 rfl ?_
  refine PW_getI zd_M_looks_245 zf_M_32 (zs_58 _) rfl ?_
  refine PW_iconst zd_M_looks_248 ?_
  obtain ⟨h0, hT, hF⟩ := h
  refine PW_icmp_ne zd_M_looks_249 ⟨h0, by decide⟩ (fun q => ?_) (fun q => ?_)
  · have h := hT q
    exact PW_sub (by exact ⟨rfl, rfl, rfl, trivial⟩) (kb_M_looks_277  hK173 h)
  · have h := hF q
    refine PW_iload zd_M_looks_252 rfl ?_
    refine PW_bipush zd_M_looks_254 rfl ?_
    obtain ⟨h0, hT, hF⟩ := h
    refine PW_icmp_ge zd_M_looks_256 ⟨h0, by decide⟩ (fun q => ?_) (fun q => ?_)
    · have h := hT q
      exact PW_sub (by exact ⟨rfl, rfl, rfl, trivial⟩) (kb_M_looks_277  hK173 h)
    · have h := hF q
      refine PW_aload_n zd_M_looks_259 rfl ?_
      refine PW_aload_n zd_M_looks_260 rfl ?_
      refine PW_getL zd_M_looks_261 zf_M_35 (zs_58 _) rfl ?_
      refine PW_bipush zd_M_looks_264 rfl ?_
      refine PW_lshl zd_M_looks_266 (by decide) ?_
      refine PW_aload_n zd_M_looks_267 rfl ?_
      refine PW_iload_n zd_M_looks_268 rfl ?_
      refine PW_callV1i zd_M_looks_269 zl_M_299 zk_M_byteAt zv_M_byteAt (fr' := 0) (by decide) (zs_58 _) rfl rfl (Nat.le_of_ble_eq_true rfl) ?_
      refine ms_mono h ?_
      rintro v σ1 ⟨z, rfl, h⟩
      refine ⟨z, rfl, ?_⟩
      obtain ⟨h0, h⟩ := h
      refine PW_i2l zd_M_looks_272 h0 ?_
      obtain ⟨h0, h⟩ := h
      refine PW_lor zd_M_looks_273 h0 ?_
      refine PW_putL zd_M_looks_274 zp_M_35 (zs_58 _) rfl ?_
      have h := h _ rfl
      exact PW_sub (by exact ⟨rfl, rfl, rfl, trivial⟩) (kb_M_looks_277  hK173 h)
def b_M_looks_217 (G : zG) (X : zX) (K173 : Int → Int → zPH → Prop) (x1 x4 : Int) (σ : zPH) : Prop :=
  (zI (σ 58 7)) ∧
  ((σ 58 7) ≠ 2 →
    b_M_looks_244 G  X K173 x1 x4 σ) ∧
  ((σ 58 7) = 2 →
    (zI x4) ∧
    (x4 ≠ 4 →
      b_M_looks_244 G  X K173 x1 x4 σ) ∧
    (x4 = 4 →
      (zI (σ 58 12)) ∧
      ((σ 58 12) ≠ (-1) →
        b_M_looks_244 G  X K173 x1 x4 σ) ∧
      ((σ 58 12) = (-1) →
        ∀ σ241 : zPH, σ241 = zupd σ 58 12 x1 →
        b_M_looks_244 G  X K173 x1 x4 σ241)))
set_option maxHeartbeats 4000000 in
theorem kb_M_looks_217 {G : zG} {X : zX} {K173 : Int → Int → zPH → Prop} (hK173 : ∀ (y0 y1 : Int) (σ : zPH), K173 y0 y1 σ → PW G zm_M_looks 1 X 173 [some (zr G 58), some (iZ y0), none, none, some (iZ y1)] [] σ) {x1 x4 : Int} {σ : zPH} (h : b_M_looks_217 G  X K173 x1 x4 σ) : PW G zm_M_looks 1 X 217 [some (zr G 58), some (iZ x1), none, none, some (iZ x4)] [] σ := by
  unfold b_M_looks_217 at h
  refine PW_aload_n zd_M_looks_217 rfl ?_
  refine PW_getI zd_M_looks_218 zf_M_32 (zs_58 _) rfl ?_
  refine PW_iconst zd_M_looks_221 ?_
  obtain ⟨h0, hT, hF⟩ := h
  refine PW_icmp_ne zd_M_looks_222 ⟨h0, by decide⟩ (fun q => ?_) (fun q => ?_)
  · have h := hT q
    exact PW_sub (by exact ⟨rfl, rfl, rfl, trivial⟩) (kb_M_looks_244  hK173 h)
  · have h := hF q
    refine PW_iload zd_M_looks_225 rfl ?_
    refine PW_iconst zd_M_looks_227 ?_
    obtain ⟨h0, hT, hF⟩ := h
    refine PW_icmp_ne zd_M_looks_228 ⟨h0, by decide⟩ (fun q => ?_) (fun q => ?_)
    · have h := hT q
      exact PW_sub (by exact ⟨rfl, rfl, rfl, trivial⟩) (kb_M_looks_244  hK173 h)
    · have h := hF q
      refine PW_aload_n zd_M_looks_231 rfl ?_
      refine PW_getI zd_M_looks_232 zf_M_48 (zs_58 _) rfl ?_
      refine PW_iconst zd_M_looks_235 ?_
      obtain ⟨h0, hT, hF⟩ := h
      refine PW_icmp_ne zd_M_looks_236 ⟨h0, by decide⟩ (fun q => ?_) (fun q => ?_)
      · have h := hT q
        exact PW_sub (by exact ⟨rfl, rfl, rfl, trivial⟩) (kb_M_looks_244  hK173 h)
      · have h := hF q
        refine PW_aload_n zd_M_looks_239 rfl ?_
        refine PW_iload_n zd_M_looks_240 rfl ?_
        refine PW_putI zd_M_looks_241 zp_M_48 (zs_58 _) rfl ?_
        have h := h _ rfl
        exact PW_sub (by exact ⟨rfl, rfl, rfl, trivial⟩) (kb_M_looks_244  hK173 h)
def b_M_looks_192 (G : zG) (X : zX) (K173 : Int → Int → zPH → Prop) (x1 x4 : Int) (σ : zPH) : Prop :=
  (zI (σ 58 7)) ∧
  ((σ 58 7) ≠ 2 →
    b_M_looks_318 G  X  x1 x4 σ) ∧
  ((σ 58 7) = 2 →
    MS G zm_M_byteAt 0 [zr G 58, iZ x1] σ (fun v σ202 =>
      ∃ z202 : Int, v = some (iZ z202) ∧
      MS G zm_M_isDigit 0 [iZ z202] σ202 (fun v σ205 =>
        (v = some (iZ 0) ∧
          b_M_looks_318 G  X  x1 x4 σ205) ∨
        (v = some (iZ 1) ∧
          (zI x4) ∧
          (5 ≤ x4 →
            b_M_looks_318 G  X  x1 x4 σ205) ∧
          (x4 < 5 →
            b_M_looks_217 G  X K173 x1 x4 σ205)))))
set_option maxHeartbeats 4000000 in
theorem kb_M_looks_192 {G : zG} {X : zX} {K173 : Int → Int → zPH → Prop} (hK173 : ∀ (y0 y1 : Int) (σ : zPH), K173 y0 y1 σ → PW G zm_M_looks 1 X 173 [some (zr G 58), some (iZ y0), none, none, some (iZ y1)] [] σ) {x1 x4 : Int} {σ : zPH} (h : b_M_looks_192 G  X K173 x1 x4 σ) : PW G zm_M_looks 1 X 192 [some (zr G 58), some (iZ x1), none, none, some (iZ x4)] [] σ := by
  unfold b_M_looks_192 at h
  refine PW_aload_n zd_M_looks_192 rfl ?_
  refine PW_getI zd_M_looks_193 zf_M_32 (zs_58 _) rfl ?_
  refine PW_iconst zd_M_looks_196 ?_
  obtain ⟨h0, hT, hF⟩ := h
  refine PW_icmp_ne zd_M_looks_197 ⟨h0, by decide⟩ (fun q => ?_) (fun q => ?_)
  · have h := hT q
    exact PW_sub (by exact ⟨rfl, rfl, rfl, trivial⟩) (kb_M_looks_318   h)
  · have h := hF q
    refine PW_aload_n zd_M_looks_200 rfl ?_
    refine PW_iload_n zd_M_looks_201 rfl ?_
    refine PW_callV1i zd_M_looks_202 zl_M_299 zk_M_byteAt zv_M_byteAt (fr' := 0) (by decide) (zs_58 _) rfl rfl (Nat.le_of_ble_eq_true rfl) ?_
    refine ms_mono h ?_
    rintro v σ1 ⟨z, rfl, h⟩
    refine ⟨z, rfl, ?_⟩
    refine PW_callS1i zd_M_looks_205 zl_M_307 zk_M_isDigit zv_M_isDigit (fr' := 0) (by decide) (Nat.le_of_ble_eq_true rfl) ?_
    refine ms_mono h ?_
    rintro v σ1 (⟨rfl, h⟩ | ⟨rfl, h⟩)
    · refine ⟨0, rfl, ?_⟩
      refine PW_if_eq zd_M_looks_208 (by decide) (fun _ => ?_) (fun q => absurd rfl q)
      exact PW_sub (by exact ⟨rfl, rfl, rfl, trivial⟩) (kb_M_looks_318   h)
    · refine ⟨1, rfl, ?_⟩
      refine PW_if_eq zd_M_looks_208 (by decide) (fun q => absurd q (by decide)) (fun _ => ?_)
      refine PW_iload zd_M_looks_211 rfl ?_
      refine PW_iconst zd_M_looks_213 ?_
      obtain ⟨h0, hT, hF⟩ := h
      refine PW_icmp_ge zd_M_looks_214 ⟨h0, by decide⟩ (fun q => ?_) (fun q => ?_)
      · have h := hT q
        exact PW_sub (by exact ⟨rfl, rfl, rfl, trivial⟩) (kb_M_looks_318   h)
      · have h := hF q
        exact PW_sub (by exact ⟨rfl, rfl, rfl, trivial⟩) (kb_M_looks_217  hK173 h)
def b_M_looks_173 (G : zG) (X : zX) (K173 : Int → Int → zPH → Prop) (x1 x4 : Int) (σ : zPH) : Prop :=
  (zI (σ 58 7)) ∧
  ((σ 58 7) ≠ 1 →
    b_M_looks_192 G  X K173 x1 x4 σ) ∧
  ((σ 58 7) = 1 →
    MS G zm_M_byteAt 0 [zr G 58, iZ x1] σ (fun v σ183 =>
      ∃ z183 : Int, v = some (iZ z183) ∧
      MS G zm_M_isLetter 0 [iZ z183] σ183 (fun v σ186 =>
        (v = some (iZ 0) ∧
          b_M_looks_192 G  X K173 x1 x4 σ186) ∨
        (v = some (iZ 1) ∧
          b_M_looks_217 G  X K173 x1 x4 σ186))))
set_option maxHeartbeats 4000000 in
theorem kb_M_looks_173 {G : zG} {X : zX} {K173 : Int → Int → zPH → Prop} (hK173 : ∀ (y0 y1 : Int) (σ : zPH), K173 y0 y1 σ → PW G zm_M_looks 1 X 173 [some (zr G 58), some (iZ y0), none, none, some (iZ y1)] [] σ) {x1 x4 : Int} {σ : zPH} (h : b_M_looks_173 G  X K173 x1 x4 σ) : PW G zm_M_looks 1 X 173 [some (zr G 58), some (iZ x1), none, none, some (iZ x4)] [] σ := by
  unfold b_M_looks_173 at h
  refine PW_aload_n zd_M_looks_173 rfl ?_
  refine PW_getI zd_M_looks_174 zf_M_32 (zs_58 _) rfl ?_
  refine PW_iconst zd_M_looks_177 ?_
  obtain ⟨h0, hT, hF⟩ := h
  refine PW_icmp_ne zd_M_looks_178 ⟨h0, by decide⟩ (fun q => ?_) (fun q => ?_)
  · have h := hT q
    exact PW_sub (by exact ⟨rfl, rfl, rfl, trivial⟩) (kb_M_looks_192  hK173 h)
  · have h := hF q
    refine PW_aload_n zd_M_looks_181 rfl ?_
    refine PW_iload_n zd_M_looks_182 rfl ?_
    refine PW_callV1i zd_M_looks_183 zl_M_299 zk_M_byteAt zv_M_byteAt (fr' := 0) (by decide) (zs_58 _) rfl rfl (Nat.le_of_ble_eq_true rfl) ?_
    refine ms_mono h ?_
    rintro v σ1 ⟨z, rfl, h⟩
    refine ⟨z, rfl, ?_⟩
    refine PW_callS1i zd_M_looks_186 zl_M_303 zk_M_isLetter zv_M_isLetter (fr' := 0) (by decide) (Nat.le_of_ble_eq_true rfl) ?_
    refine ms_mono h ?_
    rintro v σ1 (⟨rfl, h⟩ | ⟨rfl, h⟩)
    · refine ⟨0, rfl, ?_⟩
      refine PW_if_ne zd_M_looks_189 (by decide) (fun q => absurd rfl q) (fun _ => ?_)
      exact PW_sub (by exact ⟨rfl, rfl, rfl, trivial⟩) (kb_M_looks_192  hK173 h)
    · refine ⟨1, rfl, ?_⟩
      refine PW_if_ne zd_M_looks_189 (by decide) (fun _ => ?_) (fun q => absurd q (by decide))
      exact PW_sub (by exact ⟨rfl, rfl, rfl, trivial⟩) (kb_M_looks_217  hK173 h)
theorem kl_M_looks_173 {G : zG} {X : zX} {x1 x4 : Int} {σ : zPH} (h : zLP2 (b_M_looks_173 G  X ) x1 x4 σ) : PW G zm_M_looks 1 X 173 [some (zr G 58), some (iZ x1), none, none, some (iZ x4)] [] σ := by
  obtain ⟨n, h⟩ := h
  induction n generalizing x1 x4 σ with
  | zero => exact h.elim
  | succ n ih => exact kb_M_looks_173   (fun _ _ _ h => ih h) h
def b_M_looks_170 (G : zG) (X : zX) (x1 : Int) (σ : zPH) : Prop :=
  zLP2 (b_M_looks_173 G  X ) x1 0 σ
set_option maxHeartbeats 4000000 in
theorem kb_M_looks_170 {G : zG} {X : zX} {x1 : Int} {σ : zPH} (h : b_M_looks_170 G  X  x1 σ) : PW G zm_M_looks 1 X 170 [some (zr G 58), some (iZ x1), none, none, none] [] σ := by
  unfold b_M_looks_170 at h
  refine PW_iconst zd_M_looks_170 ?_
  refine PW_istore zd_M_looks_171 rfl (by decide) (ls2 := [_, _, _, _, _]) rfl ?_
  exact PW_sub (by exact ⟨rfl, rfl, rfl, trivial⟩) (kl_M_looks_173   h)
def b_M_looks_153 (G : zG) (X : zX) (x1 x2 : Int) (σ : zPH) : Prop :=
  (zI x2) ∧
  (x2 = 0 →
    b_M_looks_170 G  X  x1 σ) ∧
  (x2 ≠ 0 →
    (zI x1 ∧ zI (σ 58 6)) ∧
    (x1 ≠ (σ 58 6) →
      b_M_looks_170 G  X  x1 σ) ∧
    (x1 = (σ 58 6) →
      ∀ σ167 : zPH, σ167 = zupd σ 58 12 x1 →
      b_M_looks_170 G  X  x1 σ167))
set_option maxHeartbeats 4000000 in
theorem kb_M_looks_153 {G : zG} {X : zX} {x1 x2 : Int} {σ : zPH} (h : b_M_looks_153 G  X  x1 x2 σ) : PW G zm_M_looks 1 X 153 [some (zr G 58), some (iZ x1), some (iZ x2), none, none] [] σ := by
  unfold b_M_looks_153 at h
  refine PW_iload_n zd_M_looks_153 rfl ?_
  obtain ⟨h0, hT, hF⟩ := h
  refine PW_if_eq zd_M_looks_154 h0 (fun q => ?_) (fun q => ?_)
  · have h := hT q
    exact PW_sub (by exact ⟨rfl, rfl, trivial⟩) (kb_M_looks_170   h)
  · have h := hF q
    refine PW_iload_n zd_M_looks_157 rfl ?_
    refine PW_aload_n zd_M_looks_158 rfl ?_
    refine PW_getI zd_M_looks_159 zf_M_29 (zs_58 _) rfl ?_
    obtain ⟨h0, hT, hF⟩ := h
    refine PW_icmp_ne zd_M_looks_162 h0 (fun q => ?_) (fun q => ?_)
    · have h := hT q
      exact PW_sub (by exact ⟨rfl, rfl, trivial⟩) (kb_M_looks_170   h)
    · have h := hF q
      refine PW_aload_n zd_M_looks_165 rfl ?_
      refine PW_iload_n zd_M_looks_166 rfl ?_
      refine PW_putI zd_M_looks_167 zp_M_48 (zs_58 _) rfl ?_
      have h := h _ rfl
      exact PW_sub (by exact ⟨rfl, rfl, trivial⟩) (kb_M_looks_170   h)
def b_M_looks_124 (G : zG) (X : zX) (x1 x2 s0 : Int) (σ : zPH) : Prop :=
  ∀ σ124 : zPH, σ124 = zupd σ 58 7 s0 →
  ∀ σ129 : zPH, σ129 = zupd σ124 58 8 0 →
  ∀ σ134 : zPH, σ134 = zupd σ129 58 9 0 →
  (zI (σ134 58 7)) ∧
  ((σ134 58 7) = 1 →
    b_M_looks_153 G  X  x1 x2 σ134) ∧
  ((σ134 58 7) ≠ 1 →
    (zI (σ134 58 7)) ∧
    ((σ134 58 7) ≠ 2 →
      b_M_looks_170 G  X  x1 σ134) ∧
    ((σ134 58 7) = 2 →
      b_M_looks_153 G  X  x1 x2 σ134))
set_option maxHeartbeats 4000000 in
theorem kb_M_looks_124 {G : zG} {X : zX} {x1 x2 s0 : Int} {σ : zPH} (h : b_M_looks_124 G  X  x1 x2 s0 σ) : PW G zm_M_looks 1 X 124 [some (zr G 58), some (iZ x1), some (iZ x2), none, none] [iZ s0, zr G 58] σ := by
  unfold b_M_looks_124 at h
  refine PW_putI zd_M_looks_124 zp_M_32 (zs_58 _) rfl ?_
  have h := h _ rfl
  refine PW_aload_n zd_M_looks_127 rfl ?_
  refine PW_lconst zd_M_looks_128 ?_
  refine PW_putL zd_M_looks_129 zp_M_35 (zs_58 _) rfl ?_
  have h := h _ rfl
  refine PW_aload_n zd_M_looks_132 rfl ?_
  refine PW_iconst zd_M_looks_133 ?_
  refine PW_putI zd_M_looks_134 zp_M_39 (zs_58 _) rfl ?_
  have h := h _ rfl
  refine PW_aload_n zd_M_looks_137 rfl ?_
  refine PW_getI zd_M_looks_138 zf_M_32 (zs_58 _) rfl ?_
  refine PW_iconst zd_M_looks_141 ?_
  obtain ⟨h0, hT, hF⟩ := h
  refine PW_icmp_eq zd_M_looks_142 ⟨h0, by decide⟩ (fun q => ?_) (fun q => ?_)
  · have h := hT q
    exact PW_sub (by exact ⟨rfl, rfl, rfl, trivial⟩) (kb_M_looks_153   h)
  · have h := hF q
    refine PW_aload_n zd_M_looks_145 rfl ?_
    refine PW_getI zd_M_looks_146 zf_M_32 (zs_58 _) rfl ?_
    refine PW_iconst zd_M_looks_149 ?_
    obtain ⟨h0, hT, hF⟩ := h
    refine PW_icmp_ne zd_M_looks_150 ⟨h0, by decide⟩ (fun q => ?_) (fun q => ?_)
    · have h := hT q
      exact PW_sub (by exact ⟨rfl, rfl, trivial⟩) (kb_M_looks_170   h)
    · have h := hF q
      exact PW_sub (by exact ⟨rfl, rfl, rfl, trivial⟩) (kb_M_looks_153   h)
def b_M_looks_54 (G : zG) (X : zX) (K54 : Int → Int → zPH → Prop) (x1 x2 : Int) (σ : zPH) : Prop :=
  MS G zm_M_byteAt 0 [zr G 58, iZ x1] σ (fun v σ56 =>
    ∃ z56 : Int, v = some (iZ z56) ∧
    (zI z56) ∧
    (z56 = 32 →
      b_M_looks_74 G  X K54 x1 x2 σ56) ∧
    (z56 ≠ 32 →
      MS G zm_M_byteAt 0 [zr G 58, iZ x1] σ56 (fun v σ66 =>
        ∃ z66 : Int, v = some (iZ z66) ∧
        (zI z66) ∧
        (z66 ≠ 10 →
          ∀ σ82 : zPH, σ82 = zupd σ66 58 5 x1 →
          MS G zm_M_byteAt 0 [zr G 58, iZ x1] σ82 (fun v σ87 =>
            ∃ z87 : Int, v = some (iZ z87) ∧
            (zI z87) ∧
            (z87 ≠ (-1) →
              MS G zm_M_isLetter 0 [iZ z87] σ87 (fun v σ102 =>
                (v = some (iZ 0) ∧
                  MS G zm_M_isDigit 0 [iZ z87] σ102 (fun v σ113 =>
                    (v = some (iZ 0) ∧
                      b_M_looks_124 G  X  x1 x2 3 σ113) ∨
                    (v = some (iZ 1) ∧
                      b_M_looks_124 G  X  x1 x2 2 σ113))) ∨
                (v = some (iZ 1) ∧
                  b_M_looks_124 G  X  x1 x2 1 σ102))) ∧
            (z87 = (-1) →
              b_M_looks_124 G  X  x1 x2 0 σ87))) ∧
        (z66 = 10 →
          b_M_looks_74 G  X K54 x1 x2 σ66))))
set_option maxHeartbeats 4000000 in
theorem kb_M_looks_54 {G : zG} {X : zX} {K54 : Int → Int → zPH → Prop} (hK54 : ∀ (y0 y1 : Int) (σ : zPH), K54 y0 y1 σ → PW G zm_M_looks 1 X 54 [some (zr G 58), some (iZ y0), some (iZ y1), none, none] [] σ) {x1 x2 : Int} {σ : zPH} (h : b_M_looks_54 G  X K54 x1 x2 σ) : PW G zm_M_looks 1 X 54 [some (zr G 58), some (iZ x1), some (iZ x2), none, none] [] σ := by
  unfold b_M_looks_54 at h
  refine PW_aload_n zd_M_looks_54 rfl ?_
  refine PW_iload_n zd_M_looks_55 rfl ?_
  refine PW_callV1i zd_M_looks_56 zl_M_299 zk_M_byteAt zv_M_byteAt (fr' := 0) (by decide) (zs_58 _) rfl rfl (Nat.le_of_ble_eq_true rfl) ?_
  refine ms_mono h ?_
  rintro v σ1 ⟨z, rfl, h⟩
  refine ⟨z, rfl, ?_⟩
  refine PW_bipush zd_M_looks_59 rfl ?_
  obtain ⟨h0, hT, hF⟩ := h
  refine PW_icmp_eq zd_M_looks_61 ⟨h0, by decide⟩ (fun q => ?_) (fun q => ?_)
  · have h := hT q
    exact PW_sub (by exact ⟨rfl, rfl, rfl, trivial⟩) (kb_M_looks_74  hK54 h)
  · have h := hF q
    refine PW_aload_n zd_M_looks_64 rfl ?_
    refine PW_iload_n zd_M_looks_65 rfl ?_
    refine PW_callV1i zd_M_looks_66 zl_M_299 zk_M_byteAt zv_M_byteAt (fr' := 0) (by decide) (zs_58 _) rfl rfl (Nat.le_of_ble_eq_true rfl) ?_
    refine ms_mono h ?_
    rintro v σ1 ⟨z, rfl, h⟩
    refine ⟨z, rfl, ?_⟩
    refine PW_bipush zd_M_looks_69 rfl ?_
    obtain ⟨h0, hT, hF⟩ := h
    refine PW_icmp_ne zd_M_looks_71 ⟨h0, by decide⟩ (fun q => ?_) (fun q => ?_)
    · have h := hT q
      refine PW_aload_n zd_M_looks_80 rfl ?_
      refine PW_iload_n zd_M_looks_81 rfl ?_
      refine PW_putI zd_M_looks_82 zp_M_26 (zs_58 _) rfl ?_
      have h := h _ rfl
      refine PW_aload_n zd_M_looks_85 rfl ?_
      refine PW_iload_n zd_M_looks_86 rfl ?_
      refine PW_callV1i zd_M_looks_87 zl_M_299 zk_M_byteAt zv_M_byteAt (fr' := 0) (by decide) (zs_58 _) rfl rfl (Nat.le_of_ble_eq_true rfl) ?_
      refine ms_mono h ?_
      rintro v σ1 ⟨z, rfl, h⟩
      refine ⟨z, rfl, ?_⟩
      refine PW_istore_n zd_M_looks_90 rfl (by decide) (ls2 := [_, _, _, _, _]) rfl ?_
      refine PW_aload_n zd_M_looks_91 rfl ?_
      refine PW_iload_n zd_M_looks_92 rfl ?_
      refine PW_iconst zd_M_looks_93 ?_
      obtain ⟨h0, hT, hF⟩ := h
      refine PW_icmp_ne zd_M_looks_94 ⟨h0, by decide⟩ (fun q => ?_) (fun q => ?_)
      · have h := hT q
        refine PW_iload_n zd_M_looks_101 rfl ?_
        refine PW_callS1i zd_M_looks_102 zl_M_303 zk_M_isLetter zv_M_isLetter (fr' := 0) (by decide) (Nat.le_of_ble_eq_true rfl) ?_
        refine ms_mono h ?_
        rintro v σ1 (⟨rfl, h⟩ | ⟨rfl, h⟩)
        · refine ⟨0, rfl, ?_⟩
          refine PW_if_eq zd_M_looks_105 (by decide) (fun _ => ?_) (fun q => absurd rfl q)
          refine PW_iload_n zd_M_looks_112 rfl ?_
          refine PW_callS1i zd_M_looks_113 zl_M_307 zk_M_isDigit zv_M_isDigit (fr' := 0) (by decide) (Nat.le_of_ble_eq_true rfl) ?_
          refine ms_mono h ?_
          rintro v σ1 (⟨rfl, h⟩ | ⟨rfl, h⟩)
          · refine ⟨0, rfl, ?_⟩
            refine PW_if_eq zd_M_looks_116 (by decide) (fun _ => ?_) (fun q => absurd rfl q)
            refine PW_iconst zd_M_looks_123 ?_
            exact PW_sub (by exact ⟨rfl, rfl, rfl, trivial⟩) (kb_M_looks_124   h)
          · refine ⟨1, rfl, ?_⟩
            refine PW_if_eq zd_M_looks_116 (by decide) (fun q => absurd q (by decide)) (fun _ => ?_)
            refine PW_iconst zd_M_looks_119 ?_
            refine PW_goto zd_M_looks_120 ?_
            exact PW_sub (by exact ⟨rfl, rfl, rfl, trivial⟩) (kb_M_looks_124   h)
        · refine ⟨1, rfl, ?_⟩
          refine PW_if_eq zd_M_looks_105 (by decide) (fun q => absurd q (by decide)) (fun _ => ?_)
          refine PW_iconst zd_M_looks_108 ?_
          refine PW_goto zd_M_looks_109 ?_
          exact PW_sub (by exact ⟨rfl, rfl, rfl, trivial⟩) (kb_M_looks_124   h)
      · have h := hF q
        refine PW_iconst zd_M_looks_97 ?_
        refine PW_goto zd_M_looks_98 ?_
        exact PW_sub (by exact ⟨rfl, rfl, rfl, trivial⟩) (kb_M_looks_124   h)
    · have h := hF q
      exact PW_sub (by exact ⟨rfl, rfl, rfl, trivial⟩) (kb_M_looks_74  hK54 h)
theorem kl_M_looks_54 {G : zG} {X : zX} {x1 x2 : Int} {σ : zPH} (h : zLP2 (b_M_looks_54 G  X ) x1 x2 σ) : PW G zm_M_looks 1 X 54 [some (zr G 58), some (iZ x1), some (iZ x2), none, none] [] σ := by
  obtain ⟨n, h⟩ := h
  induction n generalizing x1 x2 σ with
  | zero => exact h.elim
  | succ n ih => exact kb_M_looks_54   (fun _ _ _ h => ih h) h
def b_M_looks_53 (G : zG) (X : zX) (x1 s0 : Int) (σ : zPH) : Prop :=
  zLP2 (b_M_looks_54 G  X ) x1 s0 σ
set_option maxHeartbeats 4000000 in
theorem kb_M_looks_53 {G : zG} {X : zX} {x1 s0 : Int} {σ : zPH} (h : b_M_looks_53 G  X  x1 s0 σ) : PW G zm_M_looks 1 X 53 [some (zr G 58), some (iZ x1), none, none, none] [iZ s0] σ := by
  unfold b_M_looks_53 at h
  refine PW_istore_n zd_M_looks_53 rfl (by decide) (ls2 := [_, _, _, _, _]) rfl ?_
  exact PW_sub (by exact ⟨rfl, rfl, rfl, trivial⟩) (kl_M_looks_54   h)
def b_M_looks_52 (G : zG) (X : zX) (x1 : Int) (σ : zPH) : Prop :=
  b_M_looks_53 G  X  x1 0 σ
set_option maxHeartbeats 4000000 in
theorem kb_M_looks_52 {G : zG} {X : zX} {x1 : Int} {σ : zPH} (h : b_M_looks_52 G  X  x1 σ) : PW G zm_M_looks 1 X 52 [some (zr G 58), some (iZ x1), none, none, none] [] σ := by
  unfold b_M_looks_52 at h
  refine PW_iconst zd_M_looks_52 ?_
  exact PW_sub (by exact ⟨rfl, rfl, trivial⟩) (kb_M_looks_53   h)
def b_M_looks_48 (G : zG) (X : zX) (x1 : Int) (σ : zPH) : Prop :=
  b_M_looks_53 G  X  x1 1 σ
set_option maxHeartbeats 4000000 in
theorem kb_M_looks_48 {G : zG} {X : zX} {x1 : Int} {σ : zPH} (h : b_M_looks_48 G  X  x1 σ) : PW G zm_M_looks 1 X 48 [some (zr G 58), some (iZ x1), none, none, none] [] σ := by
  unfold b_M_looks_48 at h
  refine PW_iconst zd_M_looks_48 ?_
  refine PW_goto zd_M_looks_49 ?_
  exact PW_sub (by exact ⟨rfl, rfl, trivial⟩) (kb_M_looks_53   h)
def w_M_looks (G : zG) (X : zX) (σ : zPH) : Prop :=
  ∀ σ2 : zPH, σ2 = zupd σ 58 12 (-1) →
  (zI (σ2 58 10)) ∧
  ((σ2 58 10) ≤ 0 →
    ∀ x1 : Int, x1 = (σ2 58 6) →
    (zI x1) ∧
    (x1 ≤ 0 →
      b_M_looks_52 G  X  x1 σ2) ∧
    (0 < x1 →
      MS G zm_M_byteAt 0 [zr G 58, iZ (x1 - 1)] σ2 (fun v σ26 =>
        ∃ z26 : Int, v = some (iZ z26) ∧
        MS G zm_M_isLetter 0 [iZ z26] σ26 (fun v σ29 =>
          (v = some (iZ 0) ∧
            MS G zm_M_byteAt 0 [zr G 58, iZ (x1 - 1)] σ29 (fun v σ39 =>
              ∃ z39 : Int, v = some (iZ z39) ∧
              MS G zm_M_isDigit 0 [iZ z39] σ39 (fun v σ42 =>
                (v = some (iZ 0) ∧
                  b_M_looks_52 G  X  x1 σ42) ∨
                (v = some (iZ 1) ∧
                  b_M_looks_48 G  X  x1 σ42)))) ∨
          (v = some (iZ 1) ∧
            b_M_looks_48 G  X  x1 σ29))))) ∧
  (0 < (σ2 58 10) →
    X none σ2)
set_option maxHeartbeats 4000000 in
theorem k_M_looks {G : zG} {X : zX} {σ : zPH} (h : w_M_looks G  X σ) : MS G zm_M_looks 1 [zr G 58] σ X := by
  refine ms_of zk_M_looks (Nat.le_of_ble_eq_true rfl) (ls := [some (zr G 58), none, none, none, none]) rfl ?_
  unfold w_M_looks at h
  refine PW_aload_n zd_M_looks_0 rfl ?_
  refine PW_iconst zd_M_looks_1 ?_
  refine PW_putI zd_M_looks_2 zp_M_48 (zs_58 _) rfl ?_
  have h := h _ rfl
  refine PW_aload_n zd_M_looks_5 rfl ?_
  refine PW_getI zd_M_looks_6 zf_M_42 (zs_58 _) rfl ?_
  obtain ⟨h0, hT, hF⟩ := h
  refine PW_if_le zd_M_looks_9 h0 (fun q => ?_) (fun q => ?_)
  · have h := hT q
    refine PW_aload_n zd_M_looks_13 rfl ?_
    refine PW_getI zd_M_looks_14 zf_M_29 (zs_58 _) rfl ?_
    refine PW_istore_n zd_M_looks_17 rfl (by decide) (ls2 := [_, _, _, _, _]) rfl ?_
    have h := h _ rfl
    refine PW_iload_n zd_M_looks_18 rfl ?_
    obtain ⟨h0, hT, hF⟩ := h
    refine PW_if_le zd_M_looks_19 h0 (fun q => ?_) (fun q => ?_)
    · have h := hT q
      exact PW_sub (by exact ⟨rfl, rfl, trivial⟩) (kb_M_looks_52   h)
    · have h := hF q
      refine PW_aload_n zd_M_looks_22 rfl ?_
      refine PW_iload_n zd_M_looks_23 rfl ?_
      refine PW_iconst zd_M_looks_24 ?_
      refine PW_isub zd_M_looks_25 ?_
      refine PW_callV1i zd_M_looks_26 zl_M_299 zk_M_byteAt zv_M_byteAt (fr' := 0) (by decide) (zs_58 _) rfl rfl (Nat.le_of_ble_eq_true rfl) ?_
      refine ms_mono h ?_
      rintro v σ1 ⟨z, rfl, h⟩
      refine ⟨z, rfl, ?_⟩
      refine PW_callS1i zd_M_looks_29 zl_M_303 zk_M_isLetter zv_M_isLetter (fr' := 0) (by decide) (Nat.le_of_ble_eq_true rfl) ?_
      refine ms_mono h ?_
      rintro v σ1 (⟨rfl, h⟩ | ⟨rfl, h⟩)
      · refine ⟨0, rfl, ?_⟩
        refine PW_if_ne zd_M_looks_32 (by decide) (fun q => absurd rfl q) (fun _ => ?_)
        refine PW_aload_n zd_M_looks_35 rfl ?_
        refine PW_iload_n zd_M_looks_36 rfl ?_
        refine PW_iconst zd_M_looks_37 ?_
        refine PW_isub zd_M_looks_38 ?_
        refine PW_callV1i zd_M_looks_39 zl_M_299 zk_M_byteAt zv_M_byteAt (fr' := 0) (by decide) (zs_58 _) rfl rfl (Nat.le_of_ble_eq_true rfl) ?_
        refine ms_mono h ?_
        rintro v σ1 ⟨z, rfl, h⟩
        refine ⟨z, rfl, ?_⟩
        refine PW_callS1i zd_M_looks_42 zl_M_307 zk_M_isDigit zv_M_isDigit (fr' := 0) (by decide) (Nat.le_of_ble_eq_true rfl) ?_
        refine ms_mono h ?_
        rintro v σ1 (⟨rfl, h⟩ | ⟨rfl, h⟩)
        · refine ⟨0, rfl, ?_⟩
          refine PW_if_eq zd_M_looks_45 (by decide) (fun _ => ?_) (fun q => absurd rfl q)
          exact PW_sub (by exact ⟨rfl, rfl, trivial⟩) (kb_M_looks_52   h)
        · refine ⟨1, rfl, ?_⟩
          refine PW_if_eq zd_M_looks_45 (by decide) (fun q => absurd q (by decide)) (fun _ => ?_)
          exact PW_sub (by exact ⟨rfl, rfl, trivial⟩) (kb_M_looks_48   h)
      · refine ⟨1, rfl, ?_⟩
        refine PW_if_ne zd_M_looks_32 (by decide) (fun _ => ?_) (fun q => absurd q (by decide))
        exact PW_sub (by exact ⟨rfl, rfl, trivial⟩) (kb_M_looks_48   h)
  · have h := hF q
    exact PW_vret zd_M_looks_12 rfl h
def w_M_isWord (G : zG) (w : Int) (X : zX) (σ : zPH) : Prop :=
  (zI (σ 58 10)) ∧
  ((σ 58 10) ≠ 0 →
    X (some (iZ 0)) σ) ∧
  ((σ 58 10) = 0 →
    (zI (σ 58 7)) ∧
    ((σ 58 7) ≠ 1 →
      X (some (iZ 0)) σ) ∧
    ((σ 58 7) = 1 →
      (zJ (σ 58 8) ∧ zJ w) ∧
      ((σ 58 8) ≠ w →
        X (some (iZ 0)) σ) ∧
      ((σ 58 8) = w →
        X (some (iZ 1)) σ)))
set_option maxHeartbeats 4000000 in
theorem k_M_isWord {G : zG} {w : Int} {X : zX} {σ : zPH} (h : w_M_isWord G w X σ) : MS G zm_M_isWord 0 [zr G 58, lZ w] σ X := by
  refine ms_of zk_M_isWord (Nat.le_of_ble_eq_true rfl) (ls := [some (zr G 58), some (lZ w), none]) rfl ?_
  unfold w_M_isWord at h
  refine PW_aload_n zd_M_isWord_0 rfl ?_
  refine PW_getI zd_M_isWord_1 zf_M_42 (zs_58 _) rfl ?_
  obtain ⟨h0, hT, hF⟩ := h
  refine PW_if_ne zd_M_isWord_4 h0 (fun q => ?_) (fun q => ?_)
  · have h := hT q
    refine PW_iconst zd_M_isWord_28 ?_
    exact PW_zret zd_M_isWord_29 rfl (by decide) h
  · have h := hF q
    refine PW_aload_n zd_M_isWord_7 rfl ?_
    refine PW_getI zd_M_isWord_8 zf_M_32 (zs_58 _) rfl ?_
    refine PW_iconst zd_M_isWord_11 ?_
    obtain ⟨h0, hT, hF⟩ := h
    refine PW_icmp_ne zd_M_isWord_12 ⟨h0, by decide⟩ (fun q => ?_) (fun q => ?_)
    · have h := hT q
      refine PW_iconst zd_M_isWord_28 ?_
      exact PW_zret zd_M_isWord_29 rfl (by decide) h
    · have h := hF q
      refine PW_aload_n zd_M_isWord_15 rfl ?_
      refine PW_getL zd_M_isWord_16 zf_M_35 (zs_58 _) rfl ?_
      refine PW_lload_n zd_M_isWord_19 rfl ?_
      obtain ⟨h0, hT, hF⟩ := h
      refine PW_lcmpne zd_M_isWord_20 zd_M_isWord_21 h0 (fun q => ?_) (fun q => ?_)
      · have h := hT q
        refine PW_iconst zd_M_isWord_28 ?_
        exact PW_zret zd_M_isWord_29 rfl (by decide) h
      · have h := hF q
        refine PW_iconst zd_M_isWord_24 ?_
        refine PW_goto zd_M_isWord_25 ?_
        exact PW_zret zd_M_isWord_29 rfl (by decide) h
def w_M_isSign (G : zG) (c : Int) (X : zX) (σ : zPH) : Prop :=
  (zI (σ 58 10)) ∧
  ((σ 58 10) ≠ 0 →
    X (some (iZ 0)) σ) ∧
  ((σ 58 10) = 0 →
    (zI (σ 58 7)) ∧
    ((σ 58 7) ≠ 3 →
      X (some (iZ 0)) σ) ∧
    ((σ 58 7) = 3 →
      MS G zm_M_byteAt 0 [zr G 58, iZ (σ 58 5)] σ (fun v σ20 =>
        ∃ z20 : Int, v = some (iZ z20) ∧
        (zI z20 ∧ zI c) ∧
        (z20 ≠ c →
          X (some (iZ 0)) σ20) ∧
        (z20 = c →
          X (some (iZ 1)) σ20))))
set_option maxHeartbeats 4000000 in
theorem k_M_isSign {G : zG} {c : Int} {X : zX} {σ : zPH} (h : w_M_isSign G c X σ) : MS G zm_M_isSign 1 [zr G 58, iZ c] σ X := by
  refine ms_of zk_M_isSign (Nat.le_of_ble_eq_true rfl) (ls := [some (zr G 58), some (iZ c)]) rfl ?_
  unfold w_M_isSign at h
  refine PW_aload_n zd_M_isSign_0 rfl ?_
  refine PW_getI zd_M_isSign_1 zf_M_42 (zs_58 _) rfl ?_
  obtain ⟨h0, hT, hF⟩ := h
  refine PW_if_ne zd_M_isSign_4 h0 (fun q => ?_) (fun q => ?_)
  · have h := hT q
    refine PW_iconst zd_M_isSign_31 ?_
    exact PW_zret zd_M_isSign_32 rfl (by decide) h
  · have h := hF q
    refine PW_aload_n zd_M_isSign_7 rfl ?_
    refine PW_getI zd_M_isSign_8 zf_M_32 (zs_58 _) rfl ?_
    refine PW_iconst zd_M_isSign_11 ?_
    obtain ⟨h0, hT, hF⟩ := h
    refine PW_icmp_ne zd_M_isSign_12 ⟨h0, by decide⟩ (fun q => ?_) (fun q => ?_)
    · have h := hT q
      refine PW_iconst zd_M_isSign_31 ?_
      exact PW_zret zd_M_isSign_32 rfl (by decide) h
    · have h := hF q
      refine PW_aload_n zd_M_isSign_15 rfl ?_
      refine PW_aload_n zd_M_isSign_16 rfl ?_
      refine PW_getI zd_M_isSign_17 zf_M_26 (zs_58 _) rfl ?_
      refine PW_callV1i zd_M_isSign_20 zl_M_299 zk_M_byteAt zv_M_byteAt (fr' := 0) (by decide) (zs_58 _) rfl rfl (Nat.le_of_ble_eq_true rfl) ?_
      refine ms_mono h ?_
      rintro v σ1 ⟨z, rfl, h⟩
      refine ⟨z, rfl, ?_⟩
      refine PW_iload_n zd_M_isSign_23 rfl ?_
      obtain ⟨h0, hT, hF⟩ := h
      refine PW_icmp_ne zd_M_isSign_24 h0 (fun q => ?_) (fun q => ?_)
      · have h := hT q
        refine PW_iconst zd_M_isSign_31 ?_
        exact PW_zret zd_M_isSign_32 rfl (by decide) h
      · have h := hF q
        refine PW_iconst zd_M_isSign_27 ?_
        refine PW_goto zd_M_isSign_28 ?_
        exact PW_zret zd_M_isSign_32 rfl (by decide) h
def b_M_mustWord_25 (G : zG) (w : Int) (X : zX) (σ : zPH) : Prop :=
  (zI (σ 58 10)) ∧
  ((σ 58 10) ≠ 0 →
    X none σ) ∧
  ((σ 58 10) = 0 →
    MS G zm_M_next 2 [zr G 58] σ (fun v σ33 =>
      v = none ∧
      X none σ33))
set_option maxHeartbeats 4000000 in
theorem kb_M_mustWord_25 {G : zG} {w : Int} {X : zX} {σ : zPH} (h : b_M_mustWord_25 G w X   σ) : PW G zm_M_mustWord 3 X 25 [some (zr G 58), none, none] [] σ := by
  unfold b_M_mustWord_25 at h
  refine PW_aload_n zd_M_mustWord_25 rfl ?_
  refine PW_getI zd_M_mustWord_26 zf_M_42 (zs_58 _) rfl ?_
  obtain ⟨h0, hT, hF⟩ := h
  refine PW_if_ne zd_M_mustWord_29 h0 (fun q => ?_) (fun q => ?_)
  · have h := hT q
    exact PW_vret zd_M_mustWord_36 rfl h
  · have h := hF q
    refine PW_aload_n zd_M_mustWord_32 rfl ?_
    refine PW_callV0v zd_M_mustWord_33 zl_M_317 zk_M_next zv_M_next (fr' := 2) (by decide) (zs_58 _) rfl rfl (Nat.le_of_ble_eq_true rfl) ?_
    refine ms_mono h ?_
    rintro v σ1 ⟨rfl, h⟩
    refine ⟨rfl, ?_⟩
    exact PW_vret zd_M_mustWord_36 rfl h
def w_M_mustWord (G : zG) (w : Int) (X : zX) (σ : zPH) : Prop :=
  (zI (σ 58 10)) ∧
  ((σ 58 10) ≤ 0 →
    MS G zm_M_isWord 0 [zr G 58, lZ w] σ (fun v σ10 =>
      (v = some (iZ 0) ∧
        MS G zm_M_blame 0 [zr G 58, iZ 1, iZ (σ10 58 5)] σ10 (fun v σ22 =>
          v = none ∧
          b_M_mustWord_25 G w X  σ22)) ∨
      (v = some (iZ 1) ∧
        b_M_mustWord_25 G w X  σ10))) ∧
  (0 < (σ 58 10) →
    X none σ)
set_option maxHeartbeats 4000000 in
theorem k_M_mustWord {G : zG} {w : Int} {X : zX} {σ : zPH} (h : w_M_mustWord G w X σ) : MS G zm_M_mustWord 3 [zr G 58, lZ w] σ X := by
  refine ms_of zk_M_mustWord (Nat.le_of_ble_eq_true rfl) (ls := [some (zr G 58), some (lZ w), none]) rfl ?_
  unfold w_M_mustWord at h
  refine PW_aload_n zd_M_mustWord_0 rfl ?_
  refine PW_getI zd_M_mustWord_1 zf_M_42 (zs_58 _) rfl ?_
  obtain ⟨h0, hT, hF⟩ := h
  refine PW_if_le zd_M_mustWord_4 h0 (fun q => ?_) (fun q => ?_)
  · have h := hT q
    refine PW_aload_n zd_M_mustWord_8 rfl ?_
    refine PW_lload_n zd_M_mustWord_9 rfl ?_
    refine PW_callV1i zd_M_mustWord_10 zl_M_314 zk_M_isWord zv_M_isWord (fr' := 0) (by decide) (zs_58 _) rfl rfl (Nat.le_of_ble_eq_true rfl) ?_
    refine ms_mono h ?_
    rintro v σ1 (⟨rfl, h⟩ | ⟨rfl, h⟩)
    · refine ⟨0, rfl, ?_⟩
      refine PW_if_ne zd_M_mustWord_13 (by decide) (fun q => absurd rfl q) (fun _ => ?_)
      refine PW_aload_n zd_M_mustWord_16 rfl ?_
      refine PW_iconst zd_M_mustWord_17 ?_
      refine PW_aload_n zd_M_mustWord_18 rfl ?_
      refine PW_getI zd_M_mustWord_19 zf_M_26 (zs_58 _) rfl ?_
      refine PW_callV2v zd_M_mustWord_22 zl_M_295 zk_M_blame zv_M_blame (fr' := 0) (by decide) (zs_58 _) rfl rfl (Nat.le_of_ble_eq_true rfl) ?_
      refine ms_mono h ?_
      rintro v σ1 ⟨rfl, h⟩
      refine ⟨rfl, ?_⟩
      exact PW_sub (by exact ⟨rfl, trivial⟩) (kb_M_mustWord_25   h)
    · refine ⟨1, rfl, ?_⟩
      refine PW_if_ne zd_M_mustWord_13 (by decide) (fun _ => ?_) (fun q => absurd q (by decide))
      exact PW_sub (by exact ⟨rfl, trivial⟩) (kb_M_mustWord_25   h)
  · have h := hF q
    exact PW_vret zd_M_mustWord_7 rfl h
def b_M_number_54 (G : zG) (low high : Int) (X : zX) (σ : zPH) : Prop :=
  ∀ x3 : Int, x3 = (σ 58 9) →
  (zI (σ 58 10)) ∧
  ((σ 58 10) ≠ 0 →
    X (some (iZ x3)) σ) ∧
  ((σ 58 10) = 0 →
    MS G zm_M_next 2 [zr G 58] σ (fun v σ67 =>
      v = none ∧
      X (some (iZ x3)) σ67))
set_option maxHeartbeats 4000000 in
theorem kb_M_number_54 {G : zG} {low high : Int} {X : zX} {σ : zPH} (h : b_M_number_54 G low high X   σ) : PW G zm_M_number 3 X 54 [some (zr G 58), none, none, none] [] σ := by
  unfold b_M_number_54 at h
  refine PW_aload_n zd_M_number_54 rfl ?_
  refine PW_getI zd_M_number_55 zf_M_39 (zs_58 _) rfl ?_
  refine PW_istore_n zd_M_number_58 rfl (by decide) (ls2 := [_, _, _, _]) rfl ?_
  have h := h _ rfl
  refine PW_aload_n zd_M_number_59 rfl ?_
  refine PW_getI zd_M_number_60 zf_M_42 (zs_58 _) rfl ?_
  obtain ⟨h0, hT, hF⟩ := h
  refine PW_if_ne zd_M_number_63 h0 (fun q => ?_) (fun q => ?_)
  · have h := hT q
    refine PW_iload_n zd_M_number_70 rfl ?_
    exact PW_iret zd_M_number_71 rfl h
  · have h := hF q
    refine PW_aload_n zd_M_number_66 rfl ?_
    refine PW_callV0v zd_M_number_67 zl_M_317 zk_M_next zv_M_next (fr' := 2) (by decide) (zs_58 _) rfl rfl (Nat.le_of_ble_eq_true rfl) ?_
    refine ms_mono h ?_
    rintro v σ1 ⟨rfl, h⟩
    refine ⟨rfl, ?_⟩
    refine PW_iload_n zd_M_number_70 rfl ?_
    exact PW_iret zd_M_number_71 rfl h
def b_M_number_26 (G : zG) (low high : Int) (X : zX) (σ : zPH) : Prop :=
  (zI (σ 58 10)) ∧
  ((σ 58 10) ≠ 0 →
    b_M_number_54 G low high X  σ) ∧
  ((σ 58 10) = 0 →
    MS G zm_M_is 0 [iZ (σ 58 9), iZ low, iZ high] σ (fun v σ39 =>
      (v = some (iZ 0) ∧
        MS G zm_M_blame 0 [zr G 58, iZ 2, iZ (σ39 58 5)] σ39 (fun v σ51 =>
          v = none ∧
          b_M_number_54 G low high X  σ51)) ∨
      (v = some (iZ 1) ∧
        b_M_number_54 G low high X  σ39)))
set_option maxHeartbeats 4000000 in
theorem kb_M_number_26 {G : zG} {low high : Int} {X : zX} {σ : zPH} (h : b_M_number_26 G low high X   σ) : PW G zm_M_number 3 X 26 [some (zr G 58), some (iZ low), some (iZ high), none] [] σ := by
  unfold b_M_number_26 at h
  refine PW_aload_n zd_M_number_26 rfl ?_
  refine PW_getI zd_M_number_27 zf_M_42 (zs_58 _) rfl ?_
  obtain ⟨h0, hT, hF⟩ := h
  refine PW_if_ne zd_M_number_30 h0 (fun q => ?_) (fun q => ?_)
  · have h := hT q
    exact PW_sub (by exact ⟨rfl, trivial⟩) (kb_M_number_54   h)
  · have h := hF q
    refine PW_aload_n zd_M_number_33 rfl ?_
    refine PW_getI zd_M_number_34 zf_M_39 (zs_58 _) rfl ?_
    refine PW_iload_n zd_M_number_37 rfl ?_
    refine PW_iload_n zd_M_number_38 rfl ?_
    refine PW_callS3i zd_M_number_39 zl_M_320 zk_M_is zv_M_is (fr' := 0) (by decide) (Nat.le_of_ble_eq_true rfl) ?_
    refine ms_mono h ?_
    rintro v σ1 (⟨rfl, h⟩ | ⟨rfl, h⟩)
    · refine ⟨0, rfl, ?_⟩
      refine PW_if_ne zd_M_number_42 (by decide) (fun q => absurd rfl q) (fun _ => ?_)
      refine PW_aload_n zd_M_number_45 rfl ?_
      refine PW_iconst zd_M_number_46 ?_
      refine PW_aload_n zd_M_number_47 rfl ?_
      refine PW_getI zd_M_number_48 zf_M_26 (zs_58 _) rfl ?_
      refine PW_callV2v zd_M_number_51 zl_M_295 zk_M_blame zv_M_blame (fr' := 0) (by decide) (zs_58 _) rfl rfl (Nat.le_of_ble_eq_true rfl) ?_
      refine ms_mono h ?_
      rintro v σ1 ⟨rfl, h⟩
      refine ⟨rfl, ?_⟩
      exact PW_sub (by exact ⟨rfl, trivial⟩) (kb_M_number_54   h)
    · refine ⟨1, rfl, ?_⟩
      refine PW_if_ne zd_M_number_42 (by decide) (fun _ => ?_) (fun q => absurd q (by decide))
      exact PW_sub (by exact ⟨rfl, trivial⟩) (kb_M_number_54   h)
def w_M_number (G : zG) (low high : Int) (X : zX) (σ : zPH) : Prop :=
  (zI (σ 58 10)) ∧
  ((σ 58 10) ≤ 0 →
    (zI (σ 58 7)) ∧
    ((σ 58 7) = 2 →
      b_M_number_26 G low high X  σ) ∧
    ((σ 58 7) ≠ 2 →
      MS G zm_M_blame 0 [zr G 58, iZ 1, iZ (σ 58 5)] σ (fun v σ23 =>
        v = none ∧
        b_M_number_26 G low high X  σ23))) ∧
  (0 < (σ 58 10) →
    X (some (iZ 0)) σ)
set_option maxHeartbeats 4000000 in
theorem k_M_number {G : zG} {low high : Int} {X : zX} {σ : zPH} (h : w_M_number G low high X σ) : MS G zm_M_number 3 [zr G 58, iZ low, iZ high] σ X := by
  refine ms_of zk_M_number (Nat.le_of_ble_eq_true rfl) (ls := [some (zr G 58), some (iZ low), some (iZ high), none]) rfl ?_
  unfold w_M_number at h
  refine PW_aload_n zd_M_number_0 rfl ?_
  refine PW_getI zd_M_number_1 zf_M_42 (zs_58 _) rfl ?_
  obtain ⟨h0, hT, hF⟩ := h
  refine PW_if_le zd_M_number_4 h0 (fun q => ?_) (fun q => ?_)
  · have h := hT q
    refine PW_aload_n zd_M_number_9 rfl ?_
    refine PW_getI zd_M_number_10 zf_M_32 (zs_58 _) rfl ?_
    refine PW_iconst zd_M_number_13 ?_
    obtain ⟨h0, hT, hF⟩ := h
    refine PW_icmp_eq zd_M_number_14 ⟨h0, by decide⟩ (fun q => ?_) (fun q => ?_)
    · have h := hT q
      exact PW_sub (by exact ⟨rfl, rfl, rfl, trivial⟩) (kb_M_number_26   h)
    · have h := hF q
      refine PW_aload_n zd_M_number_17 rfl ?_
      refine PW_iconst zd_M_number_18 ?_
      refine PW_aload_n zd_M_number_19 rfl ?_
      refine PW_getI zd_M_number_20 zf_M_26 (zs_58 _) rfl ?_
      refine PW_callV2v zd_M_number_23 zl_M_295 zk_M_blame zv_M_blame (fr' := 0) (by decide) (zs_58 _) rfl rfl (Nat.le_of_ble_eq_true rfl) ?_
      refine ms_mono h ?_
      rintro v σ1 ⟨rfl, h⟩
      refine ⟨rfl, ?_⟩
      exact PW_sub (by exact ⟨rfl, rfl, rfl, trivial⟩) (kb_M_number_26   h)
  · have h := hF q
    refine PW_iconst zd_M_number_7 ?_
    exact PW_iret zd_M_number_8 rfl h
def b_M_eyeOf_2 (G : zG) (w : Int) (X : zX) (K2 : Int → zPH → Prop) (x3 : Int) (σ : zPH) : Prop :=
  (0 ≤ (σ 58 35) ∧ (σ 58 35) < 2) ∧
  (zI x3 ∧ zI (σ 66 (σ 58 35).toNat)) ∧
  ((σ 66 (σ 58 35).toNat) ≤ x3 →
    X (some (iZ (-1))) σ) ∧
  (x3 < (σ 66 (σ 58 35).toNat) →
    (0 ≤ ((8 * (σ 58 35)) + x3) ∧ ((8 * (σ 58 35)) + x3) < 16) ∧
    (zJ (σ 71 ((8 * (σ 58 35)) + x3).toNat) ∧ zJ w) ∧
    ((σ 71 ((8 * (σ 58 35)) + x3).toNat) ≠ w →
      K2 (x3 + 1) σ) ∧
    ((σ 71 ((8 * (σ 58 35)) + x3).toNat) = w →
      X (some (iZ x3)) σ))
set_option maxHeartbeats 4000000 in
theorem kb_M_eyeOf_2 {G : zG} {w : Int} {X : zX} {K2 : Int → zPH → Prop} (hK2 : ∀ (y0 : Int) (σ : zPH), K2 y0 σ → PW G zm_M_eyeOf 0 X 2 [some (zr G 58), some (lZ w), none, some (iZ y0)] [] σ) {x3 : Int} {σ : zPH} (h : b_M_eyeOf_2 G w X K2 x3 σ) : PW G zm_M_eyeOf 0 X 2 [some (zr G 58), some (lZ w), none, some (iZ x3)] [] σ := by
  unfold b_M_eyeOf_2 at h
  refine PW_iload_n zd_M_eyeOf_2 rfl ?_
  refine PW_aload_n zd_M_eyeOf_3 rfl ?_
  refine PW_getR zd_M_eyeOf_4 zf_M_72 (zs_58 _) rfl ?_
  refine PW_aload_n zd_M_eyeOf_7 rfl ?_
  refine PW_getI zd_M_eyeOf_8 zf_M_118 (zs_58 _) rfl ?_
  obtain ⟨h0, h⟩ := h
  refine PW_iaload zd_M_eyeOf_11 (zs_66 _) h0 ?_
  obtain ⟨h0, hT, hF⟩ := h
  refine PW_icmp_ge zd_M_eyeOf_12 h0 (fun q => ?_) (fun q => ?_)
  · have h := hT q
    refine PW_iconst zd_M_eyeOf_42 ?_
    exact PW_iret zd_M_eyeOf_43 rfl h
  · have h := hF q
    refine PW_aload_n zd_M_eyeOf_15 rfl ?_
    refine PW_getR zd_M_eyeOf_16 zf_M_87 (zs_58 _) rfl ?_
    refine PW_bipush zd_M_eyeOf_19 rfl ?_
    refine PW_aload_n zd_M_eyeOf_21 rfl ?_
    refine PW_getI zd_M_eyeOf_22 zf_M_118 (zs_58 _) rfl ?_
    refine PW_imul zd_M_eyeOf_25 ?_
    refine PW_iload_n zd_M_eyeOf_26 rfl ?_
    refine PW_iadd zd_M_eyeOf_27 ?_
    obtain ⟨h0, h⟩ := h
    refine PW_laload zd_M_eyeOf_28 (zs_71 _) h0 ?_
    refine PW_lload_n zd_M_eyeOf_29 rfl ?_
    obtain ⟨h0, hT, hF⟩ := h
    refine PW_lcmpne zd_M_eyeOf_30 zd_M_eyeOf_31 h0 (fun q => ?_) (fun q => ?_)
    · have h := hT q
      refine PW_iinc zd_M_eyeOf_36 rfl rfl (by decide) (ls2 := [_, _, _, _]) rfl ?_
      refine PW_goto zd_M_eyeOf_39 ?_
      exact PW_sub (by exact ⟨rfl, rfl, rfl, trivial⟩) (hK2 _ _ h)
    · have h := hF q
      refine PW_iload_n zd_M_eyeOf_34 rfl ?_
      exact PW_iret zd_M_eyeOf_35 rfl h
theorem kl_M_eyeOf_2 {G : zG} {w : Int} {X : zX} {x3 : Int} {σ : zPH} (h : zLP1 (b_M_eyeOf_2 G w X ) x3 σ) : PW G zm_M_eyeOf 0 X 2 [some (zr G 58), some (lZ w), none, some (iZ x3)] [] σ := by
  obtain ⟨n, h⟩ := h
  induction n generalizing x3 σ with
  | zero => exact h.elim
  | succ n ih => exact kb_M_eyeOf_2   (fun _ _ h => ih h) h
def w_M_eyeOf (G : zG) (w : Int) (X : zX) (σ : zPH) : Prop :=
  zLP1 (b_M_eyeOf_2 G w X ) 0 σ
set_option maxHeartbeats 4000000 in
theorem k_M_eyeOf {G : zG} {w : Int} {X : zX} {σ : zPH} (h : w_M_eyeOf G w X σ) : MS G zm_M_eyeOf 0 [zr G 58, lZ w] σ X := by
  refine ms_of zk_M_eyeOf (Nat.le_of_ble_eq_true rfl) (ls := [some (zr G 58), some (lZ w), none, none]) rfl ?_
  unfold w_M_eyeOf at h
  refine PW_iconst zd_M_eyeOf_0 ?_
  refine PW_istore_n zd_M_eyeOf_1 rfl (by decide) (ls2 := [_, _, _, _]) rfl ?_
  exact PW_sub (by exact ⟨rfl, rfl, rfl, trivial⟩) (kl_M_eyeOf_2   h)
def b_M_colour_72 (G : zG) (X : zX) (x1 : Int) (σ : zPH) : Prop :=
  (zI (σ 58 10)) ∧
  ((σ 58 10) ≠ 0 →
    X (some (iZ x1)) σ) ∧
  ((σ 58 10) = 0 →
    MS G zm_M_next 2 [zr G 58] σ (fun v σ80 =>
      v = none ∧
      X (some (iZ x1)) σ80))
set_option maxHeartbeats 4000000 in
theorem kb_M_colour_72 {G : zG} {X : zX} {x1 : Int} {σ : zPH} (h : b_M_colour_72 G  X  x1 σ) : PW G zm_M_colour 3 X 72 [some (zr G 58), some (iZ x1)] [] σ := by
  unfold b_M_colour_72 at h
  refine PW_aload_n zd_M_colour_72 rfl ?_
  refine PW_getI zd_M_colour_73 zf_M_42 (zs_58 _) rfl ?_
  obtain ⟨h0, hT, hF⟩ := h
  refine PW_if_ne zd_M_colour_76 h0 (fun q => ?_) (fun q => ?_)
  · have h := hT q
    refine PW_iload_n zd_M_colour_83 rfl ?_
    exact PW_iret zd_M_colour_84 rfl h
  · have h := hF q
    refine PW_aload_n zd_M_colour_79 rfl ?_
    refine PW_callV0v zd_M_colour_80 zl_M_317 zk_M_next zv_M_next (fr' := 2) (by decide) (zs_58 _) rfl rfl (Nat.le_of_ble_eq_true rfl) ?_
    refine ms_mono h ?_
    rintro v σ1 ⟨rfl, h⟩
    refine ⟨rfl, ?_⟩
    refine PW_iload_n zd_M_colour_83 rfl ?_
    exact PW_iret zd_M_colour_84 rfl h
def b_M_colour_58 (G : zG) (X : zX) (s0 : Int) (σ : zPH) : Prop :=
  (zI s0) ∧
  (s0 ≠ 0 →
    b_M_colour_72 G  X  s0 σ) ∧
  (s0 = 0 →
    MS G zm_M_blame 0 [zr G 58, iZ 1, iZ (σ 58 5)] σ (fun v σ69 =>
      v = none ∧
      b_M_colour_72 G  X  s0 σ69))
set_option maxHeartbeats 4000000 in
theorem kb_M_colour_58 {G : zG} {X : zX} {s0 : Int} {σ : zPH} (h : b_M_colour_58 G  X  s0 σ) : PW G zm_M_colour 3 X 58 [some (zr G 58), none] [iZ s0] σ := by
  unfold b_M_colour_58 at h
  refine PW_istore_n zd_M_colour_58 rfl (by decide) (ls2 := [_, _]) rfl ?_
  refine PW_iload_n zd_M_colour_59 rfl ?_
  obtain ⟨h0, hT, hF⟩ := h
  refine PW_if_ne zd_M_colour_60 h0 (fun q => ?_) (fun q => ?_)
  · have h := hT q
    exact PW_sub (by exact ⟨rfl, rfl, trivial⟩) (kb_M_colour_72   h)
  · have h := hF q
    refine PW_aload_n zd_M_colour_63 rfl ?_
    refine PW_iconst zd_M_colour_64 ?_
    refine PW_aload_n zd_M_colour_65 rfl ?_
    refine PW_getI zd_M_colour_66 zf_M_26 (zs_58 _) rfl ?_
    refine PW_callV2v zd_M_colour_69 zl_M_295 zk_M_blame zv_M_blame (fr' := 0) (by decide) (zs_58 _) rfl rfl (Nat.le_of_ble_eq_true rfl) ?_
    refine ms_mono h ?_
    rintro v σ1 ⟨rfl, h⟩
    refine ⟨rfl, ?_⟩
    exact PW_sub (by exact ⟨rfl, rfl, trivial⟩) (kb_M_colour_72   h)
def w_M_colour (G : zG) (X : zX) (σ : zPH) : Prop :=
  MS G zm_M_isWord 0 [zr G 58, lZ 7497060] σ (fun v σ4 =>
    (v = some (iZ 0) ∧
      MS G zm_M_isWord 0 [zr G 58, lZ 444300879214] σ4 (fun v σ18 =>
        (v = some (iZ 0) ∧
          MS G zm_M_isWord 0 [zr G 58, lZ 1651275109] σ18 (fun v σ32 =>
            (v = some (iZ 0) ∧
              MS G zm_M_isWord 0 [zr G 58, lZ 512852849765] σ32 (fun v σ46 =>
                (v = some (iZ 0) ∧
                  b_M_colour_58 G  X  0 σ46) ∨
                (v = some (iZ 1) ∧
                  b_M_colour_58 G  X  7 σ46))) ∨
            (v = some (iZ 1) ∧
              b_M_colour_58 G  X  4 σ32))) ∨
        (v = some (iZ 1) ∧
          b_M_colour_58 G  X  2 σ18))) ∨
    (v = some (iZ 1) ∧
      b_M_colour_58 G  X  1 σ4))
set_option maxHeartbeats 4000000 in
theorem k_M_colour {G : zG} {X : zX} {σ : zPH} (h : w_M_colour G  X σ) : MS G zm_M_colour 3 [zr G 58] σ X := by
  refine ms_of zk_M_colour (Nat.le_of_ble_eq_true rfl) (ls := [some (zr G 58), none]) rfl ?_
  unfold w_M_colour at h
  refine PW_aload_n zd_M_colour_0 rfl ?_
  refine PW_ldc2 zd_M_colour_1 zcst_M_262 ?_
  refine PW_callV1i zd_M_colour_4 zl_M_314 zk_M_isWord zv_M_isWord (fr' := 0) (by decide) (zs_58 _) rfl rfl (Nat.le_of_ble_eq_true rfl) ?_
  refine ms_mono h ?_
  rintro v σ1 (⟨rfl, h⟩ | ⟨rfl, h⟩)
  · refine ⟨0, rfl, ?_⟩
    refine PW_if_eq zd_M_colour_7 (by decide) (fun _ => ?_) (fun q => absurd rfl q)
    refine PW_aload_n zd_M_colour_14 rfl ?_
    refine PW_ldc2 zd_M_colour_15 zcst_M_264 ?_
    refine PW_callV1i zd_M_colour_18 zl_M_314 zk_M_isWord zv_M_isWord (fr' := 0) (by decide) (zs_58 _) rfl rfl (Nat.le_of_ble_eq_true rfl) ?_
    refine ms_mono h ?_
    rintro v σ1 (⟨rfl, h⟩ | ⟨rfl, h⟩)
    · refine ⟨0, rfl, ?_⟩
      refine PW_if_eq zd_M_colour_21 (by decide) (fun _ => ?_) (fun q => absurd rfl q)
      refine PW_aload_n zd_M_colour_28 rfl ?_
      refine PW_ldc2 zd_M_colour_29 zcst_M_266 ?_
      refine PW_callV1i zd_M_colour_32 zl_M_314 zk_M_isWord zv_M_isWord (fr' := 0) (by decide) (zs_58 _) rfl rfl (Nat.le_of_ble_eq_true rfl) ?_
      refine ms_mono h ?_
      rintro v σ1 (⟨rfl, h⟩ | ⟨rfl, h⟩)
      · refine ⟨0, rfl, ?_⟩
        refine PW_if_eq zd_M_colour_35 (by decide) (fun _ => ?_) (fun q => absurd rfl q)
        refine PW_aload_n zd_M_colour_42 rfl ?_
        refine PW_ldc2 zd_M_colour_43 zcst_M_268 ?_
        refine PW_callV1i zd_M_colour_46 zl_M_314 zk_M_isWord zv_M_isWord (fr' := 0) (by decide) (zs_58 _) rfl rfl (Nat.le_of_ble_eq_true rfl) ?_
        refine ms_mono h ?_
        rintro v σ1 (⟨rfl, h⟩ | ⟨rfl, h⟩)
        · refine ⟨0, rfl, ?_⟩
          refine PW_if_eq zd_M_colour_49 (by decide) (fun _ => ?_) (fun q => absurd rfl q)
          refine PW_iconst zd_M_colour_57 ?_
          exact PW_sub (by exact ⟨rfl, trivial⟩) (kb_M_colour_58   h)
        · refine ⟨1, rfl, ?_⟩
          refine PW_if_eq zd_M_colour_49 (by decide) (fun q => absurd q (by decide)) (fun _ => ?_)
          refine PW_bipush zd_M_colour_52 rfl ?_
          refine PW_goto zd_M_colour_54 ?_
          exact PW_sub (by exact ⟨rfl, trivial⟩) (kb_M_colour_58   h)
      · refine ⟨1, rfl, ?_⟩
        refine PW_if_eq zd_M_colour_35 (by decide) (fun q => absurd q (by decide)) (fun _ => ?_)
        refine PW_iconst zd_M_colour_38 ?_
        refine PW_goto zd_M_colour_39 ?_
        exact PW_sub (by exact ⟨rfl, trivial⟩) (kb_M_colour_58   h)
    · refine ⟨1, rfl, ?_⟩
      refine PW_if_eq zd_M_colour_21 (by decide) (fun q => absurd q (by decide)) (fun _ => ?_)
      refine PW_iconst zd_M_colour_24 ?_
      refine PW_goto zd_M_colour_25 ?_
      exact PW_sub (by exact ⟨rfl, trivial⟩) (kb_M_colour_58   h)
  · refine ⟨1, rfl, ?_⟩
    refine PW_if_eq zd_M_colour_7 (by decide) (fun q => absurd q (by decide)) (fun _ => ?_)
    refine PW_iconst zd_M_colour_10 ?_
    refine PW_goto zd_M_colour_11 ?_
    exact PW_sub (by exact ⟨rfl, trivial⟩) (kb_M_colour_58   h)
def b_M_ways_72 (G : zG) (X : zX) (x1 : Int) (σ : zPH) : Prop :=
  (zI (σ 58 10)) ∧
  ((σ 58 10) ≠ 0 →
    X (some (iZ x1)) σ) ∧
  ((σ 58 10) = 0 →
    MS G zm_M_next 2 [zr G 58] σ (fun v σ80 =>
      v = none ∧
      X (some (iZ x1)) σ80))
set_option maxHeartbeats 4000000 in
theorem kb_M_ways_72 {G : zG} {X : zX} {x1 : Int} {σ : zPH} (h : b_M_ways_72 G  X  x1 σ) : PW G zm_M_ways 3 X 72 [some (zr G 58), some (iZ x1)] [] σ := by
  unfold b_M_ways_72 at h
  refine PW_aload_n zd_M_ways_72 rfl ?_
  refine PW_getI zd_M_ways_73 zf_M_42 (zs_58 _) rfl ?_
  obtain ⟨h0, hT, hF⟩ := h
  refine PW_if_ne zd_M_ways_76 h0 (fun q => ?_) (fun q => ?_)
  · have h := hT q
    refine PW_iload_n zd_M_ways_83 rfl ?_
    exact PW_iret zd_M_ways_84 rfl h
  · have h := hF q
    refine PW_aload_n zd_M_ways_79 rfl ?_
    refine PW_callV0v zd_M_ways_80 zl_M_317 zk_M_next zv_M_next (fr' := 2) (by decide) (zs_58 _) rfl rfl (Nat.le_of_ble_eq_true rfl) ?_
    refine ms_mono h ?_
    rintro v σ1 ⟨rfl, h⟩
    refine ⟨rfl, ?_⟩
    refine PW_iload_n zd_M_ways_83 rfl ?_
    exact PW_iret zd_M_ways_84 rfl h
def b_M_ways_57 (G : zG) (X : zX) (s0 : Int) (σ : zPH) : Prop :=
  (zI s0) ∧
  (s0 ≠ (-1) →
    b_M_ways_72 G  X  s0 σ) ∧
  (s0 = (-1) →
    MS G zm_M_blame 0 [zr G 58, iZ 1, iZ (σ 58 5)] σ (fun v σ69 =>
      v = none ∧
      b_M_ways_72 G  X  s0 σ69))
set_option maxHeartbeats 4000000 in
theorem kb_M_ways_57 {G : zG} {X : zX} {s0 : Int} {σ : zPH} (h : b_M_ways_57 G  X  s0 σ) : PW G zm_M_ways 3 X 57 [some (zr G 58), none] [iZ s0] σ := by
  unfold b_M_ways_57 at h
  refine PW_istore_n zd_M_ways_57 rfl (by decide) (ls2 := [_, _]) rfl ?_
  refine PW_iload_n zd_M_ways_58 rfl ?_
  refine PW_iconst zd_M_ways_59 ?_
  obtain ⟨h0, hT, hF⟩ := h
  refine PW_icmp_ne zd_M_ways_60 ⟨h0, by decide⟩ (fun q => ?_) (fun q => ?_)
  · have h := hT q
    exact PW_sub (by exact ⟨rfl, rfl, trivial⟩) (kb_M_ways_72   h)
  · have h := hF q
    refine PW_aload_n zd_M_ways_63 rfl ?_
    refine PW_iconst zd_M_ways_64 ?_
    refine PW_aload_n zd_M_ways_65 rfl ?_
    refine PW_getI zd_M_ways_66 zf_M_26 (zs_58 _) rfl ?_
    refine PW_callV2v zd_M_ways_69 zl_M_295 zk_M_blame zv_M_blame (fr' := 0) (by decide) (zs_58 _) rfl rfl (Nat.le_of_ble_eq_true rfl) ?_
    refine ms_mono h ?_
    rintro v σ1 ⟨rfl, h⟩
    refine ⟨rfl, ?_⟩
    exact PW_sub (by exact ⟨rfl, rfl, trivial⟩) (kb_M_ways_72   h)
def w_M_ways (G : zG) (X : zX) (σ : zPH) : Prop :=
  MS G zm_M_isWord 0 [zr G 58, lZ 30064] σ (fun v σ4 =>
    (v = some (iZ 0) ∧
      MS G zm_M_isWord 0 [zr G 58, lZ 491394656372] σ4 (fun v σ18 =>
        (v = some (iZ 0) ∧
          MS G zm_M_isWord 0 [zr G 58, lZ 1685026670] σ18 (fun v σ32 =>
            (v = some (iZ 0) ∧
              MS G zm_M_isWord 0 [zr G 58, lZ 1818584692] σ32 (fun v σ46 =>
                (v = some (iZ 0) ∧
                  b_M_ways_57 G  X  (-1) σ46) ∨
                (v = some (iZ 1) ∧
                  b_M_ways_57 G  X  3 σ46))) ∨
            (v = some (iZ 1) ∧
              b_M_ways_57 G  X  2 σ32))) ∨
        (v = some (iZ 1) ∧
          b_M_ways_57 G  X  1 σ18))) ∨
    (v = some (iZ 1) ∧
      b_M_ways_57 G  X  0 σ4))
set_option maxHeartbeats 4000000 in
theorem k_M_ways {G : zG} {X : zX} {σ : zPH} (h : w_M_ways G  X σ) : MS G zm_M_ways 3 [zr G 58] σ X := by
  refine ms_of zk_M_ways (Nat.le_of_ble_eq_true rfl) (ls := [some (zr G 58), none]) rfl ?_
  unfold w_M_ways at h
  refine PW_aload_n zd_M_ways_0 rfl ?_
  refine PW_ldc2 zd_M_ways_1 zcst_M_270 ?_
  refine PW_callV1i zd_M_ways_4 zl_M_314 zk_M_isWord zv_M_isWord (fr' := 0) (by decide) (zs_58 _) rfl rfl (Nat.le_of_ble_eq_true rfl) ?_
  refine ms_mono h ?_
  rintro v σ1 (⟨rfl, h⟩ | ⟨rfl, h⟩)
  · refine ⟨0, rfl, ?_⟩
    refine PW_if_eq zd_M_ways_7 (by decide) (fun _ => ?_) (fun q => absurd rfl q)
    refine PW_aload_n zd_M_ways_14 rfl ?_
    refine PW_ldc2 zd_M_ways_15 zcst_M_272 ?_
    refine PW_callV1i zd_M_ways_18 zl_M_314 zk_M_isWord zv_M_isWord (fr' := 0) (by decide) (zs_58 _) rfl rfl (Nat.le_of_ble_eq_true rfl) ?_
    refine ms_mono h ?_
    rintro v σ1 (⟨rfl, h⟩ | ⟨rfl, h⟩)
    · refine ⟨0, rfl, ?_⟩
      refine PW_if_eq zd_M_ways_21 (by decide) (fun _ => ?_) (fun q => absurd rfl q)
      refine PW_aload_n zd_M_ways_28 rfl ?_
      refine PW_ldc2 zd_M_ways_29 zcst_M_274 ?_
      refine PW_callV1i zd_M_ways_32 zl_M_314 zk_M_isWord zv_M_isWord (fr' := 0) (by decide) (zs_58 _) rfl rfl (Nat.le_of_ble_eq_true rfl) ?_
      refine ms_mono h ?_
      rintro v σ1 (⟨rfl, h⟩ | ⟨rfl, h⟩)
      · refine ⟨0, rfl, ?_⟩
        refine PW_if_eq zd_M_ways_35 (by decide) (fun _ => ?_) (fun q => absurd rfl q)
        refine PW_aload_n zd_M_ways_42 rfl ?_
        refine PW_ldc2 zd_M_ways_43 zcst_M_276 ?_
        refine PW_callV1i zd_M_ways_46 zl_M_314 zk_M_isWord zv_M_isWord (fr' := 0) (by decide) (zs_58 _) rfl rfl (Nat.le_of_ble_eq_true rfl) ?_
        refine ms_mono h ?_
        rintro v σ1 (⟨rfl, h⟩ | ⟨rfl, h⟩)
        · refine ⟨0, rfl, ?_⟩
          refine PW_if_eq zd_M_ways_49 (by decide) (fun _ => ?_) (fun q => absurd rfl q)
          refine PW_iconst zd_M_ways_56 ?_
          exact PW_sub (by exact ⟨rfl, trivial⟩) (kb_M_ways_57   h)
        · refine ⟨1, rfl, ?_⟩
          refine PW_if_eq zd_M_ways_49 (by decide) (fun q => absurd q (by decide)) (fun _ => ?_)
          refine PW_iconst zd_M_ways_52 ?_
          refine PW_goto zd_M_ways_53 ?_
          exact PW_sub (by exact ⟨rfl, trivial⟩) (kb_M_ways_57   h)
      · refine ⟨1, rfl, ?_⟩
        refine PW_if_eq zd_M_ways_35 (by decide) (fun q => absurd q (by decide)) (fun _ => ?_)
        refine PW_iconst zd_M_ways_38 ?_
        refine PW_goto zd_M_ways_39 ?_
        exact PW_sub (by exact ⟨rfl, trivial⟩) (kb_M_ways_57   h)
    · refine ⟨1, rfl, ?_⟩
      refine PW_if_eq zd_M_ways_21 (by decide) (fun q => absurd q (by decide)) (fun _ => ?_)
      refine PW_iconst zd_M_ways_24 ?_
      refine PW_goto zd_M_ways_25 ?_
      exact PW_sub (by exact ⟨rfl, trivial⟩) (kb_M_ways_57   h)
  · refine ⟨1, rfl, ?_⟩
    refine PW_if_eq zd_M_ways_7 (by decide) (fun q => absurd q (by decide)) (fun _ => ?_)
    refine PW_iconst zd_M_ways_10 ?_
    refine PW_goto zd_M_ways_11 ?_
    exact PW_sub (by exact ⟨rfl, trivial⟩) (kb_M_ways_57   h)
def b_M_forms_44 (G : zG) (X : zX) (x1 : Int) (σ : zPH) : Prop :=
  (zI (σ 58 10)) ∧
  ((σ 58 10) ≠ 0 →
    X (some (iZ x1)) σ) ∧
  ((σ 58 10) = 0 →
    MS G zm_M_next 2 [zr G 58] σ (fun v σ52 =>
      v = none ∧
      X (some (iZ x1)) σ52))
set_option maxHeartbeats 4000000 in
theorem kb_M_forms_44 {G : zG} {X : zX} {x1 : Int} {σ : zPH} (h : b_M_forms_44 G  X  x1 σ) : PW G zm_M_forms 3 X 44 [some (zr G 58), some (iZ x1)] [] σ := by
  unfold b_M_forms_44 at h
  refine PW_aload_n zd_M_forms_44 rfl ?_
  refine PW_getI zd_M_forms_45 zf_M_42 (zs_58 _) rfl ?_
  obtain ⟨h0, hT, hF⟩ := h
  refine PW_if_ne zd_M_forms_48 h0 (fun q => ?_) (fun q => ?_)
  · have h := hT q
    refine PW_iload_n zd_M_forms_55 rfl ?_
    exact PW_iret zd_M_forms_56 rfl h
  · have h := hF q
    refine PW_aload_n zd_M_forms_51 rfl ?_
    refine PW_callV0v zd_M_forms_52 zl_M_317 zk_M_next zv_M_next (fr' := 2) (by decide) (zs_58 _) rfl rfl (Nat.le_of_ble_eq_true rfl) ?_
    refine ms_mono h ?_
    rintro v σ1 ⟨rfl, h⟩
    refine ⟨rfl, ?_⟩
    refine PW_iload_n zd_M_forms_55 rfl ?_
    exact PW_iret zd_M_forms_56 rfl h
def b_M_forms_29 (G : zG) (X : zX) (s0 : Int) (σ : zPH) : Prop :=
  (zI s0) ∧
  (s0 ≠ (-1) →
    b_M_forms_44 G  X  s0 σ) ∧
  (s0 = (-1) →
    MS G zm_M_blame 0 [zr G 58, iZ 1, iZ (σ 58 5)] σ (fun v σ41 =>
      v = none ∧
      b_M_forms_44 G  X  s0 σ41))
set_option maxHeartbeats 4000000 in
theorem kb_M_forms_29 {G : zG} {X : zX} {s0 : Int} {σ : zPH} (h : b_M_forms_29 G  X  s0 σ) : PW G zm_M_forms 3 X 29 [some (zr G 58), none] [iZ s0] σ := by
  unfold b_M_forms_29 at h
  refine PW_istore_n zd_M_forms_29 rfl (by decide) (ls2 := [_, _]) rfl ?_
  refine PW_iload_n zd_M_forms_30 rfl ?_
  refine PW_iconst zd_M_forms_31 ?_
  obtain ⟨h0, hT, hF⟩ := h
  refine PW_icmp_ne zd_M_forms_32 ⟨h0, by decide⟩ (fun q => ?_) (fun q => ?_)
  · have h := hT q
    exact PW_sub (by exact ⟨rfl, rfl, trivial⟩) (kb_M_forms_44   h)
  · have h := hF q
    refine PW_aload_n zd_M_forms_35 rfl ?_
    refine PW_iconst zd_M_forms_36 ?_
    refine PW_aload_n zd_M_forms_37 rfl ?_
    refine PW_getI zd_M_forms_38 zf_M_26 (zs_58 _) rfl ?_
    refine PW_callV2v zd_M_forms_41 zl_M_295 zk_M_blame zv_M_blame (fr' := 0) (by decide) (zs_58 _) rfl rfl (Nat.le_of_ble_eq_true rfl) ?_
    refine ms_mono h ?_
    rintro v σ1 ⟨rfl, h⟩
    refine ⟨rfl, ?_⟩
    exact PW_sub (by exact ⟨rfl, rfl, trivial⟩) (kb_M_forms_44   h)
def w_M_forms (G : zG) (X : zX) (σ : zPH) : Prop :=
  MS G zm_M_isWord 0 [zr G 58, lZ 495739564904] σ (fun v σ4 =>
    (v = some (iZ 0) ∧
      MS G zm_M_isWord 0 [zr G 58, lZ 1650549611] σ4 (fun v σ18 =>
        (v = some (iZ 0) ∧
          b_M_forms_29 G  X  (-1) σ18) ∨
        (v = some (iZ 1) ∧
          b_M_forms_29 G  X  1 σ18))) ∨
    (v = some (iZ 1) ∧
      b_M_forms_29 G  X  0 σ4))
set_option maxHeartbeats 4000000 in
theorem k_M_forms {G : zG} {X : zX} {σ : zPH} (h : w_M_forms G  X σ) : MS G zm_M_forms 3 [zr G 58] σ X := by
  refine ms_of zk_M_forms (Nat.le_of_ble_eq_true rfl) (ls := [some (zr G 58), none]) rfl ?_
  unfold w_M_forms at h
  refine PW_aload_n zd_M_forms_0 rfl ?_
  refine PW_ldc2 zd_M_forms_1 zcst_M_278 ?_
  refine PW_callV1i zd_M_forms_4 zl_M_314 zk_M_isWord zv_M_isWord (fr' := 0) (by decide) (zs_58 _) rfl rfl (Nat.le_of_ble_eq_true rfl) ?_
  refine ms_mono h ?_
  rintro v σ1 (⟨rfl, h⟩ | ⟨rfl, h⟩)
  · refine ⟨0, rfl, ?_⟩
    refine PW_if_eq zd_M_forms_7 (by decide) (fun _ => ?_) (fun q => absurd rfl q)
    refine PW_aload_n zd_M_forms_14 rfl ?_
    refine PW_ldc2 zd_M_forms_15 zcst_M_280 ?_
    refine PW_callV1i zd_M_forms_18 zl_M_314 zk_M_isWord zv_M_isWord (fr' := 0) (by decide) (zs_58 _) rfl rfl (Nat.le_of_ble_eq_true rfl) ?_
    refine ms_mono h ?_
    rintro v σ1 (⟨rfl, h⟩ | ⟨rfl, h⟩)
    · refine ⟨0, rfl, ?_⟩
      refine PW_if_eq zd_M_forms_21 (by decide) (fun _ => ?_) (fun q => absurd rfl q)
      refine PW_iconst zd_M_forms_28 ?_
      exact PW_sub (by exact ⟨rfl, trivial⟩) (kb_M_forms_29   h)
    · refine ⟨1, rfl, ?_⟩
      refine PW_if_eq zd_M_forms_21 (by decide) (fun q => absurd q (by decide)) (fun _ => ?_)
      refine PW_iconst zd_M_forms_24 ?_
      refine PW_goto zd_M_forms_25 ?_
      exact PW_sub (by exact ⟨rfl, trivial⟩) (kb_M_forms_29   h)
  · refine ⟨1, rfl, ?_⟩
    refine PW_if_eq zd_M_forms_7 (by decide) (fun q => absurd q (by decide)) (fun _ => ?_)
    refine PW_iconst zd_M_forms_10 ?_
    refine PW_goto zd_M_forms_11 ?_
    exact PW_sub (by exact ⟨rfl, trivial⟩) (kb_M_forms_29   h)
def w_M_add (G : zG) (s colour : Int) (X : zX) (σ : zPH) : Prop :=
  (0 ≤ ((1600 * (σ 58 35)) + (σ 58 34)) ∧ ((1600 * (σ 58 35)) + (σ 58 34)) < 3200) ∧
  ∀ σ18 : zPH, σ18 = zupd σ 75 ((1600 * (σ 58 35)) + (σ 58 34)).toNat s →
  (0 ≤ ((1600 * (σ18 58 35)) + (σ18 58 34)) ∧ ((1600 * (σ18 58 35)) + (σ18 58 34)) < 3200) ∧
  ∀ σ37 : zPH, σ37 = zupd σ18 76 ((1600 * (σ18 58 35)) + (σ18 58 34)).toNat colour →
  (0 ≤ ((1600 * (σ37 58 35)) + (σ37 58 34)) ∧ ((1600 * (σ37 58 35)) + (σ37 58 34)) < 3200) ∧
  ∀ σ56 : zPH, σ56 = zupd σ37 77 ((1600 * (σ37 58 35)) + (σ37 58 34)).toNat (-1) →
  ∀ σ64 : zPH, σ64 = zupd σ56 58 34 ((σ56 58 34) + 1) →
  X none σ64
set_option maxHeartbeats 4000000 in
theorem k_M_add {G : zG} {s colour : Int} {X : zX} {σ : zPH} (h : w_M_add G s colour X σ) : MS G zm_M_add 0 [zr G 58, iZ s, iZ colour] σ X := by
  refine ms_of zk_M_add (Nat.le_of_ble_eq_true rfl) (ls := [some (zr G 58), some (iZ s), some (iZ colour)]) rfl ?_
  unfold w_M_add at h
  refine PW_aload_n zd_M_add_0 rfl ?_
  refine PW_getR zd_M_add_1 zf_M_100 (zs_58 _) rfl ?_
  refine PW_sipush zd_M_add_4 rfl ?_
  refine PW_aload_n zd_M_add_7 rfl ?_
  refine PW_getI zd_M_add_8 zf_M_118 (zs_58 _) rfl ?_
  refine PW_imul zd_M_add_11 ?_
  refine PW_aload_n zd_M_add_12 rfl ?_
  refine PW_getI zd_M_add_13 zf_M_115 (zs_58 _) rfl ?_
  refine PW_iadd zd_M_add_16 ?_
  refine PW_iload_n zd_M_add_17 rfl ?_
  obtain ⟨h0, h⟩ := h
  refine PW_iastore zd_M_add_18 (zs_75 _) h0 ?_
  have h := h _ rfl
  refine PW_aload_n zd_M_add_19 rfl ?_
  refine PW_getR zd_M_add_20 zf_M_103 (zs_58 _) rfl ?_
  refine PW_sipush zd_M_add_23 rfl ?_
  refine PW_aload_n zd_M_add_26 rfl ?_
  refine PW_getI zd_M_add_27 zf_M_118 (zs_58 _) rfl ?_
  refine PW_imul zd_M_add_30 ?_
  refine PW_aload_n zd_M_add_31 rfl ?_
  refine PW_getI zd_M_add_32 zf_M_115 (zs_58 _) rfl ?_
  refine PW_iadd zd_M_add_35 ?_
  refine PW_iload_n zd_M_add_36 rfl ?_
  obtain ⟨h0, h⟩ := h
  refine PW_iastore zd_M_add_37 (zs_76 _) h0 ?_
  have h := h _ rfl
  refine PW_aload_n zd_M_add_38 rfl ?_
  refine PW_getR zd_M_add_39 zf_M_106 (zs_58 _) rfl ?_
  refine PW_sipush zd_M_add_42 rfl ?_
  refine PW_aload_n zd_M_add_45 rfl ?_
  refine PW_getI zd_M_add_46 zf_M_118 (zs_58 _) rfl ?_
  refine PW_imul zd_M_add_49 ?_
  refine PW_aload_n zd_M_add_50 rfl ?_
  refine PW_getI zd_M_add_51 zf_M_115 (zs_58 _) rfl ?_
  refine PW_iadd zd_M_add_54 ?_
  refine PW_iconst zd_M_add_55 ?_
  obtain ⟨h0, h⟩ := h
  refine PW_iastore zd_M_add_56 (zs_77 _) h0 ?_
  have h := h _ rfl
  refine PW_aload_n zd_M_add_57 rfl ?_
  refine PW_dup zd_M_add_58 rfl ?_
  refine PW_getI zd_M_add_59 zf_M_115 (zs_58 _) rfl ?_
  refine PW_iconst zd_M_add_62 ?_
  refine PW_iadd zd_M_add_63 ?_
  refine PW_putI zd_M_add_64 zp_M_115 (zs_58 _) rfl ?_
  have h := h _ rfl
  exact PW_vret zd_M_add_67 rfl h
def w_M_pushes (G : zG) (k : Int) (X : zX) (σ : zPH) : Prop :=
  (0 ≤ (σ 58 39) ∧ (σ 58 39) < 12) ∧
  ∀ σ9 : zPH, σ9 = zupd σ 80 (σ 58 39).toNat k →
  (0 ≤ (σ9 58 39) ∧ (σ9 58 39) < 12) ∧
  ∀ σ19 : zPH, σ19 = zupd σ9 81 (σ9 58 39).toNat 0 →
  (0 ≤ (σ19 58 39) ∧ (σ19 58 39) < 12) ∧
  ∀ σ29 : zPH, σ29 = zupd σ19 82 (σ19 58 39).toNat 0 →
  ∀ σ37 : zPH, σ37 = zupd σ29 58 39 ((σ29 58 39) + 1) →
  X none σ37
set_option maxHeartbeats 4000000 in
theorem k_M_pushes {G : zG} {k : Int} {X : zX} {σ : zPH} (h : w_M_pushes G k X σ) : MS G zm_M_pushes 0 [zr G 58, iZ k] σ X := by
  refine ms_of zk_M_pushes (Nat.le_of_ble_eq_true rfl) (ls := [some (zr G 58), some (iZ k)]) rfl ?_
  unfold w_M_pushes at h
  refine PW_aload_n zd_M_pushes_0 rfl ?_
  refine PW_getR zd_M_pushes_1 zf_M_121 (zs_58 _) rfl ?_
  refine PW_aload_n zd_M_pushes_4 rfl ?_
  refine PW_getI zd_M_pushes_5 zf_M_131 (zs_58 _) rfl ?_
  refine PW_iload_n zd_M_pushes_8 rfl ?_
  obtain ⟨h0, h⟩ := h
  refine PW_iastore zd_M_pushes_9 (zs_80 _) h0 ?_
  have h := h _ rfl
  refine PW_aload_n zd_M_pushes_10 rfl ?_
  refine PW_getR zd_M_pushes_11 zf_M_124 (zs_58 _) rfl ?_
  refine PW_aload_n zd_M_pushes_14 rfl ?_
  refine PW_getI zd_M_pushes_15 zf_M_131 (zs_58 _) rfl ?_
  refine PW_iconst zd_M_pushes_18 ?_
  obtain ⟨h0, h⟩ := h
  refine PW_bastore zd_M_pushes_19 (zs_81 _) h0 (by decide) ?_
  have h := h _ rfl
  refine PW_aload_n zd_M_pushes_20 rfl ?_
  refine PW_getR zd_M_pushes_21 zf_M_128 (zs_58 _) rfl ?_
  refine PW_aload_n zd_M_pushes_24 rfl ?_
  refine PW_getI zd_M_pushes_25 zf_M_131 (zs_58 _) rfl ?_
  refine PW_iconst zd_M_pushes_28 ?_
  obtain ⟨h0, h⟩ := h
  refine PW_bastore zd_M_pushes_29 (zs_82 _) h0 (by decide) ?_
  have h := h _ rfl
  refine PW_aload_n zd_M_pushes_30 rfl ?_
  refine PW_dup zd_M_pushes_31 rfl ?_
  refine PW_getI zd_M_pushes_32 zf_M_131 (zs_58 _) rfl ?_
  refine PW_iconst zd_M_pushes_35 ?_
  refine PW_iadd zd_M_pushes_36 ?_
  refine PW_putI zd_M_pushes_37 zp_M_131 (zs_58 _) rfl ?_
  have h := h _ rfl
  exact PW_vret zd_M_pushes_40 rfl h
def b_M_opens_18 (G : zG) (k : Int) (X : zX) (σ : zPH) : Prop :=
  (zI (σ 58 10)) ∧
  ((σ 58 10) ≤ 0 →
    ∀ σ33 : zPH, σ33 = zupd σ 58 40 ((σ 58 40) + 1) →
    MS G zm_M_pushes 0 [zr G 58, iZ k] σ33 (fun v σ38 =>
      v = none ∧
      MS G zm_M_next 2 [zr G 58] σ38 (fun v σ42 =>
        v = none ∧
        X none σ42))) ∧
  (0 < (σ 58 10) →
    X none σ)
set_option maxHeartbeats 4000000 in
theorem kb_M_opens_18 {G : zG} {k : Int} {X : zX} {σ : zPH} (h : b_M_opens_18 G k X   σ) : PW G zm_M_opens 3 X 18 [some (zr G 58), some (iZ k)] [] σ := by
  unfold b_M_opens_18 at h
  refine PW_aload_n zd_M_opens_18 rfl ?_
  refine PW_getI zd_M_opens_19 zf_M_42 (zs_58 _) rfl ?_
  obtain ⟨h0, hT, hF⟩ := h
  refine PW_if_le zd_M_opens_22 h0 (fun q => ?_) (fun q => ?_)
  · have h := hT q
    refine PW_aload_n zd_M_opens_26 rfl ?_
    refine PW_dup zd_M_opens_27 rfl ?_
    refine PW_getI zd_M_opens_28 zf_M_134 (zs_58 _) rfl ?_
    refine PW_iconst zd_M_opens_31 ?_
    refine PW_iadd zd_M_opens_32 ?_
    refine PW_putI zd_M_opens_33 zp_M_134 (zs_58 _) rfl ?_
    have h := h _ rfl
    refine PW_aload_n zd_M_opens_36 rfl ?_
    refine PW_iload_n zd_M_opens_37 rfl ?_
    refine PW_callV1v zd_M_opens_38 zl_M_324 zk_M_pushes zv_M_pushes (fr' := 0) (by decide) (zs_58 _) rfl rfl (Nat.le_of_ble_eq_true rfl) ?_
    refine ms_mono h ?_
    rintro v σ1 ⟨rfl, h⟩
    refine ⟨rfl, ?_⟩
    refine PW_aload_n zd_M_opens_41 rfl ?_
    refine PW_callV0v zd_M_opens_42 zl_M_317 zk_M_next zv_M_next (fr' := 2) (by decide) (zs_58 _) rfl rfl (Nat.le_of_ble_eq_true rfl) ?_
    refine ms_mono h ?_
    rintro v σ1 ⟨rfl, h⟩
    refine ⟨rfl, ?_⟩
    exact PW_vret zd_M_opens_45 rfl h
  · have h := hF q
    exact PW_vret zd_M_opens_25 rfl h
def w_M_opens (G : zG) (k : Int) (X : zX) (σ : zPH) : Prop :=
  (zI (σ 58 40)) ∧
  ((σ 58 40) ≠ 6 →
    b_M_opens_18 G k X  σ) ∧
  ((σ 58 40) = 6 →
    MS G zm_M_blame 0 [zr G 58, iZ 4, iZ (σ 58 5)] σ (fun v σ15 =>
      v = none ∧
      b_M_opens_18 G k X  σ15))
set_option maxHeartbeats 4000000 in
theorem k_M_opens {G : zG} {k : Int} {X : zX} {σ : zPH} (h : w_M_opens G k X σ) : MS G zm_M_opens 3 [zr G 58, iZ k] σ X := by
  refine ms_of zk_M_opens (Nat.le_of_ble_eq_true rfl) (ls := [some (zr G 58), some (iZ k)]) rfl ?_
  unfold w_M_opens at h
  refine PW_aload_n zd_M_opens_0 rfl ?_
  refine PW_getI zd_M_opens_1 zf_M_134 (zs_58 _) rfl ?_
  refine PW_bipush zd_M_opens_4 rfl ?_
  obtain ⟨h0, hT, hF⟩ := h
  refine PW_icmp_ne zd_M_opens_6 ⟨h0, by decide⟩ (fun q => ?_) (fun q => ?_)
  · have h := hT q
    exact PW_sub (by exact ⟨rfl, rfl, trivial⟩) (kb_M_opens_18   h)
  · have h := hF q
    refine PW_aload_n zd_M_opens_9 rfl ?_
    refine PW_iconst zd_M_opens_10 ?_
    refine PW_aload_n zd_M_opens_11 rfl ?_
    refine PW_getI zd_M_opens_12 zf_M_26 (zs_58 _) rfl ?_
    refine PW_callV2v zd_M_opens_15 zl_M_295 zk_M_blame zv_M_blame (fr' := 0) (by decide) (zs_58 _) rfl rfl (Nat.le_of_ble_eq_true rfl) ?_
    refine ms_mono h ?_
    rintro v σ1 ⟨rfl, h⟩
    refine ⟨rfl, ?_⟩
    exact PW_sub (by exact ⟨rfl, rfl, trivial⟩) (kb_M_opens_18   h)
def b_M_fact_98 (G : zG) (X : zX) (σ : zPH) : Prop :=
  (zI (σ 58 10)) ∧
  ((σ 58 10) ≤ 0 →
    (0 ≤ (σ 58 34) ∧ (σ 58 34) < 1600) ∧
    ∀ σ118 : zPH, σ118 = zupd σ 78 (σ 58 34).toNat (σ 58 8) →
    (0 ≤ (σ118 58 34) ∧ (σ118 58 34) < 1600) ∧
    ∀ σ131 : zPH, σ131 = zupd σ118 79 (σ118 58 34).toNat (σ118 58 5) →
    ∀ x1 : Int, x1 = (σ131 58 34) →
    MS G zm_M_next 2 [zr G 58] σ131 (fun v σ138 =>
      v = none ∧
      MS G zm_M_colour 3 [zr G 58] σ138 (fun v σ142 =>
        ∃ z142 : Int, v = some (iZ z142) ∧
        (zI (σ142 58 10)) ∧
        ((σ142 58 10) ≤ 0 →
          MS G zm_M_add 0 [zr G 58, iZ 1, iZ z142] σ142 (fun v σ157 =>
            v = none ∧
            (0 ≤ ((1600 * (σ157 58 35)) + x1) ∧ ((1600 * (σ157 58 35)) + x1) < 3200) ∧
            ∀ σ175 : zPH, σ175 = zupd σ157 77 ((1600 * (σ157 58 35)) + x1).toNat 0 →
            X none σ175)) ∧
        (0 < (σ142 58 10) →
          X none σ142)))) ∧
  (0 < (σ 58 10) →
    X none σ)
set_option maxHeartbeats 4000000 in
theorem kb_M_fact_98 {G : zG} {X : zX} {σ : zPH} (h : b_M_fact_98 G  X   σ) : PW G zm_M_fact 4 X 98 [some (zr G 58), none, none] [] σ := by
  unfold b_M_fact_98 at h
  refine PW_aload_n zd_M_fact_98 rfl ?_
  refine PW_getI zd_M_fact_99 zf_M_42 (zs_58 _) rfl ?_
  obtain ⟨h0, hT, hF⟩ := h
  refine PW_if_le zd_M_fact_102 h0 (fun q => ?_) (fun q => ?_)
  · have h := hT q
    refine PW_aload_n zd_M_fact_106 rfl ?_
    refine PW_getR zd_M_fact_107 zf_M_109 (zs_58 _) rfl ?_
    refine PW_aload_n zd_M_fact_110 rfl ?_
    refine PW_getI zd_M_fact_111 zf_M_115 (zs_58 _) rfl ?_
    refine PW_aload_n zd_M_fact_114 rfl ?_
    refine PW_getL zd_M_fact_115 zf_M_35 (zs_58 _) rfl ?_
    obtain ⟨h0, h⟩ := h
    refine PW_lastore zd_M_fact_118 (zs_78 _) h0 ?_
    have h := h _ rfl
    refine PW_aload_n zd_M_fact_119 rfl ?_
    refine PW_getR zd_M_fact_120 zf_M_112 (zs_58 _) rfl ?_
    refine PW_aload_n zd_M_fact_123 rfl ?_
    refine PW_getI zd_M_fact_124 zf_M_115 (zs_58 _) rfl ?_
    refine PW_aload_n zd_M_fact_127 rfl ?_
    refine PW_getI zd_M_fact_128 zf_M_26 (zs_58 _) rfl ?_
    obtain ⟨h0, h⟩ := h
    refine PW_iastore zd_M_fact_131 (zs_79 _) h0 ?_
    have h := h _ rfl
    refine PW_aload_n zd_M_fact_132 rfl ?_
    refine PW_getI zd_M_fact_133 zf_M_115 (zs_58 _) rfl ?_
    refine PW_istore_n zd_M_fact_136 rfl (by decide) (ls2 := [_, _, _]) rfl ?_
    have h := h _ rfl
    refine PW_aload_n zd_M_fact_137 rfl ?_
    refine PW_callV0v zd_M_fact_138 zl_M_317 zk_M_next zv_M_next (fr' := 2) (by decide) (zs_58 _) rfl rfl (Nat.le_of_ble_eq_true rfl) ?_
    refine ms_mono h ?_
    rintro v σ1 ⟨rfl, h⟩
    refine ⟨rfl, ?_⟩
    refine PW_aload_n zd_M_fact_141 rfl ?_
    refine PW_callV0i zd_M_fact_142 zl_M_340 zk_M_colour zv_M_colour (fr' := 3) (by decide) (zs_58 _) rfl rfl (Nat.le_of_ble_eq_true rfl) ?_
    refine ms_mono h ?_
    rintro v σ1 ⟨z, rfl, h⟩
    refine ⟨z, rfl, ?_⟩
    refine PW_istore_n zd_M_fact_145 rfl (by decide) (ls2 := [_, _, _]) rfl ?_
    refine PW_aload_n zd_M_fact_146 rfl ?_
    refine PW_getI zd_M_fact_147 zf_M_42 (zs_58 _) rfl ?_
    obtain ⟨h0, hT, hF⟩ := h
    refine PW_if_le zd_M_fact_150 h0 (fun q => ?_) (fun q => ?_)
    · have h := hT q
      refine PW_aload_n zd_M_fact_154 rfl ?_
      refine PW_iconst zd_M_fact_155 ?_
      refine PW_iload_n zd_M_fact_156 rfl ?_
      refine PW_callV2v zd_M_fact_157 zl_M_333 zk_M_add zv_M_add (fr' := 0) (by decide) (zs_58 _) rfl rfl (Nat.le_of_ble_eq_true rfl) ?_
      refine ms_mono h ?_
      rintro v σ1 ⟨rfl, h⟩
      refine ⟨rfl, ?_⟩
      refine PW_aload_n zd_M_fact_160 rfl ?_
      refine PW_getR zd_M_fact_161 zf_M_106 (zs_58 _) rfl ?_
      refine PW_sipush zd_M_fact_164 rfl ?_
      refine PW_aload_n zd_M_fact_167 rfl ?_
      refine PW_getI zd_M_fact_168 zf_M_118 (zs_58 _) rfl ?_
      refine PW_imul zd_M_fact_171 ?_
      refine PW_iload_n zd_M_fact_172 rfl ?_
      refine PW_iadd zd_M_fact_173 ?_
      refine PW_iconst zd_M_fact_174 ?_
      obtain ⟨h0, h⟩ := h
      refine PW_iastore zd_M_fact_175 (zs_77 _) h0 ?_
      have h := h _ rfl
      exact PW_vret zd_M_fact_176 rfl h
    · have h := hF q
      exact PW_vret zd_M_fact_153 rfl h
  · have h := hF q
    exact PW_vret zd_M_fact_105 rfl h
def b_M_fact_89 (G : zG) (X : zX) (σ : zPH) : Prop :=
  MS G zm_M_blame 0 [zr G 58, iZ 1, iZ (σ 58 5)] σ (fun v σ95 =>
    v = none ∧
    b_M_fact_98 G  X  σ95)
set_option maxHeartbeats 4000000 in
theorem kb_M_fact_89 {G : zG} {X : zX} {σ : zPH} (h : b_M_fact_89 G  X   σ) : PW G zm_M_fact 4 X 89 [some (zr G 58), none, none] [] σ := by
  unfold b_M_fact_89 at h
  refine PW_aload_n zd_M_fact_89 rfl ?_
  refine PW_iconst zd_M_fact_90 ?_
  refine PW_aload_n zd_M_fact_91 rfl ?_
  refine PW_getI zd_M_fact_92 zf_M_26 (zs_58 _) rfl ?_
  refine PW_callV2v zd_M_fact_95 zl_M_295 zk_M_blame zv_M_blame (fr' := 0) (by decide) (zs_58 _) rfl rfl (Nat.le_of_ble_eq_true rfl) ?_
  refine ms_mono h ?_
  rintro v σ1 ⟨rfl, h⟩
  refine ⟨rfl, ?_⟩
  exact PW_sub (by exact ⟨rfl, trivial⟩) (kb_M_fact_98   h)
def w_M_fact (G : zG) (X : zX) (σ : zPH) : Prop :=
  MS G zm_M_isSign 1 [zr G 58, iZ 91] σ (fun v σ3 =>
    (v = some (iZ 0) ∧
      MS G zm_M_isWord 0 [zr G 58, lZ 7237492] σ3 (fun v σ19 =>
        (v = some (iZ 0) ∧
          ∀ σ33 : zPH, σ33 = zupd σ19 58 41 1 →
          MS G zm_M_isWord 0 [zr G 58, lZ 6384748] σ33 (fun v σ40 =>
            (v = some (iZ 0) ∧
              MS G zm_M_mustWord 3 [zr G 58, lZ 1936024947] σ40 (fun v σ61 =>
                v = none ∧
                (zI (σ61 58 10)) ∧
                ((σ61 58 10) ≠ 0 →
                  b_M_fact_98 G  X  σ61) ∧
                ((σ61 58 10) = 0 →
                  (zI (σ61 58 7)) ∧
                  ((σ61 58 7) ≠ 1 →
                    b_M_fact_89 G  X  σ61) ∧
                  ((σ61 58 7) = 1 →
                    MS G zm_M_isOwn 0 [lZ (σ61 58 8)] σ61 (fun v σ83 =>
                      (v = some (iZ 0) ∧
                        b_M_fact_98 G  X  σ83) ∨
                      (v = some (iZ 1) ∧
                        b_M_fact_89 G  X  σ83)))))) ∨
            (v = some (iZ 1) ∧
              MS G zm_M_add 0 [zr G 58, iZ 0, iZ 0] σ40 (fun v σ49 =>
                v = none ∧
                MS G zm_M_next 2 [zr G 58] σ49 (fun v σ53 =>
                  v = none ∧
                  X none σ53))))) ∨
        (v = some (iZ 1) ∧
          MS G zm_M_opens 3 [zr G 58, iZ 2] σ19 (fun v σ27 =>
            v = none ∧
            X none σ27)))) ∨
    (v = some (iZ 1) ∧
      MS G zm_M_opens 3 [zr G 58, iZ 1] σ3 (fun v σ11 =>
        v = none ∧
        X none σ11)))
set_option maxHeartbeats 4000000 in
theorem k_M_fact {G : zG} {X : zX} {σ : zPH} (h : w_M_fact G  X σ) : MS G zm_M_fact 4 [zr G 58] σ X := by
  refine ms_of zk_M_fact (Nat.le_of_ble_eq_true rfl) (ls := [some (zr G 58), none, none]) rfl ?_
  unfold w_M_fact at h
  refine PW_aload_n zd_M_fact_0 rfl ?_
  refine PW_bipush zd_M_fact_1 rfl ?_
  refine PW_callV1i zd_M_fact_3 zl_M_327 zk_M_isSign zv_M_isSign (fr' := 1) (by decide) (zs_58 _) rfl rfl (Nat.le_of_ble_eq_true rfl) ?_
  refine ms_mono h ?_
  rintro v σ1 (⟨rfl, h⟩ | ⟨rfl, h⟩)
  · refine ⟨0, rfl, ?_⟩
    refine PW_if_eq zd_M_fact_6 (by decide) (fun _ => ?_) (fun q => absurd rfl q)
    refine PW_aload_n zd_M_fact_15 rfl ?_
    refine PW_ldc2 zd_M_fact_16 zcst_M_286 ?_
    refine PW_callV1i zd_M_fact_19 zl_M_314 zk_M_isWord zv_M_isWord (fr' := 0) (by decide) (zs_58 _) rfl rfl (Nat.le_of_ble_eq_true rfl) ?_
    refine ms_mono h ?_
    rintro v σ1 (⟨rfl, h⟩ | ⟨rfl, h⟩)
    · refine ⟨0, rfl, ?_⟩
      refine PW_if_eq zd_M_fact_22 (by decide) (fun _ => ?_) (fun q => absurd rfl q)
      refine PW_aload_n zd_M_fact_31 rfl ?_
      refine PW_iconst zd_M_fact_32 ?_
      refine PW_putZ zd_M_fact_33 zp_M_137 (zs_58 _) rfl (by decide) ?_
      have h := h _ rfl
      refine PW_aload_n zd_M_fact_36 rfl ?_
      refine PW_ldc2 zd_M_fact_37 zcst_M_288 ?_
      refine PW_callV1i zd_M_fact_40 zl_M_314 zk_M_isWord zv_M_isWord (fr' := 0) (by decide) (zs_58 _) rfl rfl (Nat.le_of_ble_eq_true rfl) ?_
      refine ms_mono h ?_
      rintro v σ1 (⟨rfl, h⟩ | ⟨rfl, h⟩)
      · refine ⟨0, rfl, ?_⟩
        refine PW_if_eq zd_M_fact_43 (by decide) (fun _ => ?_) (fun q => absurd rfl q)
        refine PW_aload_n zd_M_fact_57 rfl ?_
        refine PW_ldc2 zd_M_fact_58 zcst_M_290 ?_
        refine PW_callV1v zd_M_fact_61 zl_M_336 zk_M_mustWord zv_M_mustWord (fr' := 3) (by decide) (zs_58 _) rfl rfl (Nat.le_of_ble_eq_true rfl) ?_
        refine ms_mono h ?_
        rintro v σ1 ⟨rfl, h⟩
        refine ⟨rfl, ?_⟩
        refine PW_aload_n zd_M_fact_64 rfl ?_
        refine PW_getI zd_M_fact_65 zf_M_42 (zs_58 _) rfl ?_
        obtain ⟨h0, hT, hF⟩ := h
        refine PW_if_ne zd_M_fact_68 h0 (fun q => ?_) (fun q => ?_)
        · have h := hT q
          exact PW_sub (by exact ⟨rfl, trivial⟩) (kb_M_fact_98   h)
        · have h := hF q
          refine PW_aload_n zd_M_fact_71 rfl ?_
          refine PW_getI zd_M_fact_72 zf_M_32 (zs_58 _) rfl ?_
          refine PW_iconst zd_M_fact_75 ?_
          obtain ⟨h0, hT, hF⟩ := h
          refine PW_icmp_ne zd_M_fact_76 ⟨h0, by decide⟩ (fun q => ?_) (fun q => ?_)
          · have h := hT q
            exact PW_sub (by exact ⟨rfl, trivial⟩) (kb_M_fact_89   h)
          · have h := hF q
            refine PW_aload_n zd_M_fact_79 rfl ?_
            refine PW_getL zd_M_fact_80 zf_M_35 (zs_58 _) rfl ?_
            refine PW_callS1i zd_M_fact_83 zl_M_310 zk_M_isOwn zv_M_isOwn (fr' := 0) (by decide) (Nat.le_of_ble_eq_true rfl) ?_
            refine ms_mono h ?_
            rintro v σ1 (⟨rfl, h⟩ | ⟨rfl, h⟩)
            · refine ⟨0, rfl, ?_⟩
              refine PW_if_eq zd_M_fact_86 (by decide) (fun _ => ?_) (fun q => absurd rfl q)
              exact PW_sub (by exact ⟨rfl, trivial⟩) (kb_M_fact_98   h)
            · refine ⟨1, rfl, ?_⟩
              refine PW_if_eq zd_M_fact_86 (by decide) (fun q => absurd q (by decide)) (fun _ => ?_)
              exact PW_sub (by exact ⟨rfl, trivial⟩) (kb_M_fact_89   h)
      · refine ⟨1, rfl, ?_⟩
        refine PW_if_eq zd_M_fact_43 (by decide) (fun q => absurd q (by decide)) (fun _ => ?_)
        refine PW_aload_n zd_M_fact_46 rfl ?_
        refine PW_iconst zd_M_fact_47 ?_
        refine PW_iconst zd_M_fact_48 ?_
        refine PW_callV2v zd_M_fact_49 zl_M_333 zk_M_add zv_M_add (fr' := 0) (by decide) (zs_58 _) rfl rfl (Nat.le_of_ble_eq_true rfl) ?_
        refine ms_mono h ?_
        rintro v σ1 ⟨rfl, h⟩
        refine ⟨rfl, ?_⟩
        refine PW_aload_n zd_M_fact_52 rfl ?_
        refine PW_callV0v zd_M_fact_53 zl_M_317 zk_M_next zv_M_next (fr' := 2) (by decide) (zs_58 _) rfl rfl (Nat.le_of_ble_eq_true rfl) ?_
        refine ms_mono h ?_
        rintro v σ1 ⟨rfl, h⟩
        refine ⟨rfl, ?_⟩
        exact PW_vret zd_M_fact_56 rfl h
    · refine ⟨1, rfl, ?_⟩
      refine PW_if_eq zd_M_fact_22 (by decide) (fun q => absurd q (by decide)) (fun _ => ?_)
      refine PW_aload_n zd_M_fact_25 rfl ?_
      refine PW_iconst zd_M_fact_26 ?_
      refine PW_callV1v zd_M_fact_27 zl_M_330 zk_M_opens zv_M_opens (fr' := 3) (by decide) (zs_58 _) rfl rfl (Nat.le_of_ble_eq_true rfl) ?_
      refine ms_mono h ?_
      rintro v σ1 ⟨rfl, h⟩
      refine ⟨rfl, ?_⟩
      exact PW_vret zd_M_fact_30 rfl h
  · refine ⟨1, rfl, ?_⟩
    refine PW_if_eq zd_M_fact_6 (by decide) (fun q => absurd q (by decide)) (fun _ => ?_)
    refine PW_aload_n zd_M_fact_9 rfl ?_
    refine PW_iconst zd_M_fact_10 ?_
    refine PW_callV1v zd_M_fact_11 zl_M_330 zk_M_opens zv_M_opens (fr' := 3) (by decide) (zs_58 _) rfl rfl (Nat.le_of_ble_eq_true rfl) ?_
    refine ms_mono h ?_
    rintro v σ1 ⟨rfl, h⟩
    refine ⟨rfl, ?_⟩
    exact PW_vret zd_M_fact_14 rfl h
def b_M_joins_22 (G : zG) (ors : Int) (X : zX) (x2 : Int) (σ : zPH) : Prop :=
  (0 ≤ x2 ∧ x2 < 12) ∧
  ∀ σ28 : zPH, σ28 = zupd σ 81 x2.toNat 0 →
  (zI ors) ∧
  (ors ≠ 0 →
    (0 ≤ x2 ∧ x2 < 12) ∧
    (zI (σ28 82 x2.toNat)) ∧
    ((σ28 82 x2.toNat) = 0 →
      (0 ≤ x2 ∧ x2 < 12) ∧
      ∀ σ55 : zPH, σ55 = zupd σ28 82 x2.toNat 0 →
      X none σ55) ∧
    ((σ28 82 x2.toNat) ≠ 0 →
      MS G zm_M_add 0 [zr G 58, iZ 3, iZ 0] σ28 (fun v σ46 =>
        v = none ∧
        (0 ≤ x2 ∧ x2 < 12) ∧
        ∀ σ55 : zPH, σ55 = zupd σ46 82 x2.toNat 0 →
        X none σ55))) ∧
  (ors = 0 →
    X none σ28)
set_option maxHeartbeats 4000000 in
theorem kb_M_joins_22 {G : zG} {ors : Int} {X : zX} {x2 : Int} {σ : zPH} (h : b_M_joins_22 G ors X  x2 σ) : PW G zm_M_joins 1 X 22 [some (zr G 58), some (iZ ors), some (iZ x2)] [] σ := by
  unfold b_M_joins_22 at h
  refine PW_aload_n zd_M_joins_22 rfl ?_
  refine PW_getR zd_M_joins_23 zf_M_124 (zs_58 _) rfl ?_
  refine PW_iload_n zd_M_joins_26 rfl ?_
  refine PW_iconst zd_M_joins_27 ?_
  obtain ⟨h0, h⟩ := h
  refine PW_bastore zd_M_joins_28 (zs_81 _) h0 (by decide) ?_
  have h := h _ rfl
  refine PW_iload_n zd_M_joins_29 rfl ?_
  obtain ⟨h0, hT, hF⟩ := h
  refine PW_if_ne zd_M_joins_30 h0 (fun q => ?_) (fun q => ?_)
  · have h := hT q
    refine PW_aload_n zd_M_joins_34 rfl ?_
    refine PW_getR zd_M_joins_35 zf_M_128 (zs_58 _) rfl ?_
    refine PW_iload_n zd_M_joins_38 rfl ?_
    obtain ⟨h0, h⟩ := h
    refine PW_baload zd_M_joins_39 (zs_82 _) h0 ?_
    obtain ⟨h0, hT, hF⟩ := h
    refine PW_if_eq zd_M_joins_40 h0 (fun q => ?_) (fun q => ?_)
    · have h := hT q
      refine PW_aload_n zd_M_joins_49 rfl ?_
      refine PW_getR zd_M_joins_50 zf_M_128 (zs_58 _) rfl ?_
      refine PW_iload_n zd_M_joins_53 rfl ?_
      refine PW_iconst zd_M_joins_54 ?_
      obtain ⟨h0, h⟩ := h
      refine PW_bastore zd_M_joins_55 (zs_82 _) h0 (by decide) ?_
      have h := h _ rfl
      exact PW_vret zd_M_joins_56 rfl h
    · have h := hF q
      refine PW_aload_n zd_M_joins_43 rfl ?_
      refine PW_iconst zd_M_joins_44 ?_
      refine PW_iconst zd_M_joins_45 ?_
      refine PW_callV2v zd_M_joins_46 zl_M_333 zk_M_add zv_M_add (fr' := 0) (by decide) (zs_58 _) rfl rfl (Nat.le_of_ble_eq_true rfl) ?_
      refine ms_mono h ?_
      rintro v σ1 ⟨rfl, h⟩
      refine ⟨rfl, ?_⟩
      refine PW_aload_n zd_M_joins_49 rfl ?_
      refine PW_getR zd_M_joins_50 zf_M_128 (zs_58 _) rfl ?_
      refine PW_iload_n zd_M_joins_53 rfl ?_
      refine PW_iconst zd_M_joins_54 ?_
      obtain ⟨h0, h⟩ := h
      refine PW_bastore zd_M_joins_55 (zs_82 _) h0 (by decide) ?_
      have h := h _ rfl
      exact PW_vret zd_M_joins_56 rfl h
  · have h := hF q
    exact PW_vret zd_M_joins_33 rfl h
def w_M_joins (G : zG) (ors : Int) (X : zX) (σ : zPH) : Prop :=
  ∀ x2 : Int, x2 = ((σ 58 39) - 1) →
  (0 ≤ x2 ∧ x2 < 12) ∧
  (zI (σ 81 x2.toNat)) ∧
  ((σ 81 x2.toNat) = 0 →
    b_M_joins_22 G ors X  x2 σ) ∧
  ((σ 81 x2.toNat) ≠ 0 →
    MS G zm_M_add 0 [zr G 58, iZ 2, iZ 0] σ (fun v σ19 =>
      v = none ∧
      b_M_joins_22 G ors X  x2 σ19))
set_option maxHeartbeats 4000000 in
theorem k_M_joins {G : zG} {ors : Int} {X : zX} {σ : zPH} (h : w_M_joins G ors X σ) : MS G zm_M_joins 1 [zr G 58, iZ ors] σ X := by
  refine ms_of zk_M_joins (Nat.le_of_ble_eq_true rfl) (ls := [some (zr G 58), some (iZ ors), none]) rfl ?_
  unfold w_M_joins at h
  refine PW_aload_n zd_M_joins_0 rfl ?_
  refine PW_getI zd_M_joins_1 zf_M_131 (zs_58 _) rfl ?_
  refine PW_iconst zd_M_joins_4 ?_
  refine PW_isub zd_M_joins_5 ?_
  refine PW_istore_n zd_M_joins_6 rfl (by decide) (ls2 := [_, _, _]) rfl ?_
  have h := h _ rfl
  refine PW_aload_n zd_M_joins_7 rfl ?_
  refine PW_getR zd_M_joins_8 zf_M_124 (zs_58 _) rfl ?_
  refine PW_iload_n zd_M_joins_11 rfl ?_
  obtain ⟨h0, h⟩ := h
  refine PW_baload zd_M_joins_12 (zs_81 _) h0 ?_
  obtain ⟨h0, hT, hF⟩ := h
  refine PW_if_eq zd_M_joins_13 h0 (fun q => ?_) (fun q => ?_)
  · have h := hT q
    exact PW_sub (by exact ⟨rfl, rfl, rfl, trivial⟩) (kb_M_joins_22   h)
  · have h := hF q
    refine PW_aload_n zd_M_joins_16 rfl ?_
    refine PW_iconst zd_M_joins_17 ?_
    refine PW_iconst zd_M_joins_18 ?_
    refine PW_callV2v zd_M_joins_19 zl_M_333 zk_M_add zv_M_add (fr' := 0) (by decide) (zs_58 _) rfl rfl (Nat.le_of_ble_eq_true rfl) ?_
    refine ms_mono h ?_
    rintro v σ1 ⟨rfl, h⟩
    refine ⟨rfl, ?_⟩
    exact PW_sub (by exact ⟨rfl, rfl, rfl, trivial⟩) (kb_M_joins_22   h)
def b_M_goesOn_145 (G : zG) (X : zX) (σ : zPH) : Prop :=
  (zI (σ 58 10)) ∧
  ((σ 58 10) ≤ 0 →
    ∀ σ161 : zPH, σ161 = zupd σ 58 39 ((σ 58 39) - 1) →
    ∀ σ171 : zPH, σ171 = zupd σ161 58 40 ((σ161 58 40) - 1) →
    MS G zm_M_next 2 [zr G 58] σ171 (fun v σ175 =>
      v = none ∧
      X (some (iZ 1)) σ175)) ∧
  (0 < (σ 58 10) →
    X (some (iZ 0)) σ)
set_option maxHeartbeats 4000000 in
theorem kb_M_goesOn_145 {G : zG} {X : zX} {σ : zPH} (h : b_M_goesOn_145 G  X   σ) : PW G zm_M_goesOn 3 X 145 [some (zr G 58), none] [] σ := by
  unfold b_M_goesOn_145 at h
  refine PW_aload_n zd_M_goesOn_145 rfl ?_
  refine PW_getI zd_M_goesOn_146 zf_M_42 (zs_58 _) rfl ?_
  obtain ⟨h0, hT, hF⟩ := h
  refine PW_if_le zd_M_goesOn_149 h0 (fun q => ?_) (fun q => ?_)
  · have h := hT q
    refine PW_aload_n zd_M_goesOn_154 rfl ?_
    refine PW_dup zd_M_goesOn_155 rfl ?_
    refine PW_getI zd_M_goesOn_156 zf_M_131 (zs_58 _) rfl ?_
    refine PW_iconst zd_M_goesOn_159 ?_
    refine PW_isub zd_M_goesOn_160 ?_
    refine PW_putI zd_M_goesOn_161 zp_M_131 (zs_58 _) rfl ?_
    have h := h _ rfl
    refine PW_aload_n zd_M_goesOn_164 rfl ?_
    refine PW_dup zd_M_goesOn_165 rfl ?_
    refine PW_getI zd_M_goesOn_166 zf_M_134 (zs_58 _) rfl ?_
    refine PW_iconst zd_M_goesOn_169 ?_
    refine PW_isub zd_M_goesOn_170 ?_
    refine PW_putI zd_M_goesOn_171 zp_M_134 (zs_58 _) rfl ?_
    have h := h _ rfl
    refine PW_aload_n zd_M_goesOn_174 rfl ?_
    refine PW_callV0v zd_M_goesOn_175 zl_M_317 zk_M_next zv_M_next (fr' := 2) (by decide) (zs_58 _) rfl rfl (Nat.le_of_ble_eq_true rfl) ?_
    refine ms_mono h ?_
    rintro v σ1 ⟨rfl, h⟩
    refine ⟨rfl, ?_⟩
    refine PW_iconst zd_M_goesOn_178 ?_
    exact PW_zret zd_M_goesOn_179 rfl (by decide) h
  · have h := hF q
    refine PW_iconst zd_M_goesOn_152 ?_
    exact PW_zret zd_M_goesOn_153 rfl (by decide) h
def w_M_goesOn (G : zG) (X : zX) (σ : zPH) : Prop :=
  ∀ x1 : Int, x1 = ((σ 58 39) - 1) →
  (0 ≤ x1 ∧ x1 < 12) ∧
  (zI (σ 80 x1.toNat)) ∧
  ((σ 80 x1.toNat) ≠ 2 →
    MS G zm_M_isWord 0 [zr G 58, lZ 6385252] σ (fun v σ49 =>
      (v = some (iZ 0) ∧
        MS G zm_M_isWord 0 [zr G 58, lZ 28530] σ49 (fun v σ82 =>
          (v = some (iZ 0) ∧
            MS G zm_M_joins 1 [zr G 58, iZ 1] σ82 (fun v σ113 =>
              v = none ∧
              (0 ≤ x1 ∧ x1 < 12) ∧
              (zI (σ113 80 x1.toNat)) ∧
              ((σ113 80 x1.toNat) ≠ 0 →
                MS G zm_M_isSign 1 [zr G 58, iZ 93] σ113 (fun v σ130 =>
                  (v = some (iZ 0) ∧
                    MS G zm_M_blame 0 [zr G 58, iZ 1, iZ (σ130 58 5)] σ130 (fun v σ142 =>
                      v = none ∧
                      b_M_goesOn_145 G  X  σ142)) ∨
                  (v = some (iZ 1) ∧
                    b_M_goesOn_145 G  X  σ130))) ∧
              ((σ113 80 x1.toNat) = 0 →
                X (some (iZ 0)) σ113))) ∨
          (v = some (iZ 1) ∧
            MS G zm_M_joins 1 [zr G 58, iZ 1] σ82 (fun v σ90 =>
              v = none ∧
              (0 ≤ x1 ∧ x1 < 12) ∧
              ∀ σ99 : zPH, σ99 = zupd σ90 82 x1.toNat 1 →
              ∀ σ102 : zPH, σ102 = zupd σ99 58 41 0 →
              MS G zm_M_next 2 [zr G 58] σ102 (fun v σ106 =>
                v = none ∧
                X (some (iZ 1)) σ106))))) ∨
      (v = some (iZ 1) ∧
        MS G zm_M_joins 1 [zr G 58, iZ 0] σ49 (fun v σ57 =>
          v = none ∧
          (0 ≤ x1 ∧ x1 < 12) ∧
          ∀ σ66 : zPH, σ66 = zupd σ57 81 x1.toNat 1 →
          ∀ σ69 : zPH, σ69 = zupd σ66 58 41 0 →
          MS G zm_M_next 2 [zr G 58] σ69 (fun v σ73 =>
            v = none ∧
            X (some (iZ 1)) σ73))))) ∧
  ((σ 80 x1.toNat) = 2 →
    MS G zm_M_add 0 [zr G 58, iZ 4, iZ 0] σ (fun v σ20 =>
      v = none ∧
      ∀ σ30 : zPH, σ30 = zupd σ20 58 39 ((σ20 58 39) - 1) →
      ∀ σ40 : zPH, σ40 = zupd σ30 58 40 ((σ30 58 40) - 1) →
      X (some (iZ 1)) σ40))
set_option maxHeartbeats 4000000 in
theorem k_M_goesOn {G : zG} {X : zX} {σ : zPH} (h : w_M_goesOn G  X σ) : MS G zm_M_goesOn 3 [zr G 58] σ X := by
  refine ms_of zk_M_goesOn (Nat.le_of_ble_eq_true rfl) (ls := [some (zr G 58), none]) rfl ?_
  unfold w_M_goesOn at h
  refine PW_aload_n zd_M_goesOn_0 rfl ?_
  refine PW_getI zd_M_goesOn_1 zf_M_131 (zs_58 _) rfl ?_
  refine PW_iconst zd_M_goesOn_4 ?_
  refine PW_isub zd_M_goesOn_5 ?_
  refine PW_istore_n zd_M_goesOn_6 rfl (by decide) (ls2 := [_, _]) rfl ?_
  have h := h _ rfl
  refine PW_aload_n zd_M_goesOn_7 rfl ?_
  refine PW_getR zd_M_goesOn_8 zf_M_121 (zs_58 _) rfl ?_
  refine PW_iload_n zd_M_goesOn_11 rfl ?_
  obtain ⟨h0, h⟩ := h
  refine PW_iaload zd_M_goesOn_12 (zs_80 _) h0 ?_
  refine PW_iconst zd_M_goesOn_13 ?_
  obtain ⟨h0, hT, hF⟩ := h
  refine PW_icmp_ne zd_M_goesOn_14 ⟨h0, by decide⟩ (fun q => ?_) (fun q => ?_)
  · have h := hT q
    refine PW_aload_n zd_M_goesOn_45 rfl ?_
    refine PW_ldc2 zd_M_goesOn_46 zcst_M_284 ?_
    refine PW_callV1i zd_M_goesOn_49 zl_M_314 zk_M_isWord zv_M_isWord (fr' := 0) (by decide) (zs_58 _) rfl rfl (Nat.le_of_ble_eq_true rfl) ?_
    refine ms_mono h ?_
    rintro v σ1 (⟨rfl, h⟩ | ⟨rfl, h⟩)
    · refine ⟨0, rfl, ?_⟩
      refine PW_if_eq zd_M_goesOn_52 (by decide) (fun _ => ?_) (fun q => absurd rfl q)
      refine PW_aload_n zd_M_goesOn_78 rfl ?_
      refine PW_ldc2 zd_M_goesOn_79 zcst_M_282 ?_
      refine PW_callV1i zd_M_goesOn_82 zl_M_314 zk_M_isWord zv_M_isWord (fr' := 0) (by decide) (zs_58 _) rfl rfl (Nat.le_of_ble_eq_true rfl) ?_
      refine ms_mono h ?_
      rintro v σ1 (⟨rfl, h⟩ | ⟨rfl, h⟩)
      · refine ⟨0, rfl, ?_⟩
        refine PW_if_eq zd_M_goesOn_85 (by decide) (fun _ => ?_) (fun q => absurd rfl q)
        refine PW_aload_n zd_M_goesOn_111 rfl ?_
        refine PW_iconst zd_M_goesOn_112 ?_
        refine PW_callV1v zd_M_goesOn_113 zl_M_344 zk_M_joins zv_M_joins (fr' := 1) (by decide) (zs_58 _) rfl rfl (Nat.le_of_ble_eq_true rfl) ?_
        refine ms_mono h ?_
        rintro v σ1 ⟨rfl, h⟩
        refine ⟨rfl, ?_⟩
        refine PW_aload_n zd_M_goesOn_116 rfl ?_
        refine PW_getR zd_M_goesOn_117 zf_M_121 (zs_58 _) rfl ?_
        refine PW_iload_n zd_M_goesOn_120 rfl ?_
        obtain ⟨h0, h⟩ := h
        refine PW_iaload zd_M_goesOn_121 (zs_80 _) h0 ?_
        obtain ⟨h0, hT, hF⟩ := h
        refine PW_if_ne zd_M_goesOn_122 h0 (fun q => ?_) (fun q => ?_)
        · have h := hT q
          refine PW_aload_n zd_M_goesOn_127 rfl ?_
          refine PW_bipush zd_M_goesOn_128 rfl ?_
          refine PW_callV1i zd_M_goesOn_130 zl_M_327 zk_M_isSign zv_M_isSign (fr' := 1) (by decide) (zs_58 _) rfl rfl (Nat.le_of_ble_eq_true rfl) ?_
          refine ms_mono h ?_
          rintro v σ1 (⟨rfl, h⟩ | ⟨rfl, h⟩)
          · refine ⟨0, rfl, ?_⟩
            refine PW_if_ne zd_M_goesOn_133 (by decide) (fun q => absurd rfl q) (fun _ => ?_)
            refine PW_aload_n zd_M_goesOn_136 rfl ?_
            refine PW_iconst zd_M_goesOn_137 ?_
            refine PW_aload_n zd_M_goesOn_138 rfl ?_
            refine PW_getI zd_M_goesOn_139 zf_M_26 (zs_58 _) rfl ?_
            refine PW_callV2v zd_M_goesOn_142 zl_M_295 zk_M_blame zv_M_blame (fr' := 0) (by decide) (zs_58 _) rfl rfl (Nat.le_of_ble_eq_true rfl) ?_
            refine ms_mono h ?_
            rintro v σ1 ⟨rfl, h⟩
            refine ⟨rfl, ?_⟩
            exact PW_sub (by exact ⟨rfl, trivial⟩) (kb_M_goesOn_145   h)
          · refine ⟨1, rfl, ?_⟩
            refine PW_if_ne zd_M_goesOn_133 (by decide) (fun _ => ?_) (fun q => absurd q (by decide))
            exact PW_sub (by exact ⟨rfl, trivial⟩) (kb_M_goesOn_145   h)
        · have h := hF q
          refine PW_iconst zd_M_goesOn_125 ?_
          exact PW_zret zd_M_goesOn_126 rfl (by decide) h
      · refine ⟨1, rfl, ?_⟩
        refine PW_if_eq zd_M_goesOn_85 (by decide) (fun q => absurd q (by decide)) (fun _ => ?_)
        refine PW_aload_n zd_M_goesOn_88 rfl ?_
        refine PW_iconst zd_M_goesOn_89 ?_
        refine PW_callV1v zd_M_goesOn_90 zl_M_344 zk_M_joins zv_M_joins (fr' := 1) (by decide) (zs_58 _) rfl rfl (Nat.le_of_ble_eq_true rfl) ?_
        refine ms_mono h ?_
        rintro v σ1 ⟨rfl, h⟩
        refine ⟨rfl, ?_⟩
        refine PW_aload_n zd_M_goesOn_93 rfl ?_
        refine PW_getR zd_M_goesOn_94 zf_M_128 (zs_58 _) rfl ?_
        refine PW_iload_n zd_M_goesOn_97 rfl ?_
        refine PW_iconst zd_M_goesOn_98 ?_
        obtain ⟨h0, h⟩ := h
        refine PW_bastore zd_M_goesOn_99 (zs_82 _) h0 (by decide) ?_
        have h := h _ rfl
        refine PW_aload_n zd_M_goesOn_100 rfl ?_
        refine PW_iconst zd_M_goesOn_101 ?_
        refine PW_putZ zd_M_goesOn_102 zp_M_137 (zs_58 _) rfl (by decide) ?_
        have h := h _ rfl
        refine PW_aload_n zd_M_goesOn_105 rfl ?_
        refine PW_callV0v zd_M_goesOn_106 zl_M_317 zk_M_next zv_M_next (fr' := 2) (by decide) (zs_58 _) rfl rfl (Nat.le_of_ble_eq_true rfl) ?_
        refine ms_mono h ?_
        rintro v σ1 ⟨rfl, h⟩
        refine ⟨rfl, ?_⟩
        refine PW_iconst zd_M_goesOn_109 ?_
        exact PW_zret zd_M_goesOn_110 rfl (by decide) h
    · refine ⟨1, rfl, ?_⟩
      refine PW_if_eq zd_M_goesOn_52 (by decide) (fun q => absurd q (by decide)) (fun _ => ?_)
      refine PW_aload_n zd_M_goesOn_55 rfl ?_
      refine PW_iconst zd_M_goesOn_56 ?_
      refine PW_callV1v zd_M_goesOn_57 zl_M_344 zk_M_joins zv_M_joins (fr' := 1) (by decide) (zs_58 _) rfl rfl (Nat.le_of_ble_eq_true rfl) ?_
      refine ms_mono h ?_
      rintro v σ1 ⟨rfl, h⟩
      refine ⟨rfl, ?_⟩
      refine PW_aload_n zd_M_goesOn_60 rfl ?_
      refine PW_getR zd_M_goesOn_61 zf_M_124 (zs_58 _) rfl ?_
      refine PW_iload_n zd_M_goesOn_64 rfl ?_
      refine PW_iconst zd_M_goesOn_65 ?_
      obtain ⟨h0, h⟩ := h
      refine PW_bastore zd_M_goesOn_66 (zs_81 _) h0 (by decide) ?_
      have h := h _ rfl
      refine PW_aload_n zd_M_goesOn_67 rfl ?_
      refine PW_iconst zd_M_goesOn_68 ?_
      refine PW_putZ zd_M_goesOn_69 zp_M_137 (zs_58 _) rfl (by decide) ?_
      have h := h _ rfl
      refine PW_aload_n zd_M_goesOn_72 rfl ?_
      refine PW_callV0v zd_M_goesOn_73 zl_M_317 zk_M_next zv_M_next (fr' := 2) (by decide) (zs_58 _) rfl rfl (Nat.le_of_ble_eq_true rfl) ?_
      refine ms_mono h ?_
      rintro v σ1 ⟨rfl, h⟩
      refine ⟨rfl, ?_⟩
      refine PW_iconst zd_M_goesOn_76 ?_
      exact PW_zret zd_M_goesOn_77 rfl (by decide) h
  · have h := hF q
    refine PW_aload_n zd_M_goesOn_17 rfl ?_
    refine PW_iconst zd_M_goesOn_18 ?_
    refine PW_iconst zd_M_goesOn_19 ?_
    refine PW_callV2v zd_M_goesOn_20 zl_M_333 zk_M_add zv_M_add (fr' := 0) (by decide) (zs_58 _) rfl rfl (Nat.le_of_ble_eq_true rfl) ?_
    refine ms_mono h ?_
    rintro v σ1 ⟨rfl, h⟩
    refine ⟨rfl, ?_⟩
    refine PW_aload_n zd_M_goesOn_23 rfl ?_
    refine PW_dup zd_M_goesOn_24 rfl ?_
    refine PW_getI zd_M_goesOn_25 zf_M_131 (zs_58 _) rfl ?_
    refine PW_iconst zd_M_goesOn_28 ?_
    refine PW_isub zd_M_goesOn_29 ?_
    refine PW_putI zd_M_goesOn_30 zp_M_131 (zs_58 _) rfl ?_
    have h := h _ rfl
    refine PW_aload_n zd_M_goesOn_33 rfl ?_
    refine PW_dup zd_M_goesOn_34 rfl ?_
    refine PW_getI zd_M_goesOn_35 zf_M_134 (zs_58 _) rfl ?_
    refine PW_iconst zd_M_goesOn_38 ?_
    refine PW_isub zd_M_goesOn_39 ?_
    refine PW_putI zd_M_goesOn_40 zp_M_134 (zs_58 _) rfl ?_
    have h := h _ rfl
    refine PW_iconst zd_M_goesOn_43 ?_
    exact PW_zret zd_M_goesOn_44 rfl (by decide) h
def b_M_test_81 (G : zG) (mover : Int) (X : zX) (σ : zPH) : Prop :=
  (0 ≤ ((6 * (σ 58 35)) + mover) ∧ ((6 * (σ 58 35)) + mover) < 12) ∧
  ∀ σ98 : zPH, σ98 = zupd σ 74 ((6 * (σ 58 35)) + mover).toNat (σ 58 34) →
  X none σ98
set_option maxHeartbeats 4000000 in
theorem kb_M_test_81 {G : zG} {mover : Int} {X : zX} {σ : zPH} (h : b_M_test_81 G mover X   σ) : PW G zm_M_test 5 X 81 [some (zr G 58), some (iZ mover), none] [] σ := by
  unfold b_M_test_81 at h
  refine PW_aload_n zd_M_test_81 rfl ?_
  refine PW_getR zd_M_test_82 zf_M_97 (zs_58 _) rfl ?_
  refine PW_bipush zd_M_test_85 rfl ?_
  refine PW_aload_n zd_M_test_87 rfl ?_
  refine PW_getI zd_M_test_88 zf_M_118 (zs_58 _) rfl ?_
  refine PW_imul zd_M_test_91 ?_
  refine PW_iload_n zd_M_test_92 rfl ?_
  refine PW_iadd zd_M_test_93 ?_
  refine PW_aload_n zd_M_test_94 rfl ?_
  refine PW_getI zd_M_test_95 zf_M_115 (zs_58 _) rfl ?_
  obtain ⟨h0, h⟩ := h
  refine PW_iastore zd_M_test_98 (zs_74 _) h0 ?_
  have h := h _ rfl
  exact PW_vret zd_M_test_99 rfl h
def b_M_test_48 (G : zG) (mover : Int) (X : zX) (K48 : Int → zPH → Prop) (x2 : Int) (σ : zPH) : Prop :=
  (zI (σ 58 10)) ∧
  ((σ 58 10) ≠ 0 →
    b_M_test_81 G mover X  σ) ∧
  ((σ 58 10) = 0 →
    (zI x2) ∧
    (x2 = 0 →
      b_M_test_81 G mover X  σ) ∧
    (x2 ≠ 0 →
      (zI (σ 58 41)) ∧
      ((σ 58 41) = 0 →
        MS G zm_M_fact 4 [zr G 58] σ (fun v σ75 =>
          v = none ∧
          K48 x2 σ75)) ∧
      ((σ 58 41) ≠ 0 →
        MS G zm_M_goesOn 3 [zr G 58] σ (fun v σ67 =>
          ∃ z67 : Int, (z67 = 0 ∨ z67 = 1) ∧ v = some (iZ z67) ∧
          K48 z67 σ67))))
set_option maxHeartbeats 4000000 in
theorem kb_M_test_48 {G : zG} {mover : Int} {X : zX} {K48 : Int → zPH → Prop} (hK48 : ∀ (y0 : Int) (σ : zPH), K48 y0 σ → PW G zm_M_test 5 X 48 [some (zr G 58), some (iZ mover), some (iZ y0)] [] σ) {x2 : Int} {σ : zPH} (h : b_M_test_48 G mover X K48 x2 σ) : PW G zm_M_test 5 X 48 [some (zr G 58), some (iZ mover), some (iZ x2)] [] σ := by
  unfold b_M_test_48 at h
  refine PW_aload_n zd_M_test_48 rfl ?_
  refine PW_getI zd_M_test_49 zf_M_42 (zs_58 _) rfl ?_
  obtain ⟨h0, hT, hF⟩ := h
  refine PW_if_ne zd_M_test_52 h0 (fun q => ?_) (fun q => ?_)
  · have h := hT q
    exact PW_sub (by exact ⟨rfl, rfl, trivial⟩) (kb_M_test_81   h)
  · have h := hF q
    refine PW_iload_n zd_M_test_55 rfl ?_
    obtain ⟨h0, hT, hF⟩ := h
    refine PW_if_eq zd_M_test_56 h0 (fun q => ?_) (fun q => ?_)
    · have h := hT q
      exact PW_sub (by exact ⟨rfl, rfl, trivial⟩) (kb_M_test_81   h)
    · have h := hF q
      refine PW_aload_n zd_M_test_59 rfl ?_
      refine PW_getZ zd_M_test_60 zf_M_137 (zs_58 _) rfl ?_
      obtain ⟨h0, hT, hF⟩ := h
      refine PW_if_eq zd_M_test_63 h0 (fun q => ?_) (fun q => ?_)
      · have h := hT q
        refine PW_aload_n zd_M_test_74 rfl ?_
        refine PW_callV0v zd_M_test_75 zl_M_352 zk_M_fact zv_M_fact (fr' := 4) (by decide) (zs_58 _) rfl rfl (Nat.le_of_ble_eq_true rfl) ?_
        refine ms_mono h ?_
        rintro v σ1 ⟨rfl, h⟩
        refine ⟨rfl, ?_⟩
        refine PW_goto zd_M_test_78 ?_
        exact PW_sub (by exact ⟨rfl, rfl, rfl, trivial⟩) (hK48 _ _ h)
      · have h := hF q
        refine PW_aload_n zd_M_test_66 rfl ?_
        refine PW_callV0i zd_M_test_67 zl_M_348 zk_M_goesOn zv_M_goesOn (fr' := 3) (by decide) (zs_58 _) rfl rfl (Nat.le_of_ble_eq_true rfl) ?_
        refine ms_mono h ?_
        rintro v σ1 ⟨z, hz, rfl, h⟩
        refine ⟨z, rfl, ?_⟩
        refine PW_istore_n zd_M_test_70 rfl (by decide) (ls2 := [_, _, _]) rfl ?_
        refine PW_goto zd_M_test_71 ?_
        exact PW_sub (by exact ⟨rfl, rfl, rfl, trivial⟩) (hK48 _ _ h)
theorem kl_M_test_48 {G : zG} {mover : Int} {X : zX} {x2 : Int} {σ : zPH} (h : zLP1 (b_M_test_48 G mover X ) x2 σ) : PW G zm_M_test 5 X 48 [some (zr G 58), some (iZ mover), some (iZ x2)] [] σ := by
  obtain ⟨n, h⟩ := h
  induction n generalizing x2 σ with
  | zero => exact h.elim
  | succ n ih => exact kb_M_test_48   (fun _ _ h => ih h) h
def w_M_test (G : zG) (mover : Int) (X : zX) (σ : zPH) : Prop :=
  (zI (σ 58 10)) ∧
  ((σ 58 10) ≤ 0 →
    (0 ≤ ((6 * (σ 58 35)) + mover) ∧ ((6 * (σ 58 35)) + mover) < 12) ∧
    ∀ σ25 : zPH, σ25 = zupd σ 73 ((6 * (σ 58 35)) + mover).toNat (σ 58 34) →
    ∀ σ28 : zPH, σ28 = zupd σ25 58 39 0 →
    ∀ σ33 : zPH, σ33 = zupd σ28 58 40 0 →
    ∀ σ38 : zPH, σ38 = zupd σ33 58 41 0 →
    MS G zm_M_pushes 0 [zr G 58, iZ 0] σ38 (fun v σ43 =>
      v = none ∧
      zLP1 (b_M_test_48 G mover X ) 1 σ43)) ∧
  (0 < (σ 58 10) →
    X none σ)
set_option maxHeartbeats 4000000 in
theorem k_M_test {G : zG} {mover : Int} {X : zX} {σ : zPH} (h : w_M_test G mover X σ) : MS G zm_M_test 5 [zr G 58, iZ mover] σ X := by
  refine ms_of zk_M_test (Nat.le_of_ble_eq_true rfl) (ls := [some (zr G 58), some (iZ mover), none]) rfl ?_
  unfold w_M_test at h
  refine PW_aload_n zd_M_test_0 rfl ?_
  refine PW_getI zd_M_test_1 zf_M_42 (zs_58 _) rfl ?_
  obtain ⟨h0, hT, hF⟩ := h
  refine PW_if_le zd_M_test_4 h0 (fun q => ?_) (fun q => ?_)
  · have h := hT q
    refine PW_aload_n zd_M_test_8 rfl ?_
    refine PW_getR zd_M_test_9 zf_M_94 (zs_58 _) rfl ?_
    refine PW_bipush zd_M_test_12 rfl ?_
    refine PW_aload_n zd_M_test_14 rfl ?_
    refine PW_getI zd_M_test_15 zf_M_118 (zs_58 _) rfl ?_
    refine PW_imul zd_M_test_18 ?_
    refine PW_iload_n zd_M_test_19 rfl ?_
    refine PW_iadd zd_M_test_20 ?_
    refine PW_aload_n zd_M_test_21 rfl ?_
    refine PW_getI zd_M_test_22 zf_M_115 (zs_58 _) rfl ?_
    obtain ⟨h0, h⟩ := h
    refine PW_iastore zd_M_test_25 (zs_73 _) h0 ?_
    have h := h _ rfl
    refine PW_aload_n zd_M_test_26 rfl ?_
    refine PW_iconst zd_M_test_27 ?_
    refine PW_putI zd_M_test_28 zp_M_131 (zs_58 _) rfl ?_
    have h := h _ rfl
    refine PW_aload_n zd_M_test_31 rfl ?_
    refine PW_iconst zd_M_test_32 ?_
    refine PW_putI zd_M_test_33 zp_M_134 (zs_58 _) rfl ?_
    have h := h _ rfl
    refine PW_aload_n zd_M_test_36 rfl ?_
    refine PW_iconst zd_M_test_37 ?_
    refine PW_putZ zd_M_test_38 zp_M_137 (zs_58 _) rfl (by decide) ?_
    have h := h _ rfl
    refine PW_aload_n zd_M_test_41 rfl ?_
    refine PW_iconst zd_M_test_42 ?_
    refine PW_callV1v zd_M_test_43 zl_M_324 zk_M_pushes zv_M_pushes (fr' := 0) (by decide) (zs_58 _) rfl rfl (Nat.le_of_ble_eq_true rfl) ?_
    refine ms_mono h ?_
    rintro v σ1 ⟨rfl, h⟩
    refine ⟨rfl, ?_⟩
    refine PW_iconst zd_M_test_46 ?_
    refine PW_istore_n zd_M_test_47 rfl (by decide) (ls2 := [_, _, _]) rfl ?_
    exact PW_sub (by exact ⟨rfl, rfl, rfl, trivial⟩) (kl_M_test_48   h)
  · have h := hF q
    exact PW_vret zd_M_test_7 rfl h
def b_M_sizes_19 (G : zG) (X : zX) (σ : zPH) : Prop :=
  (zI (σ 58 10)) ∧
  ((σ 58 10) ≤ 0 →
    MS G zm_M_next 2 [zr G 58] σ (fun v σ28 =>
      v = none ∧
      MS G zm_M_number 3 [zr G 58, iZ 2, iZ 12] σ28 (fun v σ43 =>
        ∃ z43 : Int, v = some (iZ z43) ∧
        (0 ≤ (σ28 58 35) ∧ (σ28 58 35) < 2) ∧
        ∀ σ46 : zPH, σ46 = zupd σ43 60 (σ28 58 35).toNat z43 →
        MS G zm_M_number 3 [zr G 58, iZ 2, iZ 12] σ46 (fun v σ59 =>
          ∃ z59 : Int, v = some (iZ z59) ∧
          (0 ≤ (σ46 58 35) ∧ (σ46 58 35) < 2) ∧
          ∀ σ62 : zPH, σ62 = zupd σ59 61 (σ46 58 35).toNat z59 →
          MS G zm_M_ends 2 [zr G 58] σ62 (fun v σ64 =>
            v = none ∧
            X none σ64))))) ∧
  (0 < (σ 58 10) →
    X none σ)
set_option maxHeartbeats 4000000 in
theorem kb_M_sizes_19 {G : zG} {X : zX} {σ : zPH} (h : b_M_sizes_19 G  X   σ) : PW G zm_M_sizes 4 X 19 [some (zr G 58)] [] σ := by
  unfold b_M_sizes_19 at h
  refine PW_aload_n zd_M_sizes_19 rfl ?_
  refine PW_getI zd_M_sizes_20 zf_M_42 (zs_58 _) rfl ?_
  obtain ⟨h0, hT, hF⟩ := h
  refine PW_if_le zd_M_sizes_23 h0 (fun q => ?_) (fun q => ?_)
  · have h := hT q
    refine PW_aload_n zd_M_sizes_27 rfl ?_
    refine PW_callV0v zd_M_sizes_28 zl_M_317 zk_M_next zv_M_next (fr' := 2) (by decide) (zs_58 _) rfl rfl (Nat.le_of_ble_eq_true rfl) ?_
    refine ms_mono h ?_
    rintro v σ1 ⟨rfl, h⟩
    refine ⟨rfl, ?_⟩
    refine PW_aload_n zd_M_sizes_31 rfl ?_
    refine PW_getR zd_M_sizes_32 zf_M_54 (zs_58 _) rfl ?_
    refine PW_aload_n zd_M_sizes_35 rfl ?_
    refine PW_getI zd_M_sizes_36 zf_M_118 (zs_58 _) rfl ?_
    refine PW_aload_n zd_M_sizes_39 rfl ?_
    refine PW_iconst zd_M_sizes_40 ?_
    refine PW_bipush zd_M_sizes_41 rfl ?_
    refine PW_callV2i zd_M_sizes_43 zl_M_355 zk_M_number zv_M_number (fr' := 3) (by decide) (zs_58 _) rfl rfl (Nat.le_of_ble_eq_true rfl) ?_
    refine ms_mono h ?_
    rintro v σ1 ⟨z, rfl, h⟩
    refine ⟨z, rfl, ?_⟩
    obtain ⟨h0, h⟩ := h
    refine PW_iastore zd_M_sizes_46 (zs_60 _) h0 ?_
    have h := h _ rfl
    refine PW_aload_n zd_M_sizes_47 rfl ?_
    refine PW_getR zd_M_sizes_48 zf_M_57 (zs_58 _) rfl ?_
    refine PW_aload_n zd_M_sizes_51 rfl ?_
    refine PW_getI zd_M_sizes_52 zf_M_118 (zs_58 _) rfl ?_
    refine PW_aload_n zd_M_sizes_55 rfl ?_
    refine PW_iconst zd_M_sizes_56 ?_
    refine PW_bipush zd_M_sizes_57 rfl ?_
    refine PW_callV2i zd_M_sizes_59 zl_M_355 zk_M_number zv_M_number (fr' := 3) (by decide) (zs_58 _) rfl rfl (Nat.le_of_ble_eq_true rfl) ?_
    refine ms_mono h ?_
    rintro v σ1 ⟨z, rfl, h⟩
    refine ⟨z, rfl, ?_⟩
    obtain ⟨h0, h⟩ := h
    refine PW_iastore zd_M_sizes_62 (zs_61 _) h0 ?_
    have h := h _ rfl
    refine PW_aload_n zd_M_sizes_63 rfl ?_
    refine PW_callV0v zd_M_sizes_64 zl_M_359 zk_M_ends zv_M_ends (fr' := 2) (by decide) (zs_58 _) rfl rfl (Nat.le_of_ble_eq_true rfl) ?_
    refine ms_mono h ?_
    rintro v σ1 ⟨rfl, h⟩
    refine ⟨rfl, ?_⟩
    exact PW_vret zd_M_sizes_67 rfl h
  · have h := hF q
    exact PW_vret zd_M_sizes_26 rfl h
def w_M_sizes (G : zG) (X : zX) (σ : zPH) : Prop :=
  MS G zm_M_isWord 0 [zr G 58, lZ 1936292453] σ (fun v σ4 =>
    (v = some (iZ 0) ∧
      MS G zm_M_blame 0 [zr G 58, iZ 1, iZ (σ4 58 5)] σ4 (fun v σ16 =>
        v = none ∧
        b_M_sizes_19 G  X  σ16)) ∨
    (v = some (iZ 1) ∧
      b_M_sizes_19 G  X  σ4))
set_option maxHeartbeats 4000000 in
theorem k_M_sizes {G : zG} {X : zX} {σ : zPH} (h : w_M_sizes G  X σ) : MS G zm_M_sizes 4 [zr G 58] σ X := by
  refine ms_of zk_M_sizes (Nat.le_of_ble_eq_true rfl) (ls := [some (zr G 58)]) rfl ?_
  unfold w_M_sizes at h
  refine PW_aload_n zd_M_sizes_0 rfl ?_
  refine PW_ldc2 zd_M_sizes_1 zcst_M_238 ?_
  refine PW_callV1i zd_M_sizes_4 zl_M_314 zk_M_isWord zv_M_isWord (fr' := 0) (by decide) (zs_58 _) rfl rfl (Nat.le_of_ble_eq_true rfl) ?_
  refine ms_mono h ?_
  rintro v σ1 (⟨rfl, h⟩ | ⟨rfl, h⟩)
  · refine ⟨0, rfl, ?_⟩
    refine PW_if_ne zd_M_sizes_7 (by decide) (fun q => absurd rfl q) (fun _ => ?_)
    refine PW_aload_n zd_M_sizes_10 rfl ?_
    refine PW_iconst zd_M_sizes_11 ?_
    refine PW_aload_n zd_M_sizes_12 rfl ?_
    refine PW_getI zd_M_sizes_13 zf_M_26 (zs_58 _) rfl ?_
    refine PW_callV2v zd_M_sizes_16 zl_M_295 zk_M_blame zv_M_blame (fr' := 0) (by decide) (zs_58 _) rfl rfl (Nat.le_of_ble_eq_true rfl) ?_
    refine ms_mono h ?_
    rintro v σ1 ⟨rfl, h⟩
    refine ⟨rfl, ?_⟩
    exact PW_sub (by exact ⟨rfl, trivial⟩) (kb_M_sizes_19   h)
  · refine ⟨1, rfl, ?_⟩
    refine PW_if_ne zd_M_sizes_7 (by decide) (fun _ => ?_) (fun q => absurd q (by decide))
    exact PW_sub (by exact ⟨rfl, trivial⟩) (kb_M_sizes_19   h)
def b_M_place_151 (G : zG) (s number of to : Int) (X : zX) (x6 x7 x8 : Int) (σ : zPH) : Prop :=
  (zI (σ 58 10)) ∧
  ((σ 58 10) ≤ 0 →
    MS G zm_M_next 2 [zr G 58] σ (fun v σ160 =>
      v = none ∧
      (0 ≤ x8 ∧ x8 < 288) ∧
      ∀ σ170 : zPH, σ170 = zupd σ160 67 x8.toNat s →
      (0 ≤ x8 ∧ x8 < 288) ∧
      ∀ σ178 : zPH, σ178 = zupd σ170 68 x8.toNat number →
      (0 ≤ x8 ∧ x8 < 288) ∧
      ∀ σ186 : zPH, σ186 = zupd σ178 69 x8.toNat of →
      (0 ≤ x8 ∧ x8 < 288) ∧
      ∀ σ195 : zPH, σ195 = zupd σ186 70 x8.toNat to →
      (0 ≤ (σ195 58 35) ∧ (σ195 58 35) < 2) ∧
      (0 ≤ (σ195 58 35) ∧ (σ195 58 35) < 2) ∧
      ∀ σ208 : zPH, σ208 = zupd σ195 62 (σ195 58 35).toNat ((σ195 62 (σ195 58 35).toNat) + 1) →
      (zI s) ∧
      (s ≠ 7 →
        X none σ208) ∧
      (s = 7 →
        (0 ≤ ((8 * (σ208 58 35)) + number) ∧ ((8 * (σ208 58 35)) + number) < 16) ∧
        ∀ σ236 : zPH, σ236 = zupd σ208 72 ((8 * (σ208 58 35)) + number).toNat ((12 * x7) + x6) →
        X none σ236))) ∧
  (0 < (σ 58 10) →
    X none σ)
set_option maxHeartbeats 4000000 in
theorem kb_M_place_151 {G : zG} {s number of to : Int} {X : zX} {x6 x7 x8 : Int} {σ : zPH} (h : b_M_place_151 G s number of to X  x6 x7 x8 σ) : PW G zm_M_place 4 X 151 [some (zr G 58), some (iZ s), some (iZ number), some (iZ of), some (iZ to), none, some (iZ x6), some (iZ x7), some (iZ x8)] [] σ := by
  unfold b_M_place_151 at h
  refine PW_aload_n zd_M_place_151 rfl ?_
  refine PW_getI zd_M_place_152 zf_M_42 (zs_58 _) rfl ?_
  obtain ⟨h0, hT, hF⟩ := h
  refine PW_if_le zd_M_place_155 h0 (fun q => ?_) (fun q => ?_)
  · have h := hT q
    refine PW_aload_n zd_M_place_159 rfl ?_
    refine PW_callV0v zd_M_place_160 zl_M_317 zk_M_next zv_M_next (fr' := 2) (by decide) (zs_58 _) rfl rfl (Nat.le_of_ble_eq_true rfl) ?_
    refine ms_mono h ?_
    rintro v σ1 ⟨rfl, h⟩
    refine ⟨rfl, ?_⟩
    refine PW_aload_n zd_M_place_163 rfl ?_
    refine PW_getR zd_M_place_164 zf_M_75 (zs_58 _) rfl ?_
    refine PW_iload zd_M_place_167 rfl ?_
    refine PW_iload_n zd_M_place_169 rfl ?_
    obtain ⟨h0, h⟩ := h
    refine PW_iastore zd_M_place_170 (zs_67 _) h0 ?_
    have h := h _ rfl
    refine PW_aload_n zd_M_place_171 rfl ?_
    refine PW_getR zd_M_place_172 zf_M_78 (zs_58 _) rfl ?_
    refine PW_iload zd_M_place_175 rfl ?_
    refine PW_iload_n zd_M_place_177 rfl ?_
    obtain ⟨h0, h⟩ := h
    refine PW_iastore zd_M_place_178 (zs_68 _) h0 ?_
    have h := h _ rfl
    refine PW_aload_n zd_M_place_179 rfl ?_
    refine PW_getR zd_M_place_180 zf_M_81 (zs_58 _) rfl ?_
    refine PW_iload zd_M_place_183 rfl ?_
    refine PW_iload_n zd_M_place_185 rfl ?_
    obtain ⟨h0, h⟩ := h
    refine PW_iastore zd_M_place_186 (zs_69 _) h0 ?_
    have h := h _ rfl
    refine PW_aload_n zd_M_place_187 rfl ?_
    refine PW_getR zd_M_place_188 zf_M_84 (zs_58 _) rfl ?_
    refine PW_iload zd_M_place_191 rfl ?_
    refine PW_iload zd_M_place_193 rfl ?_
    obtain ⟨h0, h⟩ := h
    refine PW_iastore zd_M_place_195 (zs_70 _) h0 ?_
    have h := h _ rfl
    refine PW_aload_n zd_M_place_196 rfl ?_
    refine PW_getR zd_M_place_197 zf_M_60 (zs_58 _) rfl ?_
    refine PW_aload_n zd_M_place_200 rfl ?_
    refine PW_getI zd_M_place_201 zf_M_118 (zs_58 _) rfl ?_
    refine PW_dup2 zd_M_place_204 rfl rfl ?_
    obtain ⟨h0, h⟩ := h
    refine PW_iaload zd_M_place_205 (zs_62 _) h0 ?_
    refine PW_iconst zd_M_place_206 ?_
    refine PW_iadd zd_M_place_207 ?_
    obtain ⟨h0, h⟩ := h
    refine PW_iastore zd_M_place_208 (zs_62 _) h0 ?_
    have h := h _ rfl
    refine PW_iload_n zd_M_place_209 rfl ?_
    refine PW_bipush zd_M_place_210 rfl ?_
    obtain ⟨h0, hT, hF⟩ := h
    refine PW_icmp_ne zd_M_place_212 ⟨h0, by decide⟩ (fun q => ?_) (fun q => ?_)
    · have h := hT q
      exact PW_vret zd_M_place_237 rfl h
    · have h := hF q
      refine PW_aload_n zd_M_place_215 rfl ?_
      refine PW_getR zd_M_place_216 zf_M_91 (zs_58 _) rfl ?_
      refine PW_bipush zd_M_place_219 rfl ?_
      refine PW_aload_n zd_M_place_221 rfl ?_
      refine PW_getI zd_M_place_222 zf_M_118 (zs_58 _) rfl ?_
      refine PW_imul zd_M_place_225 ?_
      refine PW_iload_n zd_M_place_226 rfl ?_
      refine PW_iadd zd_M_place_227 ?_
      refine PW_bipush zd_M_place_228 rfl ?_
      refine PW_iload zd_M_place_230 rfl ?_
      refine PW_imul zd_M_place_232 ?_
      refine PW_iload zd_M_place_233 rfl ?_
      refine PW_iadd zd_M_place_235 ?_
      obtain ⟨h0, h⟩ := h
      refine PW_iastore zd_M_place_236 (zs_72 _) h0 ?_
      have h := h _ rfl
      exact PW_vret zd_M_place_237 rfl h
  · have h := hF q
    exact PW_vret zd_M_place_158 rfl h
def b_M_place_101 (G : zG) (s number of to : Int) (X : zX) (x5 x6 : Int) (σ : zPH) : Prop :=
  (zI (σ 58 10)) ∧
  ((σ 58 10) ≤ 0 →
    ∀ x7 : Int, x7 = (σ 58 9) →
    ∀ x8 : Int, x8 = (((144 * (σ 58 35)) + (12 * x7)) + x6) →
    (0 ≤ x8 ∧ x8 < 288) ∧
    (zI (σ 67 x8.toNat)) ∧
    ((σ 67 x8.toNat) = 0 →
      b_M_place_151 G s number of to X  x6 x7 x8 σ) ∧
    ((σ 67 x8.toNat) ≠ 0 →
      MS G zm_M_blame 0 [zr G 58, iZ 3, iZ x5] σ (fun v σ148 =>
        v = none ∧
        b_M_place_151 G s number of to X  x6 x7 x8 σ148))) ∧
  (0 < (σ 58 10) →
    X none σ)
set_option maxHeartbeats 4000000 in
theorem kb_M_place_101 {G : zG} {s number of to : Int} {X : zX} {x5 x6 : Int} {σ : zPH} (h : b_M_place_101 G s number of to X  x5 x6 σ) : PW G zm_M_place 4 X 101 [some (zr G 58), some (iZ s), some (iZ number), some (iZ of), some (iZ to), some (iZ x5), some (iZ x6), none, none] [] σ := by
  unfold b_M_place_101 at h
  refine PW_aload_n zd_M_place_101 rfl ?_
  refine PW_getI zd_M_place_102 zf_M_42 (zs_58 _) rfl ?_
  obtain ⟨h0, hT, hF⟩ := h
  refine PW_if_le zd_M_place_105 h0 (fun q => ?_) (fun q => ?_)
  · have h := hT q
    refine PW_aload_n zd_M_place_109 rfl ?_
    refine PW_getI zd_M_place_110 zf_M_39 (zs_58 _) rfl ?_
    refine PW_istore zd_M_place_113 rfl (by decide) (ls2 := [_, _, _, _, _, _, _, _, _]) rfl ?_
    have h := h _ rfl
    refine PW_sipush zd_M_place_115 rfl ?_
    refine PW_aload_n zd_M_place_118 rfl ?_
    refine PW_getI zd_M_place_119 zf_M_118 (zs_58 _) rfl ?_
    refine PW_imul zd_M_place_122 ?_
    refine PW_bipush zd_M_place_123 rfl ?_
    refine PW_iload zd_M_place_125 rfl ?_
    refine PW_imul zd_M_place_127 ?_
    refine PW_iadd zd_M_place_128 ?_
    refine PW_iload zd_M_place_129 rfl ?_
    refine PW_iadd zd_M_place_131 ?_
    refine PW_istore zd_M_place_132 rfl (by decide) (ls2 := [_, _, _, _, _, _, _, _, _]) rfl ?_
    have h := h _ rfl
    refine PW_aload_n zd_M_place_134 rfl ?_
    refine PW_getR zd_M_place_135 zf_M_75 (zs_58 _) rfl ?_
    refine PW_iload zd_M_place_138 rfl ?_
    obtain ⟨h0, h⟩ := h
    refine PW_iaload zd_M_place_140 (zs_67 _) h0 ?_
    obtain ⟨h0, hT, hF⟩ := h
    refine PW_if_eq zd_M_place_141 h0 (fun q => ?_) (fun q => ?_)
    · have h := hT q
      exact PW_sub (by exact ⟨rfl, rfl, rfl, rfl, rfl, rfl, rfl, rfl, trivial⟩) (kb_M_place_151   h)
    · have h := hF q
      refine PW_aload_n zd_M_place_144 rfl ?_
      refine PW_iconst zd_M_place_145 ?_
      refine PW_iload zd_M_place_146 rfl ?_
      refine PW_callV2v zd_M_place_148 zl_M_295 zk_M_blame zv_M_blame (fr' := 0) (by decide) (zs_58 _) rfl rfl (Nat.le_of_ble_eq_true rfl) ?_
      refine ms_mono h ?_
      rintro v σ1 ⟨rfl, h⟩
      refine ⟨rfl, ?_⟩
      exact PW_sub (by exact ⟨rfl, rfl, rfl, rfl, rfl, rfl, rfl, rfl, trivial⟩) (kb_M_place_151   h)
  · have h := hF q
    exact PW_vret zd_M_place_108 rfl h
def b_M_place_63 (G : zG) (s number of to : Int) (X : zX) (x5 x6 : Int) (σ : zPH) : Prop :=
  (zI (σ 58 10)) ∧
  ((σ 58 10) ≠ 0 →
    b_M_place_101 G s number of to X  x5 x6 σ) ∧
  ((σ 58 10) = 0 →
    (0 ≤ (σ 58 35) ∧ (σ 58 35) < 2) ∧
    MS G zm_M_is 0 [iZ (σ 58 9), iZ 0, iZ ((σ 61 (σ 58 35).toNat) - 1)] σ (fun v σ86 =>
      (v = some (iZ 0) ∧
        MS G zm_M_blame 0 [zr G 58, iZ 2, iZ (σ86 58 5)] σ86 (fun v σ98 =>
          v = none ∧
          b_M_place_101 G s number of to X  x5 x6 σ98)) ∨
      (v = some (iZ 1) ∧
        b_M_place_101 G s number of to X  x5 x6 σ86)))
set_option maxHeartbeats 4000000 in
theorem kb_M_place_63 {G : zG} {s number of to : Int} {X : zX} {x5 x6 : Int} {σ : zPH} (h : b_M_place_63 G s number of to X  x5 x6 σ) : PW G zm_M_place 4 X 63 [some (zr G 58), some (iZ s), some (iZ number), some (iZ of), some (iZ to), some (iZ x5), some (iZ x6), none, none] [] σ := by
  unfold b_M_place_63 at h
  refine PW_aload_n zd_M_place_63 rfl ?_
  refine PW_getI zd_M_place_64 zf_M_42 (zs_58 _) rfl ?_
  obtain ⟨h0, hT, hF⟩ := h
  refine PW_if_ne zd_M_place_67 h0 (fun q => ?_) (fun q => ?_)
  · have h := hT q
    exact PW_sub (by exact ⟨rfl, rfl, rfl, rfl, rfl, rfl, rfl, trivial⟩) (kb_M_place_101   h)
  · have h := hF q
    refine PW_aload_n zd_M_place_70 rfl ?_
    refine PW_getI zd_M_place_71 zf_M_39 (zs_58 _) rfl ?_
    refine PW_iconst zd_M_place_74 ?_
    refine PW_aload_n zd_M_place_75 rfl ?_
    refine PW_getR zd_M_place_76 zf_M_57 (zs_58 _) rfl ?_
    refine PW_aload_n zd_M_place_79 rfl ?_
    refine PW_getI zd_M_place_80 zf_M_118 (zs_58 _) rfl ?_
    obtain ⟨h0, h⟩ := h
    refine PW_iaload zd_M_place_83 (zs_61 _) h0 ?_
    refine PW_iconst zd_M_place_84 ?_
    refine PW_isub zd_M_place_85 ?_
    refine PW_callS3i zd_M_place_86 zl_M_320 zk_M_is zv_M_is (fr' := 0) (by decide) (Nat.le_of_ble_eq_true rfl) ?_
    refine ms_mono h ?_
    rintro v σ1 (⟨rfl, h⟩ | ⟨rfl, h⟩)
    · refine ⟨0, rfl, ?_⟩
      refine PW_if_ne zd_M_place_89 (by decide) (fun q => absurd rfl q) (fun _ => ?_)
      refine PW_aload_n zd_M_place_92 rfl ?_
      refine PW_iconst zd_M_place_93 ?_
      refine PW_aload_n zd_M_place_94 rfl ?_
      refine PW_getI zd_M_place_95 zf_M_26 (zs_58 _) rfl ?_
      refine PW_callV2v zd_M_place_98 zl_M_295 zk_M_blame zv_M_blame (fr' := 0) (by decide) (zs_58 _) rfl rfl (Nat.le_of_ble_eq_true rfl) ?_
      refine ms_mono h ?_
      rintro v σ1 ⟨rfl, h⟩
      refine ⟨rfl, ?_⟩
      exact PW_sub (by exact ⟨rfl, rfl, rfl, rfl, rfl, rfl, rfl, trivial⟩) (kb_M_place_101   h)
    · refine ⟨1, rfl, ?_⟩
      refine PW_if_ne zd_M_place_89 (by decide) (fun _ => ?_) (fun q => absurd q (by decide))
      exact PW_sub (by exact ⟨rfl, rfl, rfl, rfl, rfl, rfl, rfl, trivial⟩) (kb_M_place_101   h)
def w_M_place (G : zG) (s number of to : Int) (X : zX) (σ : zPH) : Prop :=
  MS G zm_M_mustWord 3 [zr G 58, lZ 24948] σ (fun v σ4 =>
    v = none ∧
    (zI (σ4 58 10)) ∧
    ((σ4 58 10) ≤ 0 →
      ∀ x5 : Int, x5 = (σ4 58 5) →
      (0 ≤ (σ4 58 35) ∧ (σ4 58 35) < 2) ∧
      MS G zm_M_number 3 [zr G 58, iZ 0, iZ ((σ4 60 (σ4 58 35).toNat) - 1)] σ4 (fun v σ34 =>
        ∃ z34 : Int, v = some (iZ z34) ∧
        (zI (σ34 58 10)) ∧
        ((σ34 58 10) ≠ 0 →
          b_M_place_63 G s number of to X  x5 z34 σ34) ∧
        ((σ34 58 10) = 0 →
          (zI (σ34 58 7)) ∧
          ((σ34 58 7) = 2 →
            b_M_place_63 G s number of to X  x5 z34 σ34) ∧
          ((σ34 58 7) ≠ 2 →
            MS G zm_M_blame 0 [zr G 58, iZ 1, iZ (σ34 58 5)] σ34 (fun v σ60 =>
              v = none ∧
              b_M_place_63 G s number of to X  x5 z34 σ60))))) ∧
    (0 < (σ4 58 10) →
      X none σ4))
set_option maxHeartbeats 4000000 in
theorem k_M_place {G : zG} {s number of to : Int} {X : zX} {σ : zPH} (h : w_M_place G s number of to X σ) : MS G zm_M_place 4 [zr G 58, iZ s, iZ number, iZ of, iZ to] σ X := by
  refine ms_of zk_M_place (Nat.le_of_ble_eq_true rfl) (ls := [some (zr G 58), some (iZ s), some (iZ number), some (iZ of), some (iZ to), none, none, none, none]) rfl ?_
  unfold w_M_place at h
  refine PW_aload_n zd_M_place_0 rfl ?_
  refine PW_ldc2 zd_M_place_1 zcst_M_258 ?_
  refine PW_callV1v zd_M_place_4 zl_M_336 zk_M_mustWord zv_M_mustWord (fr' := 3) (by decide) (zs_58 _) rfl rfl (Nat.le_of_ble_eq_true rfl) ?_
  refine ms_mono h ?_
  rintro v σ1 ⟨rfl, h⟩
  refine ⟨rfl, ?_⟩
  refine PW_aload_n zd_M_place_7 rfl ?_
  refine PW_getI zd_M_place_8 zf_M_42 (zs_58 _) rfl ?_
  obtain ⟨h0, hT, hF⟩ := h
  refine PW_if_le zd_M_place_11 h0 (fun q => ?_) (fun q => ?_)
  · have h := hT q
    refine PW_aload_n zd_M_place_15 rfl ?_
    refine PW_getI zd_M_place_16 zf_M_26 (zs_58 _) rfl ?_
    refine PW_istore zd_M_place_19 rfl (by decide) (ls2 := [_, _, _, _, _, _, _, _, _]) rfl ?_
    have h := h _ rfl
    refine PW_aload_n zd_M_place_21 rfl ?_
    refine PW_iconst zd_M_place_22 ?_
    refine PW_aload_n zd_M_place_23 rfl ?_
    refine PW_getR zd_M_place_24 zf_M_54 (zs_58 _) rfl ?_
    refine PW_aload_n zd_M_place_27 rfl ?_
    refine PW_getI zd_M_place_28 zf_M_118 (zs_58 _) rfl ?_
    obtain ⟨h0, h⟩ := h
    refine PW_iaload zd_M_place_31 (zs_60 _) h0 ?_
    refine PW_iconst zd_M_place_32 ?_
    refine PW_isub zd_M_place_33 ?_
    refine PW_callV2i zd_M_place_34 zl_M_355 zk_M_number zv_M_number (fr' := 3) (by decide) (zs_58 _) rfl rfl (Nat.le_of_ble_eq_true rfl) ?_
    refine ms_mono h ?_
    rintro v σ1 ⟨z, rfl, h⟩
    refine ⟨z, rfl, ?_⟩
    refine PW_istore zd_M_place_37 rfl (by decide) (ls2 := [_, _, _, _, _, _, _, _, _]) rfl ?_
    refine PW_aload_n zd_M_place_39 rfl ?_
    refine PW_getI zd_M_place_40 zf_M_42 (zs_58 _) rfl ?_
    obtain ⟨h0, hT, hF⟩ := h
    refine PW_if_ne zd_M_place_43 h0 (fun q => ?_) (fun q => ?_)
    · have h := hT q
      exact PW_sub (by exact ⟨rfl, rfl, rfl, rfl, rfl, rfl, rfl, trivial⟩) (kb_M_place_63   h)
    · have h := hF q
      refine PW_aload_n zd_M_place_46 rfl ?_
      refine PW_getI zd_M_place_47 zf_M_32 (zs_58 _) rfl ?_
      refine PW_iconst zd_M_place_50 ?_
      obtain ⟨h0, hT, hF⟩ := h
      refine PW_icmp_eq zd_M_place_51 ⟨h0, by decide⟩ (fun q => ?_) (fun q => ?_)
      · have h := hT q
        exact PW_sub (by exact ⟨rfl, rfl, rfl, rfl, rfl, rfl, rfl, trivial⟩) (kb_M_place_63   h)
      · have h := hF q
        refine PW_aload_n zd_M_place_54 rfl ?_
        refine PW_iconst zd_M_place_55 ?_
        refine PW_aload_n zd_M_place_56 rfl ?_
        refine PW_getI zd_M_place_57 zf_M_26 (zs_58 _) rfl ?_
        refine PW_callV2v zd_M_place_60 zl_M_295 zk_M_blame zv_M_blame (fr' := 0) (by decide) (zs_58 _) rfl rfl (Nat.le_of_ble_eq_true rfl) ?_
        refine ms_mono h ?_
        rintro v σ1 ⟨rfl, h⟩
        refine ⟨rfl, ?_⟩
        exact PW_sub (by exact ⟨rfl, rfl, rfl, rfl, rfl, rfl, rfl, trivial⟩) (kb_M_place_63   h)
  · have h := hF q
    exact PW_vret zd_M_place_14 rfl h
def b_M_counts_21 (G : zG) (n most : Int) (X : zX) (σ : zPH) : Prop :=
  (zI (σ 58 10)) ∧
  ((σ 58 10) ≠ 0 →
    X none σ) ∧
  ((σ 58 10) = 0 →
    MS G zm_M_next 2 [zr G 58] σ (fun v σ29 =>
      v = none ∧
      X none σ29))
set_option maxHeartbeats 4000000 in
theorem kb_M_counts_21 {G : zG} {n most : Int} {X : zX} {σ : zPH} (h : b_M_counts_21 G n most X   σ) : PW G zm_M_counts 3 X 21 [some (zr G 58), none, none] [] σ := by
  unfold b_M_counts_21 at h
  refine PW_aload_n zd_M_counts_21 rfl ?_
  refine PW_getI zd_M_counts_22 zf_M_42 (zs_58 _) rfl ?_
  obtain ⟨h0, hT, hF⟩ := h
  refine PW_if_ne zd_M_counts_25 h0 (fun q => ?_) (fun q => ?_)
  · have h := hT q
    exact PW_vret zd_M_counts_32 rfl h
  · have h := hF q
    refine PW_aload_n zd_M_counts_28 rfl ?_
    refine PW_callV0v zd_M_counts_29 zl_M_317 zk_M_next zv_M_next (fr' := 2) (by decide) (zs_58 _) rfl rfl (Nat.le_of_ble_eq_true rfl) ?_
    refine ms_mono h ?_
    rintro v σ1 ⟨rfl, h⟩
    refine ⟨rfl, ?_⟩
    exact PW_vret zd_M_counts_32 rfl h
def w_M_counts (G : zG) (n most : Int) (X : zX) (σ : zPH) : Prop :=
  (zI (σ 58 10)) ∧
  ((σ 58 10) ≠ 0 →
    b_M_counts_21 G n most X  σ) ∧
  ((σ 58 10) = 0 →
    (zI n ∧ zI most) ∧
    (n ≠ most →
      b_M_counts_21 G n most X  σ) ∧
    (n = most →
      MS G zm_M_blame 0 [zr G 58, iZ 5, iZ (σ 58 5)] σ (fun v σ18 =>
        v = none ∧
        b_M_counts_21 G n most X  σ18)))
set_option maxHeartbeats 4000000 in
theorem k_M_counts {G : zG} {n most : Int} {X : zX} {σ : zPH} (h : w_M_counts G n most X σ) : MS G zm_M_counts 3 [zr G 58, iZ n, iZ most] σ X := by
  refine ms_of zk_M_counts (Nat.le_of_ble_eq_true rfl) (ls := [some (zr G 58), some (iZ n), some (iZ most)]) rfl ?_
  unfold w_M_counts at h
  refine PW_aload_n zd_M_counts_0 rfl ?_
  refine PW_getI zd_M_counts_1 zf_M_42 (zs_58 _) rfl ?_
  obtain ⟨h0, hT, hF⟩ := h
  refine PW_if_ne zd_M_counts_4 h0 (fun q => ?_) (fun q => ?_)
  · have h := hT q
    exact PW_sub (by exact ⟨rfl, trivial⟩) (kb_M_counts_21   h)
  · have h := hF q
    refine PW_iload_n zd_M_counts_7 rfl ?_
    refine PW_iload_n zd_M_counts_8 rfl ?_
    obtain ⟨h0, hT, hF⟩ := h
    refine PW_icmp_ne zd_M_counts_9 h0 (fun q => ?_) (fun q => ?_)
    · have h := hT q
      exact PW_sub (by exact ⟨rfl, trivial⟩) (kb_M_counts_21   h)
    · have h := hF q
      refine PW_aload_n zd_M_counts_12 rfl ?_
      refine PW_iconst zd_M_counts_13 ?_
      refine PW_aload_n zd_M_counts_14 rfl ?_
      refine PW_getI zd_M_counts_15 zf_M_26 (zs_58 _) rfl ?_
      refine PW_callV2v zd_M_counts_18 zl_M_295 zk_M_blame zv_M_blame (fr' := 0) (by decide) (zs_58 _) rfl rfl (Nat.le_of_ble_eq_true rfl) ?_
      refine ms_mono h ?_
      rintro v σ1 ⟨rfl, h⟩
      refine ⟨rfl, ?_⟩
      exact PW_sub (by exact ⟨rfl, trivial⟩) (kb_M_counts_21   h)
def w_M_lamp (G : zG) (X : zX) (σ : zPH) : Prop :=
  (0 ≤ (σ 58 35) ∧ (σ 58 35) < 2) ∧
  MS G zm_M_counts 3 [zr G 58, iZ (σ 63 (σ 58 35).toNat), iZ 8] σ (fun v σ12 =>
    v = none ∧
    MS G zm_M_colour 3 [zr G 58] σ12 (fun v σ16 =>
      ∃ z16 : Int, v = some (iZ z16) ∧
      MS G zm_M_ways 3 [zr G 58] σ16 (fun v σ21 =>
        ∃ z21 : Int, v = some (iZ z21) ∧
        (0 ≤ (σ21 58 35) ∧ (σ21 58 35) < 2) ∧
        MS G zm_M_place 4 [zr G 58, iZ 1, iZ (σ21 63 (σ21 58 35).toNat), iZ z16, iZ z21] σ21 (fun v σ38 =>
          v = none ∧
          (0 ≤ (σ38 58 35) ∧ (σ38 58 35) < 2) ∧
          (0 ≤ (σ38 58 35) ∧ (σ38 58 35) < 2) ∧
          ∀ σ53 : zPH, σ53 = zupd σ38 63 (σ38 58 35).toNat ((σ38 63 (σ38 58 35).toNat) + 1) →
          X none σ53))))
set_option maxHeartbeats 4000000 in
theorem k_M_lamp {G : zG} {X : zX} {σ : zPH} (h : w_M_lamp G  X σ) : MS G zm_M_lamp 5 [zr G 58] σ X := by
  refine ms_of zk_M_lamp (Nat.le_of_ble_eq_true rfl) (ls := [some (zr G 58), none, none]) rfl ?_
  unfold w_M_lamp at h
  refine PW_aload_n zd_M_lamp_0 rfl ?_
  refine PW_aload_n zd_M_lamp_1 rfl ?_
  refine PW_getR zd_M_lamp_2 zf_M_63 (zs_58 _) rfl ?_
  refine PW_aload_n zd_M_lamp_5 rfl ?_
  refine PW_getI zd_M_lamp_6 zf_M_118 (zs_58 _) rfl ?_
  obtain ⟨h0, h⟩ := h
  refine PW_iaload zd_M_lamp_9 (zs_63 _) h0 ?_
  refine PW_bipush zd_M_lamp_10 rfl ?_
  refine PW_callV2v zd_M_lamp_12 zl_M_362 zk_M_counts zv_M_counts (fr' := 3) (by decide) (zs_58 _) rfl rfl (Nat.le_of_ble_eq_true rfl) ?_
  refine ms_mono h ?_
  rintro v σ1 ⟨rfl, h⟩
  refine ⟨rfl, ?_⟩
  refine PW_aload_n zd_M_lamp_15 rfl ?_
  refine PW_callV0i zd_M_lamp_16 zl_M_340 zk_M_colour zv_M_colour (fr' := 3) (by decide) (zs_58 _) rfl rfl (Nat.le_of_ble_eq_true rfl) ?_
  refine ms_mono h ?_
  rintro v σ1 ⟨z, rfl, h⟩
  refine ⟨z, rfl, ?_⟩
  refine PW_istore_n zd_M_lamp_19 rfl (by decide) (ls2 := [_, _, _]) rfl ?_
  refine PW_aload_n zd_M_lamp_20 rfl ?_
  refine PW_callV0i zd_M_lamp_21 zl_M_365 zk_M_ways zv_M_ways (fr' := 3) (by decide) (zs_58 _) rfl rfl (Nat.le_of_ble_eq_true rfl) ?_
  refine ms_mono h ?_
  rintro v σ1 ⟨z, rfl, h⟩
  refine ⟨z, rfl, ?_⟩
  refine PW_istore_n zd_M_lamp_24 rfl (by decide) (ls2 := [_, _, _]) rfl ?_
  refine PW_aload_n zd_M_lamp_25 rfl ?_
  refine PW_iconst zd_M_lamp_26 ?_
  refine PW_aload_n zd_M_lamp_27 rfl ?_
  refine PW_getR zd_M_lamp_28 zf_M_63 (zs_58 _) rfl ?_
  refine PW_aload_n zd_M_lamp_31 rfl ?_
  refine PW_getI zd_M_lamp_32 zf_M_118 (zs_58 _) rfl ?_
  obtain ⟨h0, h⟩ := h
  refine PW_iaload zd_M_lamp_35 (zs_63 _) h0 ?_
  refine PW_iload_n zd_M_lamp_36 rfl ?_
  refine PW_iload_n zd_M_lamp_37 rfl ?_
  refine PW_callV4v zd_M_lamp_38 zl_M_368 zk_M_place zv_M_place (fr' := 4) (by decide) (zs_58 _) rfl rfl (Nat.le_of_ble_eq_true rfl) ?_
  refine ms_mono h ?_
  rintro v σ1 ⟨rfl, h⟩
  refine ⟨rfl, ?_⟩
  refine PW_aload_n zd_M_lamp_41 rfl ?_
  refine PW_getR zd_M_lamp_42 zf_M_63 (zs_58 _) rfl ?_
  refine PW_aload_n zd_M_lamp_45 rfl ?_
  refine PW_getI zd_M_lamp_46 zf_M_118 (zs_58 _) rfl ?_
  refine PW_dup2 zd_M_lamp_49 rfl rfl ?_
  obtain ⟨h0, h⟩ := h
  refine PW_iaload zd_M_lamp_50 (zs_63 _) h0 ?_
  refine PW_iconst zd_M_lamp_51 ?_
  refine PW_iadd zd_M_lamp_52 ?_
  obtain ⟨h0, h⟩ := h
  refine PW_iastore zd_M_lamp_53 (zs_63 _) h0 ?_
  have h := h _ rfl
  exact PW_vret zd_M_lamp_54 rfl h
def w_M_mirror (G : zG) (s : Int) (X : zX) (σ : zPH) : Prop :=
  (0 ≤ (σ 58 35) ∧ (σ 58 35) < 2) ∧
  MS G zm_M_counts 3 [zr G 58, iZ (σ 64 (σ 58 35).toNat), iZ 8] σ (fun v σ12 =>
    v = none ∧
    MS G zm_M_forms 3 [zr G 58] σ12 (fun v σ16 =>
      ∃ z16 : Int, v = some (iZ z16) ∧
      (0 ≤ (σ16 58 35) ∧ (σ16 58 35) < 2) ∧
      MS G zm_M_place 4 [zr G 58, iZ s, iZ (σ16 64 (σ16 58 35).toNat), iZ z16, iZ (-1)] σ16 (fun v σ33 =>
        v = none ∧
        (0 ≤ (σ33 58 35) ∧ (σ33 58 35) < 2) ∧
        (0 ≤ (σ33 58 35) ∧ (σ33 58 35) < 2) ∧
        ∀ σ48 : zPH, σ48 = zupd σ33 64 (σ33 58 35).toNat ((σ33 64 (σ33 58 35).toNat) + 1) →
        X none σ48)))
set_option maxHeartbeats 4000000 in
theorem k_M_mirror {G : zG} {s : Int} {X : zX} {σ : zPH} (h : w_M_mirror G s X σ) : MS G zm_M_mirror 5 [zr G 58, iZ s] σ X := by
  refine ms_of zk_M_mirror (Nat.le_of_ble_eq_true rfl) (ls := [some (zr G 58), some (iZ s), none]) rfl ?_
  unfold w_M_mirror at h
  refine PW_aload_n zd_M_mirror_0 rfl ?_
  refine PW_aload_n zd_M_mirror_1 rfl ?_
  refine PW_getR zd_M_mirror_2 zf_M_66 (zs_58 _) rfl ?_
  refine PW_aload_n zd_M_mirror_5 rfl ?_
  refine PW_getI zd_M_mirror_6 zf_M_118 (zs_58 _) rfl ?_
  obtain ⟨h0, h⟩ := h
  refine PW_iaload zd_M_mirror_9 (zs_64 _) h0 ?_
  refine PW_bipush zd_M_mirror_10 rfl ?_
  refine PW_callV2v zd_M_mirror_12 zl_M_362 zk_M_counts zv_M_counts (fr' := 3) (by decide) (zs_58 _) rfl rfl (Nat.le_of_ble_eq_true rfl) ?_
  refine ms_mono h ?_
  rintro v σ1 ⟨rfl, h⟩
  refine ⟨rfl, ?_⟩
  refine PW_aload_n zd_M_mirror_15 rfl ?_
  refine PW_callV0i zd_M_mirror_16 zl_M_372 zk_M_forms zv_M_forms (fr' := 3) (by decide) (zs_58 _) rfl rfl (Nat.le_of_ble_eq_true rfl) ?_
  refine ms_mono h ?_
  rintro v σ1 ⟨z, rfl, h⟩
  refine ⟨z, rfl, ?_⟩
  refine PW_istore_n zd_M_mirror_19 rfl (by decide) (ls2 := [_, _, _]) rfl ?_
  refine PW_aload_n zd_M_mirror_20 rfl ?_
  refine PW_iload_n zd_M_mirror_21 rfl ?_
  refine PW_aload_n zd_M_mirror_22 rfl ?_
  refine PW_getR zd_M_mirror_23 zf_M_66 (zs_58 _) rfl ?_
  refine PW_aload_n zd_M_mirror_26 rfl ?_
  refine PW_getI zd_M_mirror_27 zf_M_118 (zs_58 _) rfl ?_
  obtain ⟨h0, h⟩ := h
  refine PW_iaload zd_M_mirror_30 (zs_64 _) h0 ?_
  refine PW_iload_n zd_M_mirror_31 rfl ?_
  refine PW_iconst zd_M_mirror_32 ?_
  refine PW_callV4v zd_M_mirror_33 zl_M_368 zk_M_place zv_M_place (fr' := 4) (by decide) (zs_58 _) rfl rfl (Nat.le_of_ble_eq_true rfl) ?_
  refine ms_mono h ?_
  rintro v σ1 ⟨rfl, h⟩
  refine ⟨rfl, ?_⟩
  refine PW_aload_n zd_M_mirror_36 rfl ?_
  refine PW_getR zd_M_mirror_37 zf_M_66 (zs_58 _) rfl ?_
  refine PW_aload_n zd_M_mirror_40 rfl ?_
  refine PW_getI zd_M_mirror_41 zf_M_118 (zs_58 _) rfl ?_
  refine PW_dup2 zd_M_mirror_44 rfl rfl ?_
  obtain ⟨h0, h⟩ := h
  refine PW_iaload zd_M_mirror_45 (zs_64 _) h0 ?_
  refine PW_iconst zd_M_mirror_46 ?_
  refine PW_iadd zd_M_mirror_47 ?_
  obtain ⟨h0, h⟩ := h
  refine PW_iastore zd_M_mirror_48 (zs_64 _) h0 ?_
  have h := h _ rfl
  exact PW_vret zd_M_mirror_49 rfl h
def b_M_eye_77 (G : zG) (X : zX) (σ : zPH) : Prop :=
  (zI (σ 58 10)) ∧
  ((σ 58 10) ≤ 0 →
    (0 ≤ (σ 58 35) ∧ (σ 58 35) < 2) ∧
    (0 ≤ ((8 * (σ 58 35)) + (σ 66 (σ 58 35).toNat)) ∧ ((8 * (σ 58 35)) + (σ 66 (σ 58 35).toNat)) < 16) ∧
    ∀ σ110 : zPH, σ110 = zupd σ 71 ((8 * (σ 58 35)) + (σ 66 (σ 58 35).toNat)).toNat (σ 58 8) →
    MS G zm_M_next 2 [zr G 58] σ110 (fun v σ112 =>
      v = none ∧
      (0 ≤ (σ112 58 35) ∧ (σ112 58 35) < 2) ∧
      MS G zm_M_place 4 [zr G 58, iZ 7, iZ (σ112 66 (σ112 58 35).toNat), iZ (-1), iZ (-1)] σ112 (fun v σ129 =>
        v = none ∧
        (0 ≤ (σ129 58 35) ∧ (σ129 58 35) < 2) ∧
        (0 ≤ (σ129 58 35) ∧ (σ129 58 35) < 2) ∧
        ∀ σ144 : zPH, σ144 = zupd σ129 66 (σ129 58 35).toNat ((σ129 66 (σ129 58 35).toNat) + 1) →
        X none σ144))) ∧
  (0 < (σ 58 10) →
    X none σ)
set_option maxHeartbeats 4000000 in
theorem kb_M_eye_77 {G : zG} {X : zX} {σ : zPH} (h : b_M_eye_77 G  X   σ) : PW G zm_M_eye 5 X 77 [some (zr G 58)] [] σ := by
  unfold b_M_eye_77 at h
  refine PW_aload_n zd_M_eye_77 rfl ?_
  refine PW_getI zd_M_eye_78 zf_M_42 (zs_58 _) rfl ?_
  obtain ⟨h0, hT, hF⟩ := h
  refine PW_if_le zd_M_eye_81 h0 (fun q => ?_) (fun q => ?_)
  · have h := hT q
    refine PW_aload_n zd_M_eye_85 rfl ?_
    refine PW_getR zd_M_eye_86 zf_M_87 (zs_58 _) rfl ?_
    refine PW_bipush zd_M_eye_89 rfl ?_
    refine PW_aload_n zd_M_eye_91 rfl ?_
    refine PW_getI zd_M_eye_92 zf_M_118 (zs_58 _) rfl ?_
    refine PW_imul zd_M_eye_95 ?_
    refine PW_aload_n zd_M_eye_96 rfl ?_
    refine PW_getR zd_M_eye_97 zf_M_72 (zs_58 _) rfl ?_
    refine PW_aload_n zd_M_eye_100 rfl ?_
    refine PW_getI zd_M_eye_101 zf_M_118 (zs_58 _) rfl ?_
    obtain ⟨h0, h⟩ := h
    refine PW_iaload zd_M_eye_104 (zs_66 _) h0 ?_
    refine PW_iadd zd_M_eye_105 ?_
    refine PW_aload_n zd_M_eye_106 rfl ?_
    refine PW_getL zd_M_eye_107 zf_M_35 (zs_58 _) rfl ?_
    obtain ⟨h0, h⟩ := h
    refine PW_lastore zd_M_eye_110 (zs_71 _) h0 ?_
    have h := h _ rfl
    refine PW_aload_n zd_M_eye_111 rfl ?_
    refine PW_callV0v zd_M_eye_112 zl_M_317 zk_M_next zv_M_next (fr' := 2) (by decide) (zs_58 _) rfl rfl (Nat.le_of_ble_eq_true rfl) ?_
    refine ms_mono h ?_
    rintro v σ1 ⟨rfl, h⟩
    refine ⟨rfl, ?_⟩
    refine PW_aload_n zd_M_eye_115 rfl ?_
    refine PW_bipush zd_M_eye_116 rfl ?_
    refine PW_aload_n zd_M_eye_118 rfl ?_
    refine PW_getR zd_M_eye_119 zf_M_72 (zs_58 _) rfl ?_
    refine PW_aload_n zd_M_eye_122 rfl ?_
    refine PW_getI zd_M_eye_123 zf_M_118 (zs_58 _) rfl ?_
    obtain ⟨h0, h⟩ := h
    refine PW_iaload zd_M_eye_126 (zs_66 _) h0 ?_
    refine PW_iconst zd_M_eye_127 ?_
    refine PW_iconst zd_M_eye_128 ?_
    refine PW_callV4v zd_M_eye_129 zl_M_368 zk_M_place zv_M_place (fr' := 4) (by decide) (zs_58 _) rfl rfl (Nat.le_of_ble_eq_true rfl) ?_
    refine ms_mono h ?_
    rintro v σ1 ⟨rfl, h⟩
    refine ⟨rfl, ?_⟩
    refine PW_aload_n zd_M_eye_132 rfl ?_
    refine PW_getR zd_M_eye_133 zf_M_72 (zs_58 _) rfl ?_
    refine PW_aload_n zd_M_eye_136 rfl ?_
    refine PW_getI zd_M_eye_137 zf_M_118 (zs_58 _) rfl ?_
    refine PW_dup2 zd_M_eye_140 rfl rfl ?_
    obtain ⟨h0, h⟩ := h
    refine PW_iaload zd_M_eye_141 (zs_66 _) h0 ?_
    refine PW_iconst zd_M_eye_142 ?_
    refine PW_iadd zd_M_eye_143 ?_
    obtain ⟨h0, h⟩ := h
    refine PW_iastore zd_M_eye_144 (zs_66 _) h0 ?_
    have h := h _ rfl
    exact PW_vret zd_M_eye_145 rfl h
  · have h := hF q
    exact PW_vret zd_M_eye_84 rfl h
def b_M_eye_49 (G : zG) (X : zX) (σ : zPH) : Prop :=
  (zI (σ 58 10)) ∧
  ((σ 58 10) ≠ 0 →
    b_M_eye_77 G  X  σ) ∧
  ((σ 58 10) = 0 →
    MS G zm_M_eyeOf 0 [zr G 58, lZ (σ 58 8)] σ (fun v σ61 =>
      ∃ z61 : Int, v = some (iZ z61) ∧
      (zI z61) ∧
      (z61 = (-1) →
        b_M_eye_77 G  X  σ61) ∧
      (z61 ≠ (-1) →
        MS G zm_M_blame 0 [zr G 58, iZ 3, iZ (σ61 58 5)] σ61 (fun v σ74 =>
          v = none ∧
          b_M_eye_77 G  X  σ74))))
set_option maxHeartbeats 4000000 in
theorem kb_M_eye_49 {G : zG} {X : zX} {σ : zPH} (h : b_M_eye_49 G  X   σ) : PW G zm_M_eye 5 X 49 [some (zr G 58)] [] σ := by
  unfold b_M_eye_49 at h
  refine PW_aload_n zd_M_eye_49 rfl ?_
  refine PW_getI zd_M_eye_50 zf_M_42 (zs_58 _) rfl ?_
  obtain ⟨h0, hT, hF⟩ := h
  refine PW_if_ne zd_M_eye_53 h0 (fun q => ?_) (fun q => ?_)
  · have h := hT q
    exact PW_sub (by exact ⟨rfl, trivial⟩) (kb_M_eye_77   h)
  · have h := hF q
    refine PW_aload_n zd_M_eye_56 rfl ?_
    refine PW_aload_n zd_M_eye_57 rfl ?_
    refine PW_getL zd_M_eye_58 zf_M_35 (zs_58 _) rfl ?_
    refine PW_callV1i zd_M_eye_61 zl_M_375 zk_M_eyeOf zv_M_eyeOf (fr' := 0) (by decide) (zs_58 _) rfl rfl (Nat.le_of_ble_eq_true rfl) ?_
    refine ms_mono h ?_
    rintro v σ1 ⟨z, rfl, h⟩
    refine ⟨z, rfl, ?_⟩
    refine PW_iconst zd_M_eye_64 ?_
    obtain ⟨h0, hT, hF⟩ := h
    refine PW_icmp_eq zd_M_eye_65 ⟨h0, by decide⟩ (fun q => ?_) (fun q => ?_)
    · have h := hT q
      exact PW_sub (by exact ⟨rfl, trivial⟩) (kb_M_eye_77   h)
    · have h := hF q
      refine PW_aload_n zd_M_eye_68 rfl ?_
      refine PW_iconst zd_M_eye_69 ?_
      refine PW_aload_n zd_M_eye_70 rfl ?_
      refine PW_getI zd_M_eye_71 zf_M_26 (zs_58 _) rfl ?_
      refine PW_callV2v zd_M_eye_74 zl_M_295 zk_M_blame zv_M_blame (fr' := 0) (by decide) (zs_58 _) rfl rfl (Nat.le_of_ble_eq_true rfl) ?_
      refine ms_mono h ?_
      rintro v σ1 ⟨rfl, h⟩
      refine ⟨rfl, ?_⟩
      exact PW_sub (by exact ⟨rfl, trivial⟩) (kb_M_eye_77   h)
def b_M_eye_40 (G : zG) (X : zX) (σ : zPH) : Prop :=
  MS G zm_M_blame 0 [zr G 58, iZ 1, iZ (σ 58 5)] σ (fun v σ46 =>
    v = none ∧
    b_M_eye_49 G  X  σ46)
set_option maxHeartbeats 4000000 in
theorem kb_M_eye_40 {G : zG} {X : zX} {σ : zPH} (h : b_M_eye_40 G  X   σ) : PW G zm_M_eye 5 X 40 [some (zr G 58)] [] σ := by
  unfold b_M_eye_40 at h
  refine PW_aload_n zd_M_eye_40 rfl ?_
  refine PW_iconst zd_M_eye_41 ?_
  refine PW_aload_n zd_M_eye_42 rfl ?_
  refine PW_getI zd_M_eye_43 zf_M_26 (zs_58 _) rfl ?_
  refine PW_callV2v zd_M_eye_46 zl_M_295 zk_M_blame zv_M_blame (fr' := 0) (by decide) (zs_58 _) rfl rfl (Nat.le_of_ble_eq_true rfl) ?_
  refine ms_mono h ?_
  rintro v σ1 ⟨rfl, h⟩
  refine ⟨rfl, ?_⟩
  exact PW_sub (by exact ⟨rfl, trivial⟩) (kb_M_eye_49   h)
def w_M_eye (G : zG) (X : zX) (σ : zPH) : Prop :=
  (0 ≤ (σ 58 35) ∧ (σ 58 35) < 2) ∧
  MS G zm_M_counts 3 [zr G 58, iZ (σ 66 (σ 58 35).toNat), iZ 8] σ (fun v σ12 =>
    v = none ∧
    (zI (σ12 58 10)) ∧
    ((σ12 58 10) ≠ 0 →
      b_M_eye_49 G  X  σ12) ∧
    ((σ12 58 10) = 0 →
      (zI (σ12 58 7)) ∧
      ((σ12 58 7) ≠ 1 →
        b_M_eye_40 G  X  σ12) ∧
      ((σ12 58 7) = 1 →
        MS G zm_M_isOwn 0 [lZ (σ12 58 8)] σ12 (fun v σ34 =>
          (v = some (iZ 0) ∧
            b_M_eye_49 G  X  σ34) ∨
          (v = some (iZ 1) ∧
            b_M_eye_40 G  X  σ34)))))
set_option maxHeartbeats 4000000 in
theorem k_M_eye {G : zG} {X : zX} {σ : zPH} (h : w_M_eye G  X σ) : MS G zm_M_eye 5 [zr G 58] σ X := by
  refine ms_of zk_M_eye (Nat.le_of_ble_eq_true rfl) (ls := [some (zr G 58)]) rfl ?_
  unfold w_M_eye at h
  refine PW_aload_n zd_M_eye_0 rfl ?_
  refine PW_aload_n zd_M_eye_1 rfl ?_
  refine PW_getR zd_M_eye_2 zf_M_72 (zs_58 _) rfl ?_
  refine PW_aload_n zd_M_eye_5 rfl ?_
  refine PW_getI zd_M_eye_6 zf_M_118 (zs_58 _) rfl ?_
  obtain ⟨h0, h⟩ := h
  refine PW_iaload zd_M_eye_9 (zs_66 _) h0 ?_
  refine PW_bipush zd_M_eye_10 rfl ?_
  refine PW_callV2v zd_M_eye_12 zl_M_362 zk_M_counts zv_M_counts (fr' := 3) (by decide) (zs_58 _) rfl rfl (Nat.le_of_ble_eq_true rfl) ?_
  refine ms_mono h ?_
  rintro v σ1 ⟨rfl, h⟩
  refine ⟨rfl, ?_⟩
  refine PW_aload_n zd_M_eye_15 rfl ?_
  refine PW_getI zd_M_eye_16 zf_M_42 (zs_58 _) rfl ?_
  obtain ⟨h0, hT, hF⟩ := h
  refine PW_if_ne zd_M_eye_19 h0 (fun q => ?_) (fun q => ?_)
  · have h := hT q
    exact PW_sub (by exact ⟨rfl, trivial⟩) (kb_M_eye_49   h)
  · have h := hF q
    refine PW_aload_n zd_M_eye_22 rfl ?_
    refine PW_getI zd_M_eye_23 zf_M_32 (zs_58 _) rfl ?_
    refine PW_iconst zd_M_eye_26 ?_
    obtain ⟨h0, hT, hF⟩ := h
    refine PW_icmp_ne zd_M_eye_27 ⟨h0, by decide⟩ (fun q => ?_) (fun q => ?_)
    · have h := hT q
      exact PW_sub (by exact ⟨rfl, trivial⟩) (kb_M_eye_40   h)
    · have h := hF q
      refine PW_aload_n zd_M_eye_30 rfl ?_
      refine PW_getL zd_M_eye_31 zf_M_35 (zs_58 _) rfl ?_
      refine PW_callS1i zd_M_eye_34 zl_M_310 zk_M_isOwn zv_M_isOwn (fr' := 0) (by decide) (Nat.le_of_ble_eq_true rfl) ?_
      refine ms_mono h ?_
      rintro v σ1 (⟨rfl, h⟩ | ⟨rfl, h⟩)
      · refine ⟨0, rfl, ?_⟩
        refine PW_if_eq zd_M_eye_37 (by decide) (fun _ => ?_) (fun q => absurd rfl q)
        exact PW_sub (by exact ⟨rfl, trivial⟩) (kb_M_eye_49   h)
      · refine ⟨1, rfl, ?_⟩
        refine PW_if_eq zd_M_eye_37 (by decide) (fun q => absurd q (by decide)) (fun _ => ?_)
        exact PW_sub (by exact ⟨rfl, trivial⟩) (kb_M_eye_40   h)
def b_M_mover_29 (G : zG) (s : Int) (X : zX) (s0 : Int) (σ : zPH) : Prop :=
  MS G zm_M_mustWord 3 [zr G 58, lZ 2003330414] σ (fun v σ34 =>
    v = none ∧
    (0 ≤ (σ34 58 35) ∧ (σ34 58 35) < 2) ∧
    MS G zm_M_test 5 [zr G 58, iZ (σ34 65 (σ34 58 35).toNat)] σ34 (fun v σ47 =>
      v = none ∧
      (0 ≤ (σ47 58 35) ∧ (σ47 58 35) < 2) ∧
      MS G zm_M_place 4 [zr G 58, iZ s, iZ (σ47 65 (σ47 58 35).toNat), iZ s0, iZ (-1)] σ47 (fun v σ63 =>
        v = none ∧
        (0 ≤ (σ63 58 35) ∧ (σ63 58 35) < 2) ∧
        (0 ≤ (σ63 58 35) ∧ (σ63 58 35) < 2) ∧
        ∀ σ78 : zPH, σ78 = zupd σ63 65 (σ63 58 35).toNat ((σ63 65 (σ63 58 35).toNat) + 1) →
        X none σ78)))
set_option maxHeartbeats 4000000 in
theorem kb_M_mover_29 {G : zG} {s : Int} {X : zX} {s0 : Int} {σ : zPH} (h : b_M_mover_29 G s X  s0 σ) : PW G zm_M_mover 6 X 29 [some (zr G 58), some (iZ s), none] [iZ s0] σ := by
  unfold b_M_mover_29 at h
  refine PW_istore_n zd_M_mover_29 rfl (by decide) (ls2 := [_, _, _]) rfl ?_
  refine PW_aload_n zd_M_mover_30 rfl ?_
  refine PW_ldc2 zd_M_mover_31 zcst_M_260 ?_
  refine PW_callV1v zd_M_mover_34 zl_M_336 zk_M_mustWord zv_M_mustWord (fr' := 3) (by decide) (zs_58 _) rfl rfl (Nat.le_of_ble_eq_true rfl) ?_
  refine ms_mono h ?_
  rintro v σ1 ⟨rfl, h⟩
  refine ⟨rfl, ?_⟩
  refine PW_aload_n zd_M_mover_37 rfl ?_
  refine PW_aload_n zd_M_mover_38 rfl ?_
  refine PW_getR zd_M_mover_39 zf_M_69 (zs_58 _) rfl ?_
  refine PW_aload_n zd_M_mover_42 rfl ?_
  refine PW_getI zd_M_mover_43 zf_M_118 (zs_58 _) rfl ?_
  obtain ⟨h0, h⟩ := h
  refine PW_iaload zd_M_mover_46 (zs_65 _) h0 ?_
  refine PW_callV1v zd_M_mover_47 zl_M_379 zk_M_test zv_M_test (fr' := 5) (by decide) (zs_58 _) rfl rfl (Nat.le_of_ble_eq_true rfl) ?_
  refine ms_mono h ?_
  rintro v σ1 ⟨rfl, h⟩
  refine ⟨rfl, ?_⟩
  refine PW_aload_n zd_M_mover_50 rfl ?_
  refine PW_iload_n zd_M_mover_51 rfl ?_
  refine PW_aload_n zd_M_mover_52 rfl ?_
  refine PW_getR zd_M_mover_53 zf_M_69 (zs_58 _) rfl ?_
  refine PW_aload_n zd_M_mover_56 rfl ?_
  refine PW_getI zd_M_mover_57 zf_M_118 (zs_58 _) rfl ?_
  obtain ⟨h0, h⟩ := h
  refine PW_iaload zd_M_mover_60 (zs_65 _) h0 ?_
  refine PW_iload_n zd_M_mover_61 rfl ?_
  refine PW_iconst zd_M_mover_62 ?_
  refine PW_callV4v zd_M_mover_63 zl_M_368 zk_M_place zv_M_place (fr' := 4) (by decide) (zs_58 _) rfl rfl (Nat.le_of_ble_eq_true rfl) ?_
  refine ms_mono h ?_
  rintro v σ1 ⟨rfl, h⟩
  refine ⟨rfl, ?_⟩
  refine PW_aload_n zd_M_mover_66 rfl ?_
  refine PW_getR zd_M_mover_67 zf_M_69 (zs_58 _) rfl ?_
  refine PW_aload_n zd_M_mover_70 rfl ?_
  refine PW_getI zd_M_mover_71 zf_M_118 (zs_58 _) rfl ?_
  refine PW_dup2 zd_M_mover_74 rfl rfl ?_
  obtain ⟨h0, h⟩ := h
  refine PW_iaload zd_M_mover_75 (zs_65 _) h0 ?_
  refine PW_iconst zd_M_mover_76 ?_
  refine PW_iadd zd_M_mover_77 ?_
  obtain ⟨h0, h⟩ := h
  refine PW_iastore zd_M_mover_78 (zs_65 _) h0 ?_
  have h := h _ rfl
  exact PW_vret zd_M_mover_79 rfl h
def w_M_mover (G : zG) (s : Int) (X : zX) (σ : zPH) : Prop :=
  (0 ≤ (σ 58 35) ∧ (σ 58 35) < 2) ∧
  MS G zm_M_counts 3 [zr G 58, iZ (σ 65 (σ 58 35).toNat), iZ 6] σ (fun v σ12 =>
    v = none ∧
    (zI s) ∧
    (s ≠ 9 →
      b_M_mover_29 G s X  (-1) σ12) ∧
    (s = 9 →
      MS G zm_M_forms 3 [zr G 58] σ12 (fun v σ22 =>
        ∃ z22 : Int, v = some (iZ z22) ∧
        b_M_mover_29 G s X  z22 σ22)))
set_option maxHeartbeats 4000000 in
theorem k_M_mover {G : zG} {s : Int} {X : zX} {σ : zPH} (h : w_M_mover G s X σ) : MS G zm_M_mover 6 [zr G 58, iZ s] σ X := by
  refine ms_of zk_M_mover (Nat.le_of_ble_eq_true rfl) (ls := [some (zr G 58), some (iZ s), none]) rfl ?_
  unfold w_M_mover at h
  refine PW_aload_n zd_M_mover_0 rfl ?_
  refine PW_aload_n zd_M_mover_1 rfl ?_
  refine PW_getR zd_M_mover_2 zf_M_69 (zs_58 _) rfl ?_
  refine PW_aload_n zd_M_mover_5 rfl ?_
  refine PW_getI zd_M_mover_6 zf_M_118 (zs_58 _) rfl ?_
  obtain ⟨h0, h⟩ := h
  refine PW_iaload zd_M_mover_9 (zs_65 _) h0 ?_
  refine PW_bipush zd_M_mover_10 rfl ?_
  refine PW_callV2v zd_M_mover_12 zl_M_362 zk_M_counts zv_M_counts (fr' := 3) (by decide) (zs_58 _) rfl rfl (Nat.le_of_ble_eq_true rfl) ?_
  refine ms_mono h ?_
  rintro v σ1 ⟨rfl, h⟩
  refine ⟨rfl, ?_⟩
  refine PW_iload_n zd_M_mover_15 rfl ?_
  refine PW_bipush zd_M_mover_16 rfl ?_
  obtain ⟨h0, hT, hF⟩ := h
  refine PW_icmp_ne zd_M_mover_18 ⟨h0, by decide⟩ (fun q => ?_) (fun q => ?_)
  · have h := hT q
    refine PW_iconst zd_M_mover_28 ?_
    exact PW_sub (by exact ⟨rfl, rfl, trivial⟩) (kb_M_mover_29   h)
  · have h := hF q
    refine PW_aload_n zd_M_mover_21 rfl ?_
    refine PW_callV0i zd_M_mover_22 zl_M_372 zk_M_forms zv_M_forms (fr' := 3) (by decide) (zs_58 _) rfl rfl (Nat.le_of_ble_eq_true rfl) ?_
    refine ms_mono h ?_
    rintro v σ1 ⟨z, rfl, h⟩
    refine ⟨z, rfl, ?_⟩
    refine PW_goto zd_M_mover_25 ?_
    exact PW_sub (by exact ⟨rfl, rfl, trivial⟩) (kb_M_mover_29   h)
def b_M_statement_112 (G : zG) (X : zX) (σ : zPH) : Prop :=
  MS G zm_M_ends 2 [zr G 58] σ (fun v σ113 =>
    v = none ∧
    X none σ113)
set_option maxHeartbeats 4000000 in
theorem kb_M_statement_112 {G : zG} {X : zX} {σ : zPH} (h : b_M_statement_112 G  X   σ) : PW G zm_M_statement 7 X 112 [some (zr G 58)] [] σ := by
  unfold b_M_statement_112 at h
  refine PW_aload_n zd_M_statement_112 rfl ?_
  refine PW_callV0v zd_M_statement_113 zl_M_359 zk_M_ends zv_M_ends (fr' := 2) (by decide) (zs_58 _) rfl rfl (Nat.le_of_ble_eq_true rfl) ?_
  refine ms_mono h ?_
  rintro v σ1 ⟨rfl, h⟩
  refine ⟨rfl, ?_⟩
  exact PW_vret zd_M_statement_116 rfl h
def w_M_statement (G : zG) (X : zX) (σ : zPH) : Prop :=
  MS G zm_M_isWord 0 [zr G 58, lZ 1818324336] σ (fun v σ4 =>
    (v = some (iZ 0) ∧
      MS G zm_M_isWord 0 [zr G 58, lZ 120299659095922] σ4 (fun v σ21 =>
        (v = some (iZ 0) ∧
          MS G zm_M_isWord 0 [zr G 58, lZ 1751215206] σ21 (fun v σ39 =>
            (v = some (iZ 0) ∧
              MS G zm_M_isWord 0 [zr G 58, lZ 32484475995972978] σ39 (fun v σ57 =>
                (v = some (iZ 0) ∧
                  MS G zm_M_isWord 0 [zr G 58, lZ 1986096741] σ57 (fun v σ76 =>
                    (v = some (iZ 0) ∧
                      MS G zm_M_isWord 0 [zr G 58, lZ 6650213] σ76 (fun v σ95 =>
                        (v = some (iZ 0) ∧
                          MS G zm_M_plain 5 [zr G 58] σ95 (fun v σ109 =>
                            v = none ∧
                            b_M_statement_112 G  X  σ109)) ∨
                        (v = some (iZ 1) ∧
                          MS G zm_M_eye 5 [zr G 58] σ95 (fun v σ102 =>
                            v = none ∧
                            b_M_statement_112 G  X  σ102)))) ∨
                    (v = some (iZ 1) ∧
                      MS G zm_M_mover 6 [zr G 58, iZ 9] σ76 (fun v σ85 =>
                        v = none ∧
                        b_M_statement_112 G  X  σ85)))) ∨
                (v = some (iZ 1) ∧
                  MS G zm_M_mover 6 [zr G 58, iZ 8] σ57 (fun v σ66 =>
                    v = none ∧
                    b_M_statement_112 G  X  σ66)))) ∨
            (v = some (iZ 1) ∧
              MS G zm_M_mirror 5 [zr G 58, iZ 3] σ39 (fun v σ47 =>
                v = none ∧
                b_M_statement_112 G  X  σ47)))) ∨
        (v = some (iZ 1) ∧
          MS G zm_M_mirror 5 [zr G 58, iZ 2] σ21 (fun v σ29 =>
            v = none ∧
            b_M_statement_112 G  X  σ29)))) ∨
    (v = some (iZ 1) ∧
      MS G zm_M_lamp 5 [zr G 58] σ4 (fun v σ11 =>
        v = none ∧
        b_M_statement_112 G  X  σ11)))
set_option maxHeartbeats 4000000 in
theorem k_M_statement {G : zG} {X : zX} {σ : zPH} (h : w_M_statement G  X σ) : MS G zm_M_statement 7 [zr G 58] σ X := by
  refine ms_of zk_M_statement (Nat.le_of_ble_eq_true rfl) (ls := [some (zr G 58)]) rfl ?_
  unfold w_M_statement at h
  refine PW_aload_n zd_M_statement_0 rfl ?_
  refine PW_ldc2 zd_M_statement_1 zcst_M_240 ?_
  refine PW_callV1i zd_M_statement_4 zl_M_314 zk_M_isWord zv_M_isWord (fr' := 0) (by decide) (zs_58 _) rfl rfl (Nat.le_of_ble_eq_true rfl) ?_
  refine ms_mono h ?_
  rintro v σ1 (⟨rfl, h⟩ | ⟨rfl, h⟩)
  · refine ⟨0, rfl, ?_⟩
    refine PW_if_eq zd_M_statement_7 (by decide) (fun _ => ?_) (fun q => absurd rfl q)
    refine PW_aload_n zd_M_statement_17 rfl ?_
    refine PW_ldc2 zd_M_statement_18 zcst_M_242 ?_
    refine PW_callV1i zd_M_statement_21 zl_M_314 zk_M_isWord zv_M_isWord (fr' := 0) (by decide) (zs_58 _) rfl rfl (Nat.le_of_ble_eq_true rfl) ?_
    refine ms_mono h ?_
    rintro v σ1 (⟨rfl, h⟩ | ⟨rfl, h⟩)
    · refine ⟨0, rfl, ?_⟩
      refine PW_if_eq zd_M_statement_24 (by decide) (fun _ => ?_) (fun q => absurd rfl q)
      refine PW_aload_n zd_M_statement_35 rfl ?_
      refine PW_ldc2 zd_M_statement_36 zcst_M_244 ?_
      refine PW_callV1i zd_M_statement_39 zl_M_314 zk_M_isWord zv_M_isWord (fr' := 0) (by decide) (zs_58 _) rfl rfl (Nat.le_of_ble_eq_true rfl) ?_
      refine ms_mono h ?_
      rintro v σ1 (⟨rfl, h⟩ | ⟨rfl, h⟩)
      · refine ⟨0, rfl, ?_⟩
        refine PW_if_eq zd_M_statement_42 (by decide) (fun _ => ?_) (fun q => absurd rfl q)
        refine PW_aload_n zd_M_statement_53 rfl ?_
        refine PW_ldc2 zd_M_statement_54 zcst_M_254 ?_
        refine PW_callV1i zd_M_statement_57 zl_M_314 zk_M_isWord zv_M_isWord (fr' := 0) (by decide) (zs_58 _) rfl rfl (Nat.le_of_ble_eq_true rfl) ?_
        refine ms_mono h ?_
        rintro v σ1 (⟨rfl, h⟩ | ⟨rfl, h⟩)
        · refine ⟨0, rfl, ?_⟩
          refine PW_if_eq zd_M_statement_60 (by decide) (fun _ => ?_) (fun q => absurd rfl q)
          refine PW_aload_n zd_M_statement_72 rfl ?_
          refine PW_ldc2 zd_M_statement_73 zcst_M_256 ?_
          refine PW_callV1i zd_M_statement_76 zl_M_314 zk_M_isWord zv_M_isWord (fr' := 0) (by decide) (zs_58 _) rfl rfl (Nat.le_of_ble_eq_true rfl) ?_
          refine ms_mono h ?_
          rintro v σ1 (⟨rfl, h⟩ | ⟨rfl, h⟩)
          · refine ⟨0, rfl, ?_⟩
            refine PW_if_eq zd_M_statement_79 (by decide) (fun _ => ?_) (fun q => absurd rfl q)
            refine PW_aload_n zd_M_statement_91 rfl ?_
            refine PW_ldc2 zd_M_statement_92 zcst_M_252 ?_
            refine PW_callV1i zd_M_statement_95 zl_M_314 zk_M_isWord zv_M_isWord (fr' := 0) (by decide) (zs_58 _) rfl rfl (Nat.le_of_ble_eq_true rfl) ?_
            refine ms_mono h ?_
            rintro v σ1 (⟨rfl, h⟩ | ⟨rfl, h⟩)
            · refine ⟨0, rfl, ?_⟩
              refine PW_if_eq zd_M_statement_98 (by decide) (fun _ => ?_) (fun q => absurd rfl q)
              refine PW_aload_n zd_M_statement_108 rfl ?_
              refine PW_callV0v zd_M_statement_109 zl_M_394 zk_M_plain zv_M_plain (fr' := 5) (by decide) (zs_58 _) rfl rfl (Nat.le_of_ble_eq_true rfl) ?_
              refine ms_mono h ?_
              rintro v σ1 ⟨rfl, h⟩
              refine ⟨rfl, ?_⟩
              exact PW_sub (by exact ⟨rfl, trivial⟩) (kb_M_statement_112   h)
            · refine ⟨1, rfl, ?_⟩
              refine PW_if_eq zd_M_statement_98 (by decide) (fun q => absurd q (by decide)) (fun _ => ?_)
              refine PW_aload_n zd_M_statement_101 rfl ?_
              refine PW_callV0v zd_M_statement_102 zl_M_391 zk_M_eye zv_M_eye (fr' := 5) (by decide) (zs_58 _) rfl rfl (Nat.le_of_ble_eq_true rfl) ?_
              refine ms_mono h ?_
              rintro v σ1 ⟨rfl, h⟩
              refine ⟨rfl, ?_⟩
              refine PW_goto zd_M_statement_105 ?_
              exact PW_sub (by exact ⟨rfl, trivial⟩) (kb_M_statement_112   h)
          · refine ⟨1, rfl, ?_⟩
            refine PW_if_eq zd_M_statement_79 (by decide) (fun q => absurd q (by decide)) (fun _ => ?_)
            refine PW_aload_n zd_M_statement_82 rfl ?_
            refine PW_bipush zd_M_statement_83 rfl ?_
            refine PW_callV1v zd_M_statement_85 zl_M_388 zk_M_mover zv_M_mover (fr' := 6) (by decide) (zs_58 _) rfl rfl (Nat.le_of_ble_eq_true rfl) ?_
            refine ms_mono h ?_
            rintro v σ1 ⟨rfl, h⟩
            refine ⟨rfl, ?_⟩
            refine PW_goto zd_M_statement_88 ?_
            exact PW_sub (by exact ⟨rfl, trivial⟩) (kb_M_statement_112   h)
        · refine ⟨1, rfl, ?_⟩
          refine PW_if_eq zd_M_statement_60 (by decide) (fun q => absurd q (by decide)) (fun _ => ?_)
          refine PW_aload_n zd_M_statement_63 rfl ?_
          refine PW_bipush zd_M_statement_64 rfl ?_
          refine PW_callV1v zd_M_statement_66 zl_M_388 zk_M_mover zv_M_mover (fr' := 6) (by decide) (zs_58 _) rfl rfl (Nat.le_of_ble_eq_true rfl) ?_
          refine ms_mono h ?_
          rintro v σ1 ⟨rfl, h⟩
          refine ⟨rfl, ?_⟩
          refine PW_goto zd_M_statement_69 ?_
          exact PW_sub (by exact ⟨rfl, trivial⟩) (kb_M_statement_112   h)
      · refine ⟨1, rfl, ?_⟩
        refine PW_if_eq zd_M_statement_42 (by decide) (fun q => absurd q (by decide)) (fun _ => ?_)
        refine PW_aload_n zd_M_statement_45 rfl ?_
        refine PW_iconst zd_M_statement_46 ?_
        refine PW_callV1v zd_M_statement_47 zl_M_385 zk_M_mirror zv_M_mirror (fr' := 5) (by decide) (zs_58 _) rfl rfl (Nat.le_of_ble_eq_true rfl) ?_
        refine ms_mono h ?_
        rintro v σ1 ⟨rfl, h⟩
        refine ⟨rfl, ?_⟩
        refine PW_goto zd_M_statement_50 ?_
        exact PW_sub (by exact ⟨rfl, trivial⟩) (kb_M_statement_112   h)
    · refine ⟨1, rfl, ?_⟩
      refine PW_if_eq zd_M_statement_24 (by decide) (fun q => absurd q (by decide)) (fun _ => ?_)
      refine PW_aload_n zd_M_statement_27 rfl ?_
      refine PW_iconst zd_M_statement_28 ?_
      refine PW_callV1v zd_M_statement_29 zl_M_385 zk_M_mirror zv_M_mirror (fr' := 5) (by decide) (zs_58 _) rfl rfl (Nat.le_of_ble_eq_true rfl) ?_
      refine ms_mono h ?_
      rintro v σ1 ⟨rfl, h⟩
      refine ⟨rfl, ?_⟩
      refine PW_goto zd_M_statement_32 ?_
      exact PW_sub (by exact ⟨rfl, trivial⟩) (kb_M_statement_112   h)
  · refine ⟨1, rfl, ?_⟩
    refine PW_if_eq zd_M_statement_7 (by decide) (fun q => absurd q (by decide)) (fun _ => ?_)
    refine PW_aload_n zd_M_statement_10 rfl ?_
    refine PW_callV0v zd_M_statement_11 zl_M_382 zk_M_lamp zv_M_lamp (fr' := 5) (by decide) (zs_58 _) rfl rfl (Nat.le_of_ble_eq_true rfl) ?_
    refine ms_mono h ?_
    rintro v σ1 ⟨rfl, h⟩
    refine ⟨rfl, ?_⟩
    refine PW_goto zd_M_statement_14 ?_
    exact PW_sub (by exact ⟨rfl, trivial⟩) (kb_M_statement_112   h)
def b_M_ends_25 (G : zG) (X : zX) (σ : zPH) : Prop :=
  (zI (σ 58 10)) ∧
  ((σ 58 10) ≠ 0 →
    X none σ) ∧
  ((σ 58 10) = 0 →
    MS G zm_M_looks 1 [zr G 58] σ (fun v σ33 =>
      v = none ∧
      X none σ33))
set_option maxHeartbeats 4000000 in
theorem kb_M_ends_25 {G : zG} {X : zX} {σ : zPH} (h : b_M_ends_25 G  X   σ) : PW G zm_M_ends 2 X 25 [some (zr G 58)] [] σ := by
  unfold b_M_ends_25 at h
  refine PW_aload_n zd_M_ends_25 rfl ?_
  refine PW_getI zd_M_ends_26 zf_M_42 (zs_58 _) rfl ?_
  obtain ⟨h0, hT, hF⟩ := h
  refine PW_if_ne zd_M_ends_29 h0 (fun q => ?_) (fun q => ?_)
  · have h := hT q
    exact PW_vret zd_M_ends_36 rfl h
  · have h := hF q
    refine PW_aload_n zd_M_ends_32 rfl ?_
    refine PW_callV0v zd_M_ends_33 zl_M_292 zk_M_looks zv_M_looks (fr' := 1) (by decide) (zs_58 _) rfl rfl (Nat.le_of_ble_eq_true rfl) ?_
    refine ms_mono h ?_
    rintro v σ1 ⟨rfl, h⟩
    refine ⟨rfl, ?_⟩
    exact PW_vret zd_M_ends_36 rfl h
def w_M_ends (G : zG) (X : zX) (σ : zPH) : Prop :=
  (zI (σ 58 10)) ∧
  ((σ 58 10) ≠ 0 →
    b_M_ends_25 G  X  σ) ∧
  ((σ 58 10) = 0 →
    MS G zm_M_isSign 1 [zr G 58, iZ 59] σ (fun v σ10 =>
      (v = some (iZ 0) ∧
        MS G zm_M_blame 0 [zr G 58, iZ 1, iZ (σ10 58 5)] σ10 (fun v σ22 =>
          v = none ∧
          b_M_ends_25 G  X  σ22)) ∨
      (v = some (iZ 1) ∧
        b_M_ends_25 G  X  σ10)))
set_option maxHeartbeats 4000000 in
theorem k_M_ends {G : zG} {X : zX} {σ : zPH} (h : w_M_ends G  X σ) : MS G zm_M_ends 2 [zr G 58] σ X := by
  refine ms_of zk_M_ends (Nat.le_of_ble_eq_true rfl) (ls := [some (zr G 58)]) rfl ?_
  unfold w_M_ends at h
  refine PW_aload_n zd_M_ends_0 rfl ?_
  refine PW_getI zd_M_ends_1 zf_M_42 (zs_58 _) rfl ?_
  obtain ⟨h0, hT, hF⟩ := h
  refine PW_if_ne zd_M_ends_4 h0 (fun q => ?_) (fun q => ?_)
  · have h := hT q
    exact PW_sub (by exact ⟨rfl, trivial⟩) (kb_M_ends_25   h)
  · have h := hF q
    refine PW_aload_n zd_M_ends_7 rfl ?_
    refine PW_bipush zd_M_ends_8 rfl ?_
    refine PW_callV1i zd_M_ends_10 zl_M_327 zk_M_isSign zv_M_isSign (fr' := 1) (by decide) (zs_58 _) rfl rfl (Nat.le_of_ble_eq_true rfl) ?_
    refine ms_mono h ?_
    rintro v σ1 (⟨rfl, h⟩ | ⟨rfl, h⟩)
    · refine ⟨0, rfl, ?_⟩
      refine PW_if_ne zd_M_ends_13 (by decide) (fun q => absurd rfl q) (fun _ => ?_)
      refine PW_aload_n zd_M_ends_16 rfl ?_
      refine PW_iconst zd_M_ends_17 ?_
      refine PW_aload_n zd_M_ends_18 rfl ?_
      refine PW_getI zd_M_ends_19 zf_M_26 (zs_58 _) rfl ?_
      refine PW_callV2v zd_M_ends_22 zl_M_295 zk_M_blame zv_M_blame (fr' := 0) (by decide) (zs_58 _) rfl rfl (Nat.le_of_ble_eq_true rfl) ?_
      refine ms_mono h ?_
      rintro v σ1 ⟨rfl, h⟩
      refine ⟨rfl, ?_⟩
      exact PW_sub (by exact ⟨rfl, trivial⟩) (kb_M_ends_25   h)
    · refine ⟨1, rfl, ?_⟩
      refine PW_if_ne zd_M_ends_13 (by decide) (fun _ => ?_) (fun q => absurd q (by decide))
      exact PW_sub (by exact ⟨rfl, trivial⟩) (kb_M_ends_25   h)
def b_M_plain_84 (G : zG) (X : zX) (x2 s0 : Int) (σ : zPH) : Prop :=
  MS G zm_M_place 4 [zr G 58, iZ x2, iZ (-1), iZ s0, iZ (-1)] σ (fun v σ90 =>
    v = none ∧
    X none σ90)
set_option maxHeartbeats 4000000 in
theorem kb_M_plain_84 {G : zG} {X : zX} {x2 s0 : Int} {σ : zPH} (h : b_M_plain_84 G  X  x2 s0 σ) : PW G zm_M_plain 5 X 84 [some (zr G 58), none, some (iZ x2), none] [iZ s0] σ := by
  unfold b_M_plain_84 at h
  refine PW_istore_n zd_M_plain_84 rfl (by decide) (ls2 := [_, _, _, _]) rfl ?_
  refine PW_aload_n zd_M_plain_85 rfl ?_
  refine PW_iload_n zd_M_plain_86 rfl ?_
  refine PW_iconst zd_M_plain_87 ?_
  refine PW_iload_n zd_M_plain_88 rfl ?_
  refine PW_iconst zd_M_plain_89 ?_
  refine PW_callV4v zd_M_plain_90 zl_M_368 zk_M_place zv_M_place (fr' := 4) (by decide) (zs_58 _) rfl rfl (Nat.le_of_ble_eq_true rfl) ?_
  refine ms_mono h ?_
  rintro v σ1 ⟨rfl, h⟩
  refine ⟨rfl, ?_⟩
  exact PW_vret zd_M_plain_93 rfl h
def b_M_plain_72 (G : zG) (X : zX) (x1 x2 : Int) (σ : zPH) : Prop :=
  (zI x1) ∧
  (x1 = 0 →
    b_M_plain_84 G  X  x2 (-1) σ) ∧
  (x1 ≠ 0 →
    MS G zm_M_colour 3 [zr G 58] σ (fun v σ77 =>
      ∃ z77 : Int, v = some (iZ z77) ∧
      b_M_plain_84 G  X  x2 z77 σ77))
set_option maxHeartbeats 4000000 in
theorem kb_M_plain_72 {G : zG} {X : zX} {x1 x2 : Int} {σ : zPH} (h : b_M_plain_72 G  X  x1 x2 σ) : PW G zm_M_plain 5 X 72 [some (zr G 58), some (iZ x1), some (iZ x2), none] [] σ := by
  unfold b_M_plain_72 at h
  refine PW_iload_n zd_M_plain_72 rfl ?_
  obtain ⟨h0, hT, hF⟩ := h
  refine PW_if_eq zd_M_plain_73 h0 (fun q => ?_) (fun q => ?_)
  · have h := hT q
    refine PW_iconst zd_M_plain_83 ?_
    exact PW_sub (by exact ⟨rfl, rfl, trivial⟩) (kb_M_plain_84   h)
  · have h := hF q
    refine PW_aload_n zd_M_plain_76 rfl ?_
    refine PW_callV0i zd_M_plain_77 zl_M_340 zk_M_colour zv_M_colour (fr' := 3) (by decide) (zs_58 _) rfl rfl (Nat.le_of_ble_eq_true rfl) ?_
    refine ms_mono h ?_
    rintro v σ1 ⟨z, rfl, h⟩
    refine ⟨z, rfl, ?_⟩
    refine PW_goto zd_M_plain_80 ?_
    exact PW_sub (by exact ⟨rfl, rfl, trivial⟩) (kb_M_plain_84   h)
def b_M_plain_61 (G : zG) (X : zX) (x1 x2 : Int) (σ : zPH) : Prop :=
  (zI (σ 58 10)) ∧
  ((σ 58 10) ≠ 0 →
    b_M_plain_72 G  X  x1 x2 σ) ∧
  ((σ 58 10) = 0 →
    MS G zm_M_next 2 [zr G 58] σ (fun v σ69 =>
      v = none ∧
      b_M_plain_72 G  X  x1 x2 σ69))
set_option maxHeartbeats 4000000 in
theorem kb_M_plain_61 {G : zG} {X : zX} {x1 x2 : Int} {σ : zPH} (h : b_M_plain_61 G  X  x1 x2 σ) : PW G zm_M_plain 5 X 61 [some (zr G 58), some (iZ x1), some (iZ x2), none] [] σ := by
  unfold b_M_plain_61 at h
  refine PW_aload_n zd_M_plain_61 rfl ?_
  refine PW_getI zd_M_plain_62 zf_M_42 (zs_58 _) rfl ?_
  obtain ⟨h0, hT, hF⟩ := h
  refine PW_if_ne zd_M_plain_65 h0 (fun q => ?_) (fun q => ?_)
  · have h := hT q
    exact PW_sub (by exact ⟨rfl, rfl, rfl, trivial⟩) (kb_M_plain_72   h)
  · have h := hF q
    refine PW_aload_n zd_M_plain_68 rfl ?_
    refine PW_callV0v zd_M_plain_69 zl_M_317 zk_M_next zv_M_next (fr' := 2) (by decide) (zs_58 _) rfl rfl (Nat.le_of_ble_eq_true rfl) ?_
    refine ms_mono h ?_
    rintro v σ1 ⟨rfl, h⟩
    refine ⟨rfl, ?_⟩
    exact PW_sub (by exact ⟨rfl, rfl, rfl, trivial⟩) (kb_M_plain_72   h)
def b_M_plain_46 (G : zG) (X : zX) (x1 s0 : Int) (σ : zPH) : Prop :=
  (zI s0) ∧
  (s0 ≠ (-1) →
    b_M_plain_61 G  X  x1 s0 σ) ∧
  (s0 = (-1) →
    MS G zm_M_blame 0 [zr G 58, iZ 1, iZ (σ 58 5)] σ (fun v σ58 =>
      v = none ∧
      b_M_plain_61 G  X  x1 s0 σ58))
set_option maxHeartbeats 4000000 in
theorem kb_M_plain_46 {G : zG} {X : zX} {x1 s0 : Int} {σ : zPH} (h : b_M_plain_46 G  X  x1 s0 σ) : PW G zm_M_plain 5 X 46 [some (zr G 58), some (iZ x1), none, none] [iZ s0] σ := by
  unfold b_M_plain_46 at h
  refine PW_istore_n zd_M_plain_46 rfl (by decide) (ls2 := [_, _, _, _]) rfl ?_
  refine PW_iload_n zd_M_plain_47 rfl ?_
  refine PW_iconst zd_M_plain_48 ?_
  obtain ⟨h0, hT, hF⟩ := h
  refine PW_icmp_ne zd_M_plain_49 ⟨h0, by decide⟩ (fun q => ?_) (fun q => ?_)
  · have h := hT q
    exact PW_sub (by exact ⟨rfl, rfl, rfl, trivial⟩) (kb_M_plain_61   h)
  · have h := hF q
    refine PW_aload_n zd_M_plain_52 rfl ?_
    refine PW_iconst zd_M_plain_53 ?_
    refine PW_aload_n zd_M_plain_54 rfl ?_
    refine PW_getI zd_M_plain_55 zf_M_26 (zs_58 _) rfl ?_
    refine PW_callV2v zd_M_plain_58 zl_M_295 zk_M_blame zv_M_blame (fr' := 0) (by decide) (zs_58 _) rfl rfl (Nat.le_of_ble_eq_true rfl) ?_
    refine ms_mono h ?_
    rintro v σ1 ⟨rfl, h⟩
    refine ⟨rfl, ?_⟩
    exact PW_sub (by exact ⟨rfl, rfl, rfl, trivial⟩) (kb_M_plain_61   h)
def w_M_plain (G : zG) (X : zX) (σ : zPH) : Prop :=
  MS G zm_M_isWord 0 [zr G 58, lZ 444199957363] σ (fun v σ4 =>
    ∃ z4 : Int, (z4 = 0 ∨ z4 = 1) ∧ v = some (iZ z4) ∧
    (zI z4) ∧
    (z4 = 0 →
      MS G zm_M_isWord 0 [zr G 58, lZ 482955850605] σ4 (fun v σ20 =>
        (v = some (iZ 0) ∧
          MS G zm_M_isWord 0 [zr G 58, lZ 2002873452] σ20 (fun v σ34 =>
            (v = some (iZ 0) ∧
              b_M_plain_46 G  X  z4 (-1) σ34) ∨
            (v = some (iZ 1) ∧
              b_M_plain_46 G  X  z4 6 σ34))) ∨
        (v = some (iZ 1) ∧
          b_M_plain_46 G  X  z4 5 σ20))) ∧
    (z4 ≠ 0 →
      b_M_plain_46 G  X  z4 4 σ4))
set_option maxHeartbeats 4000000 in
theorem k_M_plain {G : zG} {X : zX} {σ : zPH} (h : w_M_plain G  X σ) : MS G zm_M_plain 5 [zr G 58] σ X := by
  refine ms_of zk_M_plain (Nat.le_of_ble_eq_true rfl) (ls := [some (zr G 58), none, none, none]) rfl ?_
  unfold w_M_plain at h
  refine PW_aload_n zd_M_plain_0 rfl ?_
  refine PW_ldc2 zd_M_plain_1 zcst_M_246 ?_
  refine PW_callV1i zd_M_plain_4 zl_M_314 zk_M_isWord zv_M_isWord (fr' := 0) (by decide) (zs_58 _) rfl rfl (Nat.le_of_ble_eq_true rfl) ?_
  refine ms_mono h ?_
  rintro v σ1 ⟨z, hz, rfl, h⟩
  refine ⟨z, rfl, ?_⟩
  refine PW_istore_n zd_M_plain_7 rfl (by decide) (ls2 := [_, _, _, _]) rfl ?_
  refine PW_iload_n zd_M_plain_8 rfl ?_
  obtain ⟨h0, hT, hF⟩ := h
  refine PW_if_eq zd_M_plain_9 h0 (fun q => ?_) (fun q => ?_)
  · have h := hT q
    refine PW_aload_n zd_M_plain_16 rfl ?_
    refine PW_ldc2 zd_M_plain_17 zcst_M_248 ?_
    refine PW_callV1i zd_M_plain_20 zl_M_314 zk_M_isWord zv_M_isWord (fr' := 0) (by decide) (zs_58 _) rfl rfl (Nat.le_of_ble_eq_true rfl) ?_
    refine ms_mono h ?_
    rintro v σ1 (⟨rfl, h⟩ | ⟨rfl, h⟩)
    · refine ⟨0, rfl, ?_⟩
      refine PW_if_eq zd_M_plain_23 (by decide) (fun _ => ?_) (fun q => absurd rfl q)
      refine PW_aload_n zd_M_plain_30 rfl ?_
      refine PW_ldc2 zd_M_plain_31 zcst_M_250 ?_
      refine PW_callV1i zd_M_plain_34 zl_M_314 zk_M_isWord zv_M_isWord (fr' := 0) (by decide) (zs_58 _) rfl rfl (Nat.le_of_ble_eq_true rfl) ?_
      refine ms_mono h ?_
      rintro v σ1 (⟨rfl, h⟩ | ⟨rfl, h⟩)
      · refine ⟨0, rfl, ?_⟩
        refine PW_if_eq zd_M_plain_37 (by decide) (fun _ => ?_) (fun q => absurd rfl q)
        refine PW_iconst zd_M_plain_45 ?_
        exact PW_sub (by exact ⟨rfl, rfl, trivial⟩) (kb_M_plain_46   h)
      · refine ⟨1, rfl, ?_⟩
        refine PW_if_eq zd_M_plain_37 (by decide) (fun q => absurd q (by decide)) (fun _ => ?_)
        refine PW_bipush zd_M_plain_40 rfl ?_
        refine PW_goto zd_M_plain_42 ?_
        exact PW_sub (by exact ⟨rfl, rfl, trivial⟩) (kb_M_plain_46   h)
    · refine ⟨1, rfl, ?_⟩
      refine PW_if_eq zd_M_plain_23 (by decide) (fun q => absurd q (by decide)) (fun _ => ?_)
      refine PW_iconst zd_M_plain_26 ?_
      refine PW_goto zd_M_plain_27 ?_
      exact PW_sub (by exact ⟨rfl, rfl, trivial⟩) (kb_M_plain_46   h)
  · have h := hF q
    refine PW_iconst zd_M_plain_12 ?_
    refine PW_goto zd_M_plain_13 ?_
    exact PW_sub (by exact ⟨rfl, rfl, trivial⟩) (kb_M_plain_46   h)
def b_M_eyesOfTests_95 (G : zG) (X : zX) (K2 : Int → zPH → Prop) (x1 : Int) (σ : zPH) : Prop :=
  K2 (x1 + 1) σ
set_option maxHeartbeats 4000000 in
theorem kb_M_eyesOfTests_95 {G : zG} {X : zX} {K2 : Int → zPH → Prop} (hK2 : ∀ (y0 : Int) (σ : zPH), K2 y0 σ → PW G zm_M_eyesOfTests 1 X 2 [some (zr G 58), some (iZ y0)] [] σ) {x1 : Int} {σ : zPH} (h : b_M_eyesOfTests_95 G  X K2 x1 σ) : PW G zm_M_eyesOfTests 1 X 95 [some (zr G 58), some (iZ x1)] [] σ := by
  unfold b_M_eyesOfTests_95 at h
  refine PW_iinc zd_M_eyesOfTests_95 rfl rfl (by decide) (ls2 := [_, _]) rfl ?_
  refine PW_goto zd_M_eyesOfTests_98 ?_
  exact PW_sub (by exact ⟨rfl, rfl, trivial⟩) (hK2 _ _ h)
def b_M_eyesOfTests_2 (G : zG) (X : zX) (K2 : Int → zPH → Prop) (x1 : Int) (σ : zPH) : Prop :=
  (zI x1 ∧ zI (σ 58 34)) ∧
  ((σ 58 34) ≤ x1 →
    X none σ) ∧
  (x1 < (σ 58 34) →
    (zI (σ 58 10)) ∧
    ((σ 58 10) ≠ 0 →
      X none σ) ∧
    ((σ 58 10) = 0 →
      (0 ≤ ((1600 * (σ 58 35)) + x1) ∧ ((1600 * (σ 58 35)) + x1) < 3200) ∧
      (zI (σ 75 ((1600 * (σ 58 35)) + x1).toNat)) ∧
      ((σ 75 ((1600 * (σ 58 35)) + x1).toNat) = 1 →
        (0 ≤ x1 ∧ x1 < 1600) ∧
        MS G zm_M_eyeOf 0 [zr G 58, lZ (σ 78 x1.toNat)] σ (fun v σ60 =>
          ∃ z60 : Int, v = some (iZ z60) ∧
          (0 ≤ ((1600 * (σ 58 35)) + x1) ∧ ((1600 * (σ 58 35)) + x1) < 3200) ∧
          ∀ σ63 : zPH, σ63 = zupd σ60 77 ((1600 * (σ 58 35)) + x1).toNat z60 →
          (0 ≤ ((1600 * (σ63 58 35)) + x1) ∧ ((1600 * (σ63 58 35)) + x1) < 3200) ∧
          (zI (σ63 77 ((1600 * (σ63 58 35)) + x1).toNat)) ∧
          ((σ63 77 ((1600 * (σ63 58 35)) + x1).toNat) ≠ (-1) →
            b_M_eyesOfTests_95 G  X K2 x1 σ63) ∧
          ((σ63 77 ((1600 * (σ63 58 35)) + x1).toNat) = (-1) →
            (0 ≤ x1 ∧ x1 < 1600) ∧
            MS G zm_M_blame 0 [zr G 58, iZ 6, iZ (σ63 79 x1.toNat)] σ63 (fun v σ92 =>
              v = none ∧
              b_M_eyesOfTests_95 G  X K2 x1 σ92)))) ∧
      ((σ 75 ((1600 * (σ 58 35)) + x1).toNat) ≠ 1 →
        b_M_eyesOfTests_95 G  X K2 x1 σ)))
set_option maxHeartbeats 4000000 in
theorem kb_M_eyesOfTests_2 {G : zG} {X : zX} {K2 : Int → zPH → Prop} (hK2 : ∀ (y0 : Int) (σ : zPH), K2 y0 σ → PW G zm_M_eyesOfTests 1 X 2 [some (zr G 58), some (iZ y0)] [] σ) {x1 : Int} {σ : zPH} (h : b_M_eyesOfTests_2 G  X K2 x1 σ) : PW G zm_M_eyesOfTests 1 X 2 [some (zr G 58), some (iZ x1)] [] σ := by
  unfold b_M_eyesOfTests_2 at h
  refine PW_iload_n zd_M_eyesOfTests_2 rfl ?_
  refine PW_aload_n zd_M_eyesOfTests_3 rfl ?_
  refine PW_getI zd_M_eyesOfTests_4 zf_M_115 (zs_58 _) rfl ?_
  obtain ⟨h0, hT, hF⟩ := h
  refine PW_icmp_ge zd_M_eyesOfTests_7 h0 (fun q => ?_) (fun q => ?_)
  · have h := hT q
    exact PW_vret zd_M_eyesOfTests_101 rfl h
  · have h := hF q
    refine PW_aload_n zd_M_eyesOfTests_10 rfl ?_
    refine PW_getI zd_M_eyesOfTests_11 zf_M_42 (zs_58 _) rfl ?_
    obtain ⟨h0, hT, hF⟩ := h
    refine PW_if_ne zd_M_eyesOfTests_14 h0 (fun q => ?_) (fun q => ?_)
    · have h := hT q
      exact PW_vret zd_M_eyesOfTests_101 rfl h
    · have h := hF q
      refine PW_aload_n zd_M_eyesOfTests_17 rfl ?_
      refine PW_getR zd_M_eyesOfTests_18 zf_M_100 (zs_58 _) rfl ?_
      refine PW_sipush zd_M_eyesOfTests_21 rfl ?_
      refine PW_aload_n zd_M_eyesOfTests_24 rfl ?_
      refine PW_getI zd_M_eyesOfTests_25 zf_M_118 (zs_58 _) rfl ?_
      refine PW_imul zd_M_eyesOfTests_28 ?_
      refine PW_iload_n zd_M_eyesOfTests_29 rfl ?_
      refine PW_iadd zd_M_eyesOfTests_30 ?_
      obtain ⟨h0, h⟩ := h
      refine PW_iaload zd_M_eyesOfTests_31 (zs_75 _) h0 ?_
      refine PW_iconst zd_M_eyesOfTests_32 ?_
      obtain ⟨h0, hT, hF⟩ := h
      refine PW_icmp_eq zd_M_eyesOfTests_33 ⟨h0, by decide⟩ (fun q => ?_) (fun q => ?_)
      · have h := hT q
        refine PW_aload_n zd_M_eyesOfTests_39 rfl ?_
        refine PW_getR zd_M_eyesOfTests_40 zf_M_106 (zs_58 _) rfl ?_
        refine PW_sipush zd_M_eyesOfTests_43 rfl ?_
        refine PW_aload_n zd_M_eyesOfTests_46 rfl ?_
        refine PW_getI zd_M_eyesOfTests_47 zf_M_118 (zs_58 _) rfl ?_
        refine PW_imul zd_M_eyesOfTests_50 ?_
        refine PW_iload_n zd_M_eyesOfTests_51 rfl ?_
        refine PW_iadd zd_M_eyesOfTests_52 ?_
        refine PW_aload_n zd_M_eyesOfTests_53 rfl ?_
        refine PW_aload_n zd_M_eyesOfTests_54 rfl ?_
        refine PW_getR zd_M_eyesOfTests_55 zf_M_109 (zs_58 _) rfl ?_
        refine PW_iload_n zd_M_eyesOfTests_58 rfl ?_
        obtain ⟨h0, h⟩ := h
        refine PW_laload zd_M_eyesOfTests_59 (zs_78 _) h0 ?_
        refine PW_callV1i zd_M_eyesOfTests_60 zl_M_375 zk_M_eyeOf zv_M_eyeOf (fr' := 0) (by decide) (zs_58 _) rfl rfl (Nat.le_of_ble_eq_true rfl) ?_
        refine ms_mono h ?_
        rintro v σ1 ⟨z, rfl, h⟩
        refine ⟨z, rfl, ?_⟩
        obtain ⟨h0, h⟩ := h
        refine PW_iastore zd_M_eyesOfTests_63 (zs_77 _) h0 ?_
        have h := h _ rfl
        refine PW_aload_n zd_M_eyesOfTests_64 rfl ?_
        refine PW_getR zd_M_eyesOfTests_65 zf_M_106 (zs_58 _) rfl ?_
        refine PW_sipush zd_M_eyesOfTests_68 rfl ?_
        refine PW_aload_n zd_M_eyesOfTests_71 rfl ?_
        refine PW_getI zd_M_eyesOfTests_72 zf_M_118 (zs_58 _) rfl ?_
        refine PW_imul zd_M_eyesOfTests_75 ?_
        refine PW_iload_n zd_M_eyesOfTests_76 rfl ?_
        refine PW_iadd zd_M_eyesOfTests_77 ?_
        obtain ⟨h0, h⟩ := h
        refine PW_iaload zd_M_eyesOfTests_78 (zs_77 _) h0 ?_
        refine PW_iconst zd_M_eyesOfTests_79 ?_
        obtain ⟨h0, hT, hF⟩ := h
        refine PW_icmp_ne zd_M_eyesOfTests_80 ⟨h0, by decide⟩ (fun q => ?_) (fun q => ?_)
        · have h := hT q
          exact PW_sub (by exact ⟨rfl, rfl, trivial⟩) (kb_M_eyesOfTests_95  hK2 h)
        · have h := hF q
          refine PW_aload_n zd_M_eyesOfTests_83 rfl ?_
          refine PW_bipush zd_M_eyesOfTests_84 rfl ?_
          refine PW_aload_n zd_M_eyesOfTests_86 rfl ?_
          refine PW_getR zd_M_eyesOfTests_87 zf_M_112 (zs_58 _) rfl ?_
          refine PW_iload_n zd_M_eyesOfTests_90 rfl ?_
          obtain ⟨h0, h⟩ := h
          refine PW_iaload zd_M_eyesOfTests_91 (zs_79 _) h0 ?_
          refine PW_callV2v zd_M_eyesOfTests_92 zl_M_295 zk_M_blame zv_M_blame (fr' := 0) (by decide) (zs_58 _) rfl rfl (Nat.le_of_ble_eq_true rfl) ?_
          refine ms_mono h ?_
          rintro v σ1 ⟨rfl, h⟩
          refine ⟨rfl, ?_⟩
          exact PW_sub (by exact ⟨rfl, rfl, trivial⟩) (kb_M_eyesOfTests_95  hK2 h)
      · have h := hF q
        refine PW_goto zd_M_eyesOfTests_36 ?_
        exact PW_sub (by exact ⟨rfl, rfl, trivial⟩) (kb_M_eyesOfTests_95  hK2 h)
theorem kl_M_eyesOfTests_2 {G : zG} {X : zX} {x1 : Int} {σ : zPH} (h : zLP1 (b_M_eyesOfTests_2 G  X ) x1 σ) : PW G zm_M_eyesOfTests 1 X 2 [some (zr G 58), some (iZ x1)] [] σ := by
  obtain ⟨n, h⟩ := h
  induction n generalizing x1 σ with
  | zero => exact h.elim
  | succ n ih => exact kb_M_eyesOfTests_2   (fun _ _ h => ih h) h
def w_M_eyesOfTests (G : zG) (X : zX) (σ : zPH) : Prop :=
  zLP1 (b_M_eyesOfTests_2 G  X ) 0 σ
set_option maxHeartbeats 4000000 in
theorem k_M_eyesOfTests {G : zG} {X : zX} {σ : zPH} (h : w_M_eyesOfTests G  X σ) : MS G zm_M_eyesOfTests 1 [zr G 58] σ X := by
  refine ms_of zk_M_eyesOfTests (Nat.le_of_ble_eq_true rfl) (ls := [some (zr G 58), none]) rfl ?_
  unfold w_M_eyesOfTests at h
  refine PW_iconst zd_M_eyesOfTests_0 ?_
  refine PW_istore_n zd_M_eyesOfTests_1 rfl (by decide) (ls2 := [_, _]) rfl ?_
  exact PW_sub (by exact ⟨rfl, rfl, trivial⟩) (kl_M_eyesOfTests_2   h)
def b_M_fresh_94 (G : zG) (X : zX) (K94 : Int → zPH → Prop) (x1 : Int) (σ : zPH) : Prop :=
  (zI x1 ∧ zI ((144 * (σ 58 35)) + 144)) ∧
  (((144 * (σ 58 35)) + 144) ≤ x1 →
    X none σ) ∧
  (x1 < ((144 * (σ 58 35)) + 144) →
    (0 ≤ x1 ∧ x1 < 288) ∧
    ∀ σ116 : zPH, σ116 = zupd σ 67 x1.toNat 0 →
    K94 (x1 + 1) σ116)
set_option maxHeartbeats 4000000 in
theorem kb_M_fresh_94 {G : zG} {X : zX} {K94 : Int → zPH → Prop} (hK94 : ∀ (y0 : Int) (σ : zPH), K94 y0 σ → PW G zm_M_fresh 0 X 94 [some (zr G 58), some (iZ y0)] [] σ) {x1 : Int} {σ : zPH} (h : b_M_fresh_94 G  X K94 x1 σ) : PW G zm_M_fresh 0 X 94 [some (zr G 58), some (iZ x1)] [] σ := by
  unfold b_M_fresh_94 at h
  refine PW_iload_n zd_M_fresh_94 rfl ?_
  refine PW_sipush zd_M_fresh_95 rfl ?_
  refine PW_aload_n zd_M_fresh_98 rfl ?_
  refine PW_getI zd_M_fresh_99 zf_M_118 (zs_58 _) rfl ?_
  refine PW_imul zd_M_fresh_102 ?_
  refine PW_sipush zd_M_fresh_103 rfl ?_
  refine PW_iadd zd_M_fresh_106 ?_
  obtain ⟨h0, hT, hF⟩ := h
  refine PW_icmp_ge zd_M_fresh_107 h0 (fun q => ?_) (fun q => ?_)
  · have h := hT q
    exact PW_vret zd_M_fresh_123 rfl h
  · have h := hF q
    refine PW_aload_n zd_M_fresh_110 rfl ?_
    refine PW_getR zd_M_fresh_111 zf_M_75 (zs_58 _) rfl ?_
    refine PW_iload_n zd_M_fresh_114 rfl ?_
    refine PW_iconst zd_M_fresh_115 ?_
    obtain ⟨h0, h⟩ := h
    refine PW_iastore zd_M_fresh_116 (zs_67 _) h0 ?_
    have h := h _ rfl
    refine PW_iinc zd_M_fresh_117 rfl rfl (by decide) (ls2 := [_, _]) rfl ?_
    refine PW_goto zd_M_fresh_120 ?_
    exact PW_sub (by exact ⟨rfl, rfl, trivial⟩) (hK94 _ _ h)
theorem kl_M_fresh_94 {G : zG} {X : zX} {x1 : Int} {σ : zPH} (h : zLP1 (b_M_fresh_94 G  X ) x1 σ) : PW G zm_M_fresh 0 X 94 [some (zr G 58), some (iZ x1)] [] σ := by
  obtain ⟨n, h⟩ := h
  induction n generalizing x1 σ with
  | zero => exact h.elim
  | succ n ih => exact kb_M_fresh_94   (fun _ _ h => ih h) h
def w_M_fresh (G : zG) (X : zX) (σ : zPH) : Prop :=
  ∀ σ7 : zPH, σ7 = zupd σ 58 35 (1 - (σ 58 13)) →
  (0 ≤ (σ7 58 35) ∧ (σ7 58 35) < 2) ∧
  ∀ σ19 : zPH, σ19 = zupd σ7 60 (σ7 58 35).toNat 0 →
  (0 ≤ (σ19 58 35) ∧ (σ19 58 35) < 2) ∧
  ∀ σ29 : zPH, σ29 = zupd σ19 61 (σ19 58 35).toNat 0 →
  (0 ≤ (σ29 58 35) ∧ (σ29 58 35) < 2) ∧
  ∀ σ39 : zPH, σ39 = zupd σ29 62 (σ29 58 35).toNat 0 →
  (0 ≤ (σ39 58 35) ∧ (σ39 58 35) < 2) ∧
  ∀ σ49 : zPH, σ49 = zupd σ39 63 (σ39 58 35).toNat 0 →
  (0 ≤ (σ49 58 35) ∧ (σ49 58 35) < 2) ∧
  ∀ σ59 : zPH, σ59 = zupd σ49 64 (σ49 58 35).toNat 0 →
  (0 ≤ (σ59 58 35) ∧ (σ59 58 35) < 2) ∧
  ∀ σ69 : zPH, σ69 = zupd σ59 65 (σ59 58 35).toNat 0 →
  (0 ≤ (σ69 58 35) ∧ (σ69 58 35) < 2) ∧
  ∀ σ79 : zPH, σ79 = zupd σ69 66 (σ69 58 35).toNat 0 →
  ∀ σ82 : zPH, σ82 = zupd σ79 58 34 0 →
  ∀ x1 : Int, x1 = (144 * (σ82 58 35)) →
  zLP1 (b_M_fresh_94 G  X ) x1 σ82
set_option maxHeartbeats 4000000 in
theorem k_M_fresh {G : zG} {X : zX} {σ : zPH} (h : w_M_fresh G  X σ) : MS G zm_M_fresh 0 [zr G 58] σ X := by
  refine ms_of zk_M_fresh (Nat.le_of_ble_eq_true rfl) (ls := [some (zr G 58), none]) rfl ?_
  unfold w_M_fresh at h
  refine PW_aload_n zd_M_fresh_0 rfl ?_
  refine PW_iconst zd_M_fresh_1 ?_
  refine PW_aload_n zd_M_fresh_2 rfl ?_
  refine PW_getI zd_M_fresh_3 zf_M_51 (zs_58 _) rfl ?_
  refine PW_isub zd_M_fresh_6 ?_
  refine PW_putI zd_M_fresh_7 zp_M_118 (zs_58 _) rfl ?_
  have h := h _ rfl
  refine PW_aload_n zd_M_fresh_10 rfl ?_
  refine PW_getR zd_M_fresh_11 zf_M_54 (zs_58 _) rfl ?_
  refine PW_aload_n zd_M_fresh_14 rfl ?_
  refine PW_getI zd_M_fresh_15 zf_M_118 (zs_58 _) rfl ?_
  refine PW_iconst zd_M_fresh_18 ?_
  obtain ⟨h0, h⟩ := h
  refine PW_iastore zd_M_fresh_19 (zs_60 _) h0 ?_
  have h := h _ rfl
  refine PW_aload_n zd_M_fresh_20 rfl ?_
  refine PW_getR zd_M_fresh_21 zf_M_57 (zs_58 _) rfl ?_
  refine PW_aload_n zd_M_fresh_24 rfl ?_
  refine PW_getI zd_M_fresh_25 zf_M_118 (zs_58 _) rfl ?_
  refine PW_iconst zd_M_fresh_28 ?_
  obtain ⟨h0, h⟩ := h
  refine PW_iastore zd_M_fresh_29 (zs_61 _) h0 ?_
  have h := h _ rfl
  refine PW_aload_n zd_M_fresh_30 rfl ?_
  refine PW_getR zd_M_fresh_31 zf_M_60 (zs_58 _) rfl ?_
  refine PW_aload_n zd_M_fresh_34 rfl ?_
  refine PW_getI zd_M_fresh_35 zf_M_118 (zs_58 _) rfl ?_
  refine PW_iconst zd_M_fresh_38 ?_
  obtain ⟨h0, h⟩ := h
  refine PW_iastore zd_M_fresh_39 (zs_62 _) h0 ?_
  have h := h _ rfl
  refine PW_aload_n zd_M_fresh_40 rfl ?_
  refine PW_getR zd_M_fresh_41 zf_M_63 (zs_58 _) rfl ?_
  refine PW_aload_n zd_M_fresh_44 rfl ?_
  refine PW_getI zd_M_fresh_45 zf_M_118 (zs_58 _) rfl ?_
  refine PW_iconst zd_M_fresh_48 ?_
  obtain ⟨h0, h⟩ := h
  refine PW_iastore zd_M_fresh_49 (zs_63 _) h0 ?_
  have h := h _ rfl
  refine PW_aload_n zd_M_fresh_50 rfl ?_
  refine PW_getR zd_M_fresh_51 zf_M_66 (zs_58 _) rfl ?_
  refine PW_aload_n zd_M_fresh_54 rfl ?_
  refine PW_getI zd_M_fresh_55 zf_M_118 (zs_58 _) rfl ?_
  refine PW_iconst zd_M_fresh_58 ?_
  obtain ⟨h0, h⟩ := h
  refine PW_iastore zd_M_fresh_59 (zs_64 _) h0 ?_
  have h := h _ rfl
  refine PW_aload_n zd_M_fresh_60 rfl ?_
  refine PW_getR zd_M_fresh_61 zf_M_69 (zs_58 _) rfl ?_
  refine PW_aload_n zd_M_fresh_64 rfl ?_
  refine PW_getI zd_M_fresh_65 zf_M_118 (zs_58 _) rfl ?_
  refine PW_iconst zd_M_fresh_68 ?_
  obtain ⟨h0, h⟩ := h
  refine PW_iastore zd_M_fresh_69 (zs_65 _) h0 ?_
  have h := h _ rfl
  refine PW_aload_n zd_M_fresh_70 rfl ?_
  refine PW_getR zd_M_fresh_71 zf_M_72 (zs_58 _) rfl ?_
  refine PW_aload_n zd_M_fresh_74 rfl ?_
  refine PW_getI zd_M_fresh_75 zf_M_118 (zs_58 _) rfl ?_
  refine PW_iconst zd_M_fresh_78 ?_
  obtain ⟨h0, h⟩ := h
  refine PW_iastore zd_M_fresh_79 (zs_66 _) h0 ?_
  have h := h _ rfl
  refine PW_aload_n zd_M_fresh_80 rfl ?_
  refine PW_iconst zd_M_fresh_81 ?_
  refine PW_putI zd_M_fresh_82 zp_M_115 (zs_58 _) rfl ?_
  have h := h _ rfl
  refine PW_sipush zd_M_fresh_85 rfl ?_
  refine PW_aload_n zd_M_fresh_88 rfl ?_
  refine PW_getI zd_M_fresh_89 zf_M_118 (zs_58 _) rfl ?_
  refine PW_imul zd_M_fresh_92 ?_
  refine PW_istore_n zd_M_fresh_93 rfl (by decide) (ls2 := [_, _]) rfl ?_
  have h := h _ rfl
  exact PW_sub (by exact ⟨rfl, rfl, trivial⟩) (kl_M_fresh_94   h)
def b_M_board_165 (G : zG) (X : zX) (K165 : Int → Int → zPH → Prop) (x1 x2 : Int) (σ : zPH) : Prop :=
  (zI x2) ∧
  (8 ≤ x2 →
    X (some (iZ x1)) σ) ∧
  (x2 < 8 →
    (0 ≤ x2 ∧ x2 < 8) ∧
    ∀ σ177 : zPH, σ177 = zupd σ 83 x2.toNat 0 →
    K165 x1 (x2 + 1) σ177)
set_option maxHeartbeats 4000000 in
theorem kb_M_board_165 {G : zG} {X : zX} {K165 : Int → Int → zPH → Prop} (hK165 : ∀ (y0 y1 : Int) (σ : zPH), K165 y0 y1 σ → PW G zm_M_board 8 X 165 [some (zr G 58), some (iZ y0), some (iZ y1)] [] σ) {x1 x2 : Int} {σ : zPH} (h : b_M_board_165 G  X K165 x1 x2 σ) : PW G zm_M_board 8 X 165 [some (zr G 58), some (iZ x1), some (iZ x2)] [] σ := by
  unfold b_M_board_165 at h
  refine PW_iload_n zd_M_board_165 rfl ?_
  refine PW_bipush zd_M_board_166 rfl ?_
  obtain ⟨h0, hT, hF⟩ := h
  refine PW_icmp_ge zd_M_board_168 ⟨h0, by decide⟩ (fun q => ?_) (fun q => ?_)
  · have h := hT q
    refine PW_iload_n zd_M_board_184 rfl ?_
    exact PW_iret zd_M_board_185 rfl h
  · have h := hF q
    refine PW_aload_n zd_M_board_171 rfl ?_
    refine PW_getR zd_M_board_172 zf_M_147 (zs_58 _) rfl ?_
    refine PW_iload_n zd_M_board_175 rfl ?_
    refine PW_iconst zd_M_board_176 ?_
    obtain ⟨h0, h⟩ := h
    refine PW_iastore zd_M_board_177 (zs_83 _) h0 ?_
    have h := h _ rfl
    refine PW_iinc zd_M_board_178 rfl rfl (by decide) (ls2 := [_, _, _]) rfl ?_
    refine PW_goto zd_M_board_181 ?_
    exact PW_sub (by exact ⟨rfl, rfl, rfl, trivial⟩) (hK165 _ _ _ h)
theorem kl_M_board_165 {G : zG} {X : zX} {x1 x2 : Int} {σ : zPH} (h : zLP2 (b_M_board_165 G  X ) x1 x2 σ) : PW G zm_M_board 8 X 165 [some (zr G 58), some (iZ x1), some (iZ x2)] [] σ := by
  obtain ⟨n, h⟩ := h
  induction n generalizing x1 x2 σ with
  | zero => exact h.elim
  | succ n ih => exact kb_M_board_165   (fun _ _ _ h => ih h) h
def b_M_board_111 (G : zG) (X : zX) (x1 : Int) (σ : zPH) : Prop :=
  MS G zm_M_eyesOfTests 1 [zr G 58] σ (fun v σ112 =>
    v = none ∧
    ∀ σ120 : zPH, σ120 = zupd σ112 58 2 (σ112 58 10) →
    ∀ σ128 : zPH, σ128 = zupd σ120 58 3 (σ120 58 11) →
    (zI (σ128 58 10)) ∧
    ((σ128 58 10) ≤ 0 →
      ∀ σ145 : zPH, σ145 = zupd σ128 58 13 (σ128 58 35) →
      ∀ σ150 : zPH, σ150 = zupd σ145 58 42 0 →
      ∀ σ155 : zPH, σ155 = zupd σ150 58 43 0 →
      ∀ σ160 : zPH, σ160 = zupd σ155 58 68 0 →
      zLP2 (b_M_board_165 G  X ) x1 0 σ160) ∧
    (0 < (σ128 58 10) →
      X (some (iZ (-1))) σ128))
set_option maxHeartbeats 4000000 in
theorem kb_M_board_111 {G : zG} {X : zX} {x1 : Int} {σ : zPH} (h : b_M_board_111 G  X  x1 σ) : PW G zm_M_board 8 X 111 [some (zr G 58), some (iZ x1), none] [] σ := by
  unfold b_M_board_111 at h
  refine PW_aload_n zd_M_board_111 rfl ?_
  refine PW_callV0v zd_M_board_112 zl_M_406 zk_M_eyesOfTests zv_M_eyesOfTests (fr' := 1) (by decide) (zs_58 _) rfl rfl (Nat.le_of_ble_eq_true rfl) ?_
  refine ms_mono h ?_
  rintro v σ1 ⟨rfl, h⟩
  refine ⟨rfl, ?_⟩
  refine PW_aload_n zd_M_board_115 rfl ?_
  refine PW_aload_n zd_M_board_116 rfl ?_
  refine PW_getI zd_M_board_117 zf_M_42 (zs_58 _) rfl ?_
  refine PW_putI zd_M_board_120 zp_M_17 (zs_58 _) rfl ?_
  have h := h _ rfl
  refine PW_aload_n zd_M_board_123 rfl ?_
  refine PW_aload_n zd_M_board_124 rfl ?_
  refine PW_getI zd_M_board_125 zf_M_45 (zs_58 _) rfl ?_
  refine PW_putI zd_M_board_128 zp_M_20 (zs_58 _) rfl ?_
  have h := h _ rfl
  refine PW_aload_n zd_M_board_131 rfl ?_
  refine PW_getI zd_M_board_132 zf_M_42 (zs_58 _) rfl ?_
  obtain ⟨h0, hT, hF⟩ := h
  refine PW_if_le zd_M_board_135 h0 (fun q => ?_) (fun q => ?_)
  · have h := hT q
    refine PW_aload_n zd_M_board_140 rfl ?_
    refine PW_aload_n zd_M_board_141 rfl ?_
    refine PW_getI zd_M_board_142 zf_M_118 (zs_58 _) rfl ?_
    refine PW_putI zd_M_board_145 zp_M_51 (zs_58 _) rfl ?_
    have h := h _ rfl
    refine PW_aload_n zd_M_board_148 rfl ?_
    refine PW_iconst zd_M_board_149 ?_
    refine PW_putI zd_M_board_150 zp_M_141 (zs_58 _) rfl ?_
    have h := h _ rfl
    refine PW_aload_n zd_M_board_153 rfl ?_
    refine PW_iconst zd_M_board_154 ?_
    refine PW_putI zd_M_board_155 zp_M_144 (zs_58 _) rfl ?_
    have h := h _ rfl
    refine PW_aload_n zd_M_board_158 rfl ?_
    refine PW_iconst zd_M_board_159 ?_
    refine PW_putI zd_M_board_160 zp_M_219 (zs_58 _) rfl ?_
    have h := h _ rfl
    refine PW_iconst zd_M_board_163 ?_
    refine PW_istore_n zd_M_board_164 rfl (by decide) (ls2 := [_, _, _]) rfl ?_
    exact PW_sub (by exact ⟨rfl, rfl, rfl, trivial⟩) (kl_M_board_165   h)
  · have h := hF q
    refine PW_iconst zd_M_board_138 ?_
    exact PW_iret zd_M_board_139 rfl h
def b_M_board_105 (G : zG) (X : zX) (K45 : Int → zPH → Prop) (x1 : Int) (σ : zPH) : Prop :=
  K45 (x1 + 1) σ
set_option maxHeartbeats 4000000 in
theorem kb_M_board_105 {G : zG} {X : zX} {K45 : Int → zPH → Prop} (hK45 : ∀ (y0 : Int) (σ : zPH), K45 y0 σ → PW G zm_M_board 8 X 45 [some (zr G 58), some (iZ y0), none] [] σ) {x1 : Int} {σ : zPH} (h : b_M_board_105 G  X K45 x1 σ) : PW G zm_M_board 8 X 105 [some (zr G 58), some (iZ x1), none] [] σ := by
  unfold b_M_board_105 at h
  refine PW_iinc zd_M_board_105 rfl rfl (by decide) (ls2 := [_, _, _]) rfl ?_
  refine PW_goto zd_M_board_108 ?_
  exact PW_sub (by exact ⟨rfl, rfl, trivial⟩) (hK45 _ _ h)
def b_M_board_94 (G : zG) (X : zX) (K45 : Int → zPH → Prop) (x1 : Int) (σ : zPH) : Prop :=
  (zI (σ 58 10)) ∧
  ((σ 58 10) ≠ 0 →
    b_M_board_105 G  X K45 x1 σ) ∧
  ((σ 58 10) = 0 →
    MS G zm_M_statement 7 [zr G 58] σ (fun v σ102 =>
      v = none ∧
      b_M_board_105 G  X K45 x1 σ102))
set_option maxHeartbeats 4000000 in
theorem kb_M_board_94 {G : zG} {X : zX} {K45 : Int → zPH → Prop} (hK45 : ∀ (y0 : Int) (σ : zPH), K45 y0 σ → PW G zm_M_board 8 X 45 [some (zr G 58), some (iZ y0), none] [] σ) {x1 : Int} {σ : zPH} (h : b_M_board_94 G  X K45 x1 σ) : PW G zm_M_board 8 X 94 [some (zr G 58), some (iZ x1), none] [] σ := by
  unfold b_M_board_94 at h
  refine PW_aload_n zd_M_board_94 rfl ?_
  refine PW_getI zd_M_board_95 zf_M_42 (zs_58 _) rfl ?_
  obtain ⟨h0, hT, hF⟩ := h
  refine PW_if_ne zd_M_board_98 h0 (fun q => ?_) (fun q => ?_)
  · have h := hT q
    exact PW_sub (by exact ⟨rfl, rfl, trivial⟩) (kb_M_board_105  hK45 h)
  · have h := hF q
    refine PW_aload_n zd_M_board_101 rfl ?_
    refine PW_callV0v zd_M_board_102 zl_M_403 zk_M_statement zv_M_statement (fr' := 7) (by decide) (zs_58 _) rfl rfl (Nat.le_of_ble_eq_true rfl) ?_
    refine ms_mono h ?_
    rintro v σ1 ⟨rfl, h⟩
    refine ⟨rfl, ?_⟩
    exact PW_sub (by exact ⟨rfl, rfl, trivial⟩) (kb_M_board_105  hK45 h)
def b_M_board_45 (G : zG) (X : zX) (K45 : Int → zPH → Prop) (x1 : Int) (σ : zPH) : Prop :=
  (zI (σ 58 10)) ∧
  ((σ 58 10) ≠ 0 →
    b_M_board_111 G  X  x1 σ) ∧
  ((σ 58 10) = 0 →
    (zI (σ 58 7)) ∧
    ((σ 58 7) = 0 →
      b_M_board_111 G  X  x1 σ) ∧
    ((σ 58 7) ≠ 0 →
      (zI x1) ∧
      (x1 ≠ 60 →
        (zI (σ 58 12)) ∧
        ((σ 58 12) = (-1) →
          b_M_board_94 G  X K45 x1 σ) ∧
        ((σ 58 12) ≠ (-1) →
          MS G zm_M_blame 0 [zr G 58, iZ 1, iZ (σ 58 12)] σ (fun v σ91 =>
            v = none ∧
            b_M_board_94 G  X K45 x1 σ91))) ∧
      (x1 = 60 →
        MS G zm_M_blame 0 [zr G 58, iZ 5, iZ (σ 58 5)] σ (fun v σ71 =>
          v = none ∧
          b_M_board_94 G  X K45 x1 σ71))))
set_option maxHeartbeats 4000000 in
theorem kb_M_board_45 {G : zG} {X : zX} {K45 : Int → zPH → Prop} (hK45 : ∀ (y0 : Int) (σ : zPH), K45 y0 σ → PW G zm_M_board 8 X 45 [some (zr G 58), some (iZ y0), none] [] σ) {x1 : Int} {σ : zPH} (h : b_M_board_45 G  X K45 x1 σ) : PW G zm_M_board 8 X 45 [some (zr G 58), some (iZ x1), none] [] σ := by
  unfold b_M_board_45 at h
  refine PW_aload_n zd_M_board_45 rfl ?_
  refine PW_getI zd_M_board_46 zf_M_42 (zs_58 _) rfl ?_
  obtain ⟨h0, hT, hF⟩ := h
  refine PW_if_ne zd_M_board_49 h0 (fun q => ?_) (fun q => ?_)
  · have h := hT q
    exact PW_sub (by exact ⟨rfl, rfl, trivial⟩) (kb_M_board_111   h)
  · have h := hF q
    refine PW_aload_n zd_M_board_52 rfl ?_
    refine PW_getI zd_M_board_53 zf_M_32 (zs_58 _) rfl ?_
    obtain ⟨h0, hT, hF⟩ := h
    refine PW_if_eq zd_M_board_56 h0 (fun q => ?_) (fun q => ?_)
    · have h := hT q
      exact PW_sub (by exact ⟨rfl, rfl, trivial⟩) (kb_M_board_111   h)
    · have h := hF q
      refine PW_iload_n zd_M_board_59 rfl ?_
      refine PW_bipush zd_M_board_60 rfl ?_
      obtain ⟨h0, hT, hF⟩ := h
      refine PW_icmp_ne zd_M_board_62 ⟨h0, by decide⟩ (fun q => ?_) (fun q => ?_)
      · have h := hT q
        refine PW_aload_n zd_M_board_77 rfl ?_
        refine PW_getI zd_M_board_78 zf_M_48 (zs_58 _) rfl ?_
        refine PW_iconst zd_M_board_81 ?_
        obtain ⟨h0, hT, hF⟩ := h
        refine PW_icmp_eq zd_M_board_82 ⟨h0, by decide⟩ (fun q => ?_) (fun q => ?_)
        · have h := hT q
          exact PW_sub (by exact ⟨rfl, rfl, trivial⟩) (kb_M_board_94  hK45 h)
        · have h := hF q
          refine PW_aload_n zd_M_board_85 rfl ?_
          refine PW_iconst zd_M_board_86 ?_
          refine PW_aload_n zd_M_board_87 rfl ?_
          refine PW_getI zd_M_board_88 zf_M_48 (zs_58 _) rfl ?_
          refine PW_callV2v zd_M_board_91 zl_M_295 zk_M_blame zv_M_blame (fr' := 0) (by decide) (zs_58 _) rfl rfl (Nat.le_of_ble_eq_true rfl) ?_
          refine ms_mono h ?_
          rintro v σ1 ⟨rfl, h⟩
          refine ⟨rfl, ?_⟩
          exact PW_sub (by exact ⟨rfl, rfl, trivial⟩) (kb_M_board_94  hK45 h)
      · have h := hF q
        refine PW_aload_n zd_M_board_65 rfl ?_
        refine PW_iconst zd_M_board_66 ?_
        refine PW_aload_n zd_M_board_67 rfl ?_
        refine PW_getI zd_M_board_68 zf_M_26 (zs_58 _) rfl ?_
        refine PW_callV2v zd_M_board_71 zl_M_295 zk_M_blame zv_M_blame (fr' := 0) (by decide) (zs_58 _) rfl rfl (Nat.le_of_ble_eq_true rfl) ?_
        refine ms_mono h ?_
        rintro v σ1 ⟨rfl, h⟩
        refine ⟨rfl, ?_⟩
        refine PW_goto zd_M_board_74 ?_
        exact PW_sub (by exact ⟨rfl, rfl, trivial⟩) (kb_M_board_94  hK45 h)
theorem kl_M_board_45 {G : zG} {X : zX} {x1 : Int} {σ : zPH} (h : zLP1 (b_M_board_45 G  X ) x1 σ) : PW G zm_M_board 8 X 45 [some (zr G 58), some (iZ x1), none] [] σ := by
  obtain ⟨n, h⟩ := h
  induction n generalizing x1 σ with
  | zero => exact h.elim
  | succ n ih => exact kb_M_board_45   (fun _ _ h => ih h) h
def w_M_board (G : zG) (X : zX) (σ : zPH) : Prop :=
  ∀ σ5 : zPH, σ5 = zupd σ 58 4 (σ 58 1) →
  ∀ σ10 : zPH, σ10 = zupd σ5 58 1 0 →
  ∀ σ15 : zPH, σ15 = zupd σ10 58 6 0 →
  ∀ σ20 : zPH, σ20 = zupd σ15 58 10 0 →
  ∀ σ25 : zPH, σ25 = zupd σ20 58 11 (-1) →
  MS G zm_M_fresh 0 [zr G 58] σ25 (fun v σ29 =>
    v = none ∧
    MS G zm_M_next 2 [zr G 58] σ29 (fun v σ35 =>
      v = none ∧
      MS G zm_M_sizes 4 [zr G 58] σ35 (fun v σ39 =>
        v = none ∧
        zLP1 (b_M_board_45 G  X ) (0 + 1) σ39)))
set_option maxHeartbeats 4000000 in
theorem k_M_board {G : zG} {X : zX} {σ : zPH} (h : w_M_board G  X σ) : MS G zm_M_board 8 [zr G 58] σ X := by
  refine ms_of zk_M_board (Nat.le_of_ble_eq_true rfl) (ls := [some (zr G 58), none, none]) rfl ?_
  unfold w_M_board at h
  refine PW_aload_n zd_M_board_0 rfl ?_
  refine PW_aload_n zd_M_board_1 rfl ?_
  refine PW_getI zd_M_board_2 zf_M_13 (zs_58 _) rfl ?_
  refine PW_putI zd_M_board_5 zp_M_23 (zs_58 _) rfl ?_
  have h := h _ rfl
  refine PW_aload_n zd_M_board_8 rfl ?_
  refine PW_iconst zd_M_board_9 ?_
  refine PW_putI zd_M_board_10 zp_M_13 (zs_58 _) rfl ?_
  have h := h _ rfl
  refine PW_aload_n zd_M_board_13 rfl ?_
  refine PW_iconst zd_M_board_14 ?_
  refine PW_putI zd_M_board_15 zp_M_29 (zs_58 _) rfl ?_
  have h := h _ rfl
  refine PW_aload_n zd_M_board_18 rfl ?_
  refine PW_iconst zd_M_board_19 ?_
  refine PW_putI zd_M_board_20 zp_M_42 (zs_58 _) rfl ?_
  have h := h _ rfl
  refine PW_aload_n zd_M_board_23 rfl ?_
  refine PW_iconst zd_M_board_24 ?_
  refine PW_putI zd_M_board_25 zp_M_45 (zs_58 _) rfl ?_
  have h := h _ rfl
  refine PW_aload_n zd_M_board_28 rfl ?_
  refine PW_callV0v zd_M_board_29 zl_M_397 zk_M_fresh zv_M_fresh (fr' := 0) (by decide) (zs_58 _) rfl rfl (Nat.le_of_ble_eq_true rfl) ?_
  refine ms_mono h ?_
  rintro v σ1 ⟨rfl, h⟩
  refine ⟨rfl, ?_⟩
  refine PW_iconst zd_M_board_32 ?_
  refine PW_istore_n zd_M_board_33 rfl (by decide) (ls2 := [_, _, _]) rfl ?_
  refine PW_aload_n zd_M_board_34 rfl ?_
  refine PW_callV0v zd_M_board_35 zl_M_317 zk_M_next zv_M_next (fr' := 2) (by decide) (zs_58 _) rfl rfl (Nat.le_of_ble_eq_true rfl) ?_
  refine ms_mono h ?_
  rintro v σ1 ⟨rfl, h⟩
  refine ⟨rfl, ?_⟩
  refine PW_aload_n zd_M_board_38 rfl ?_
  refine PW_callV0v zd_M_board_39 zl_M_400 zk_M_sizes zv_M_sizes (fr' := 4) (by decide) (zs_58 _) rfl rfl (Nat.le_of_ble_eq_true rfl) ?_
  refine ms_mono h ?_
  rintro v σ1 ⟨rfl, h⟩
  refine ⟨rfl, ?_⟩
  refine PW_iinc zd_M_board_42 rfl rfl (by decide) (ls2 := [_, _, _]) rfl ?_
  exact PW_sub (by exact ⟨rfl, rfl, trivial⟩) (kl_M_board_45   h)
