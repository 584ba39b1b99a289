def w_B_feed (G : zG) (a b c d e : Int) (X : zX) (σ : zPH) : Prop :=
  (zI ((σ 0 1) + 20)) ∧
  (((σ 0 1) + 20) ≤ 1600 →
    MS G zm_B_putOnTape 0 [zr G 0, iZ a] σ (fun v σ17 =>
      v = none ∧
      MS G zm_B_putOnTape 0 [zr G 0, iZ b] σ17 (fun v σ22 =>
        v = none ∧
        MS G zm_B_putOnTape 0 [zr G 0, iZ c] σ22 (fun v σ27 =>
          v = none ∧
          MS G zm_B_putOnTape 0 [zr G 0, iZ d] σ27 (fun v σ33 =>
            v = none ∧
            MS G zm_B_putOnTape 0 [zr G 0, iZ e] σ33 (fun v σ39 =>
              v = none ∧
              X (some (iZ (σ39 0 1))) σ39)))))) ∧
  (1600 < ((σ 0 1) + 20) →
    X (some (iZ (-1))) σ)
set_option maxHeartbeats 4000000 in
theorem k_B_feed {G : zG} {a b c d e : Int} {X : zX} {σ : zPH} (h : w_B_feed G a b c d e X σ) : MS G zm_B_feed 1 [zr G 0, iZ a, iZ b, iZ c, iZ d, iZ e] σ X := by
  refine ms_of zk_B_feed (Nat.le_of_ble_eq_true rfl) (ls := [some (zr G 0), some (iZ a), some (iZ b), some (iZ c), some (iZ d), some (iZ e)]) rfl ?_
  unfold w_B_feed at h
  refine PW_aload_n zd_B_feed_0 rfl ?_
  refine PW_getI zd_B_feed_1 zf_B_54 (zs_0 _) rfl ?_
  refine PW_bipush zd_B_feed_4 rfl ?_
  refine PW_iadd zd_B_feed_6 ?_
  refine PW_sipush zd_B_feed_7 rfl ?_
  obtain ⟨h0, hT, hF⟩ := h
  refine PW_icmp_le zd_B_feed_10 ⟨h0, by decide⟩ (fun q => ?_) (fun q => ?_)
  · have h := hT q
    refine PW_aload_n zd_B_feed_15 rfl ?_
    refine PW_iload_n zd_B_feed_16 rfl ?_
    refine PW_callV1v zd_B_feed_17 zl_B_58 zk_B_putOnTape zv_B_putOnTape (fr' := 0) (by decide) (zs_0 _) rfl rfl (Nat.le_of_ble_eq_true rfl) ?_
    refine ms_mono h ?_
    rintro v σ1 ⟨rfl, h⟩
    refine ⟨rfl, ?_⟩
    refine PW_aload_n zd_B_feed_20 rfl ?_
    refine PW_iload_n zd_B_feed_21 rfl ?_
    refine PW_callV1v zd_B_feed_22 zl_B_58 zk_B_putOnTape zv_B_putOnTape (fr' := 0) (by decide) (zs_0 _) rfl rfl (Nat.le_of_ble_eq_true rfl) ?_
    refine ms_mono h ?_
    rintro v σ1 ⟨rfl, h⟩
    refine ⟨rfl, ?_⟩
    refine PW_aload_n zd_B_feed_25 rfl ?_
    refine PW_iload_n zd_B_feed_26 rfl ?_
    refine PW_callV1v zd_B_feed_27 zl_B_58 zk_B_putOnTape zv_B_putOnTape (fr' := 0) (by decide) (zs_0 _) rfl rfl (Nat.le_of_ble_eq_true rfl) ?_
    refine ms_mono h ?_
    rintro v σ1 ⟨rfl, h⟩
    refine ⟨rfl, ?_⟩
    refine PW_aload_n zd_B_feed_30 rfl ?_
    refine PW_iload zd_B_feed_31 rfl ?_
    refine PW_callV1v zd_B_feed_33 zl_B_58 zk_B_putOnTape zv_B_putOnTape (fr' := 0) (by decide) (zs_0 _) rfl rfl (Nat.le_of_ble_eq_true rfl) ?_
    refine ms_mono h ?_
    rintro v σ1 ⟨rfl, h⟩
    refine ⟨rfl, ?_⟩
    refine PW_aload_n zd_B_feed_36 rfl ?_
    refine PW_iload zd_B_feed_37 rfl ?_
    refine PW_callV1v zd_B_feed_39 zl_B_58 zk_B_putOnTape zv_B_putOnTape (fr' := 0) (by decide) (zs_0 _) rfl rfl (Nat.le_of_ble_eq_true rfl) ?_
    refine ms_mono h ?_
    rintro v σ1 ⟨rfl, h⟩
    refine ⟨rfl, ?_⟩
    refine PW_aload_n zd_B_feed_42 rfl ?_
    refine PW_getI zd_B_feed_43 zf_B_54 (zs_0 _) rfl ?_
    exact PW_iret zd_B_feed_46 rfl h
  · have h := hF q
    refine PW_iconst zd_B_feed_13 ?_
    exact PW_iret zd_B_feed_14 rfl h
def b_B_putOnTape_3 (G : zG) (number : Int) (X : zX) (K3 : Int → zPH → Prop) (x2 : Int) (σ : zPH) : Prop :=
  (zI x2) ∧
  (x2 < 0 →
    X none σ) ∧
  (0 ≤ x2 →
    (zI (σ 0 1)) ∧
    (1600 ≤ (σ 0 1) →
      X none σ) ∧
    ((σ 0 1) < 1600 →
      (zI number ∧ 0 ≤ x2 ∧ x2 < 32) ∧
      (0 ≤ (σ 0 1) ∧ (σ 0 1) < 1600) ∧
      ∀ σ32 : zPH, σ32 = zupd σ 1 (σ 0 1).toNat ((number / 2 ^ x2.toNat) % 256) →
      ∀ σ40 : zPH, σ40 = zupd σ32 0 1 ((σ32 0 1) + 1) →
      K3 (x2 + (-8)) σ40))
set_option maxHeartbeats 4000000 in
theorem kb_B_putOnTape_3 {G : zG} {number : Int} {X : zX} {K3 : Int → zPH → Prop} (hK3 : ∀ (y0 : Int) (σ : zPH), K3 y0 σ → PW G zm_B_putOnTape 0 X 3 [some (zr G 0), some (iZ number), some (iZ y0)] [] σ) {x2 : Int} {σ : zPH} (h : b_B_putOnTape_3 G number X K3 x2 σ) : PW G zm_B_putOnTape 0 X 3 [some (zr G 0), some (iZ number), some (iZ x2)] [] σ := by
  unfold b_B_putOnTape_3 at h
  refine PW_iload_n zd_B_putOnTape_3 rfl ?_
  obtain ⟨h0, hT, hF⟩ := h
  refine PW_if_lt zd_B_putOnTape_4 h0 (fun q => ?_) (fun q => ?_)
  · have h := hT q
    exact PW_vret zd_B_putOnTape_49 rfl h
  · have h := hF q
    refine PW_aload_n zd_B_putOnTape_7 rfl ?_
    refine PW_getI zd_B_putOnTape_8 zf_B_54 (zs_0 _) rfl ?_
    refine PW_sipush zd_B_putOnTape_11 rfl ?_
    obtain ⟨h0, hT, hF⟩ := h
    refine PW_icmp_ge zd_B_putOnTape_14 ⟨h0, by decide⟩ (fun q => ?_) (fun q => ?_)
    · have h := hT q
      exact PW_vret zd_B_putOnTape_49 rfl h
    · have h := hF q
      refine PW_aload_n zd_B_putOnTape_17 rfl ?_
      refine PW_getR zd_B_putOnTape_18 zf_B_9 (zs_0 _) rfl ?_
      refine PW_aload_n zd_B_putOnTape_21 rfl ?_
      refine PW_getI zd_B_putOnTape_22 zf_B_54 (zs_0 _) rfl ?_
      refine PW_iload_n zd_B_putOnTape_25 rfl ?_
      refine PW_iload_n zd_B_putOnTape_26 rfl ?_
      obtain ⟨h0, h⟩ := h
      refine PW_ishr zd_B_putOnTape_27 h0 ?_
      refine PW_sipush zd_B_putOnTape_28 rfl ?_
      refine PW_iandm255 zd_B_putOnTape_31 ?_
      obtain ⟨h0, h⟩ := h
      refine PW_iastore zd_B_putOnTape_32 (zs_1 _) h0 ?_
      have h := h _ rfl
      refine PW_aload_n zd_B_putOnTape_33 rfl ?_
      refine PW_dup zd_B_putOnTape_34 rfl ?_
      refine PW_getI zd_B_putOnTape_35 zf_B_54 (zs_0 _) rfl ?_
      refine PW_iconst zd_B_putOnTape_38 ?_
      refine PW_iadd zd_B_putOnTape_39 ?_
      refine PW_putI zd_B_putOnTape_40 zp_B_54 (zs_0 _) rfl ?_
      have h := h _ rfl
      refine PW_iinc zd_B_putOnTape_43 rfl rfl (by decide) (ls2 := [_, _, _]) rfl ?_
      refine PW_goto zd_B_putOnTape_46 ?_
      exact PW_sub (by exact ⟨rfl, rfl, rfl, trivial⟩) (hK3 _ _ h)
theorem kl_B_putOnTape_3 {G : zG} {number : Int} {X : zX} {x2 : Int} {σ : zPH} (h : zLP1 (b_B_putOnTape_3 G number X ) x2 σ) : PW G zm_B_putOnTape 0 X 3 [some (zr G 0), some (iZ number), some (iZ x2)] [] σ := by
  obtain ⟨n, h⟩ := h
  induction n generalizing x2 σ with
  | zero => exact h.elim
  | succ n ih => exact kb_B_putOnTape_3   (fun _ _ h => ih h) h
def w_B_putOnTape (G : zG) (number : Int) (X : zX) (σ : zPH) : Prop :=
  zLP1 (b_B_putOnTape_3 G number X ) 24 σ
set_option maxHeartbeats 4000000 in
theorem k_B_putOnTape {G : zG} {number : Int} {X : zX} {σ : zPH} (h : w_B_putOnTape G number X σ) : MS G zm_B_putOnTape 0 [zr G 0, iZ number] σ X := by
  refine ms_of zk_B_putOnTape (Nat.le_of_ble_eq_true rfl) (ls := [some (zr G 0), some (iZ number), none]) rfl ?_
  unfold w_B_putOnTape at h
  refine PW_bipush zd_B_putOnTape_0 rfl ?_
  refine PW_istore_n zd_B_putOnTape_2 rfl (by decide) (ls2 := [_, _, _]) rfl ?_
  exact PW_sub (by exact ⟨rfl, rfl, rfl, trivial⟩) (kl_B_putOnTape_3   h)
def w_B_end (G : zG) (n : Int) (X : zX) (σ : zPH) : Prop :=
  (zI n) ∧
  (n < 0 →
    X (some (iZ 0)) σ) ∧
  (0 ≤ n →
    (zI n ∧ zI (σ 0 1)) ∧
    (n ≤ (σ 0 1) →
      ∀ σ16 : zPH, σ16 = zupd σ 0 1 n →
      X (some (iZ 1)) σ16) ∧
    ((σ 0 1) < n →
      X (some (iZ 0)) σ))
set_option maxHeartbeats 4000000 in
theorem k_B_end {G : zG} {n : Int} {X : zX} {σ : zPH} (h : w_B_end G n X σ) : MS G zm_B_end 0 [zr G 0, iZ n] σ X := by
  refine ms_of zk_B_end (Nat.le_of_ble_eq_true rfl) (ls := [some (zr G 0), some (iZ n)]) rfl ?_
  unfold w_B_end at h
  refine PW_iload_n zd_B_end_0 rfl ?_
  obtain ⟨h0, hT, hF⟩ := h
  refine PW_if_lt zd_B_end_1 h0 (fun q => ?_) (fun q => ?_)
  · have h := hT q
    refine PW_iconst zd_B_end_12 ?_
    exact PW_zret zd_B_end_13 rfl (by decide) h
  · have h := hF q
    refine PW_iload_n zd_B_end_4 rfl ?_
    refine PW_aload_n zd_B_end_5 rfl ?_
    refine PW_getI zd_B_end_6 zf_B_54 (zs_0 _) rfl ?_
    obtain ⟨h0, hT, hF⟩ := h
    refine PW_icmp_le zd_B_end_9 h0 (fun q => ?_) (fun q => ?_)
    · have h := hT q
      refine PW_aload_n zd_B_end_14 rfl ?_
      refine PW_iload_n zd_B_end_15 rfl ?_
      refine PW_putI zd_B_end_16 zp_B_54 (zs_0 _) rfl ?_
      have h := h _ rfl
      refine PW_iconst zd_B_end_19 ?_
      exact PW_zret zd_B_end_20 rfl (by decide) h
    · have h := hF q
      refine PW_iconst zd_B_end_12 ?_
      exact PW_zret zd_B_end_13 rfl (by decide) h
def w_B_board (G : zG) (rT : Nat) (rU : Nat) (X : zX) (σ : zPH) : Prop :=
  ∀ x1 : Int, x1 = (σ 0 1) →
  ∀ σ7 : zPH, σ7 = zupd σ 0 1 0 →
  MS G zm_R_read 42 [zr G 4, zr G 1, iZ x1] σ7 (fun v σ19 =>
    ∃ z19 : Int, v = some (iZ z19) ∧
    (zI z19) ∧
    (z19 ≠ (-1) →
      σ19 0 3 = ((rT : Nat) : Int) ∧
      MS G zm_R_giveTable 0 [zr G 4, zr G rT] σ19 (fun v σ39 =>
        v = some (zr G rU) ∧
        ∀ σ42 : zPH, σ42 = zupd σ39 0 3 ((rU : Nat) : Int) →
        ∀ σ47 : zPH, σ47 = zupd σ42 0 7 0 →
        ∀ σ52 : zPH, σ52 = zupd σ47 0 8 0 →
        ∀ σ57 : zPH, σ57 = zupd σ52 0 9 0 →
        ∀ σ62 : zPH, σ62 = zupd σ57 0 10 0 →
        ∀ σ70 : zPH, σ70 = zupd σ62 29 2 0 →
        X (some (iZ z19)) σ70)) ∧
    (z19 = (-1) →
      X (some (iZ (-1))) σ19))
set_option maxHeartbeats 4000000 in
theorem k_B_board {G : zG} {rT : Nat} {rU : Nat} {X : zX} (hrT : zisT rT) (hrU : zisT rU) {σ : zPH} (h : w_B_board G rT rU X σ) : MS G zm_B_board 43 [zr G 0] σ X := by
  refine ms_of zk_B_board (Nat.le_of_ble_eq_true rfl) (ls := [some (zr G 0), none, none]) rfl ?_
  unfold w_B_board at h
  refine PW_aload_n zd_B_board_0 rfl ?_
  refine PW_getI zd_B_board_1 zf_B_54 (zs_0 _) rfl ?_
  refine PW_istore_n zd_B_board_4 rfl (by decide) (ls2 := [_, _, _]) rfl ?_
  have h := h _ rfl
  refine PW_aload_n zd_B_board_5 rfl ?_
  refine PW_iconst zd_B_board_6 ?_
  refine PW_putI zd_B_board_7 zp_B_54 (zs_0 _) rfl ?_
  have h := h _ rfl
  refine PW_aload_n zd_B_board_10 rfl ?_
  refine PW_getR zd_B_board_11 zf_B_16 (zs_0 _) rfl ?_
  refine PW_aload_n zd_B_board_14 rfl ?_
  refine PW_getR zd_B_board_15 zf_B_9 (zs_0 _) rfl ?_
  refine PW_iload_n zd_B_board_18 rfl ?_
  refine PW_callV2i zd_B_board_19 zl_B_62 zk_R_read zv_R_read (fr' := 42) (by decide) (zs_4 _) rfl rfl (Nat.le_of_ble_eq_true rfl) ?_
  refine ms_mono h ?_
  rintro v σ1 ⟨z, rfl, h⟩
  refine ⟨z, rfl, ?_⟩
  refine PW_istore_n zd_B_board_22 rfl (by decide) (ls2 := [_, _, _]) rfl ?_
  refine PW_iload_n zd_B_board_23 rfl ?_
  refine PW_iconst zd_B_board_24 ?_
  obtain ⟨h0, hT, hF⟩ := h
  refine PW_icmp_ne zd_B_board_25 ⟨h0, by decide⟩ (fun q => ?_) (fun q => ?_)
  · have h := hT q
    refine PW_aload_n zd_B_board_30 rfl ?_
    refine PW_aload_n zd_B_board_31 rfl ?_
    refine PW_getR zd_B_board_32 zf_B_16 (zs_0 _) rfl ?_
    refine PW_aload_n zd_B_board_35 rfl ?_
    obtain ⟨h0, h⟩ := h
    refine PW_getD zd_B_board_36 zf_B_23 (zs_0 _) rfl h0 ?_
    refine PW_callV1r zd_B_board_39 zl_B_66 zk_R_giveTable zv_R_giveTable (fr' := 0) (by decide) (zs_4 _) rfl rfl (Nat.le_of_ble_eq_true rfl) ?_
    refine ms_mono h ?_
    rintro v σ1 ⟨rfl, h⟩
    refine ⟨_, rfl, ?_⟩
    refine PW_putD (r := rU) (fty := .object "BeamBoard$Table") zd_B_board_42 zp_B_23 (zs_0 _) rfl (by decide +kernel) (by simp) ?_
    have h := h _ rfl
    refine PW_aload_n zd_B_board_45 rfl ?_
    refine PW_iconst zd_B_board_46 ?_
    refine PW_putI zd_B_board_47 zp_B_70 (zs_0 _) rfl ?_
    have h := h _ rfl
    refine PW_aload_n zd_B_board_50 rfl ?_
    refine PW_iconst zd_B_board_51 ?_
    refine PW_putI zd_B_board_52 zp_B_73 (zs_0 _) rfl ?_
    have h := h _ rfl
    refine PW_aload_n zd_B_board_55 rfl ?_
    refine PW_iconst zd_B_board_56 ?_
    refine PW_putI zd_B_board_57 zp_B_76 (zs_0 _) rfl ?_
    have h := h _ rfl
    refine PW_aload_n zd_B_board_60 rfl ?_
    refine PW_iconst zd_B_board_61 ?_
    refine PW_putI zd_B_board_62 zp_B_79 (zs_0 _) rfl ?_
    have h := h _ rfl
    refine PW_aload_n zd_B_board_65 rfl ?_
    refine PW_getR zd_B_board_66 zf_B_47 (zs_0 _) rfl ?_
    refine PW_iconst zd_B_board_69 ?_
    refine PW_putI zd_B_board_70 zp_B_82 (zs_29 _) rfl ?_
    have h := h _ rfl
    refine PW_iload_n zd_B_board_73 rfl ?_
    exact PW_iret zd_B_board_74 rfl h
  · have h := hF q
    refine PW_iconst zd_B_board_28 ?_
    exact PW_iret zd_B_board_29 rfl h
def w_B_has (G : zG) (rT : Nat) (what : Int) (X : zX) (σ : zPH) : Prop :=
  zI what ∧
  (what = 0 →
    σ 0 3 = ((rT : Nat) : Int) ∧
    X (some (iZ (σ rT 0))) σ) ∧
  (what = 1 →
    σ 0 3 = ((rT : Nat) : Int) ∧
    X (some (iZ (σ rT 1))) σ) ∧
  (what = 2 →
    σ 0 3 = ((rT : Nat) : Int) ∧
    X (some (iZ (σ (rT + 8) 0))) σ) ∧
  (what = 3 →
    σ 0 3 = ((rT : Nat) : Int) ∧
    X (some (iZ (σ (rT + 8) 1))) σ) ∧
  (what = 4 →
    σ 0 3 = ((rT : Nat) : Int) ∧
    X (some (iZ (σ (rT + 8) 2))) σ) ∧
  (what = 5 →
    σ 0 3 = ((rT : Nat) : Int) ∧
    X (some (iZ (σ (rT + 8) 3))) σ) ∧
  (what = 6 →
    σ 0 3 = ((rT : Nat) : Int) ∧
    X (some (iZ (σ rT 4))) σ) ∧
  ((what < 0 ∨ 6 < what) →
    X (some (iZ (-1))) σ)
set_option maxHeartbeats 4000000 in
theorem k_B_has {G : zG} {rT : Nat} {what : Int} {X : zX} (hrT : zisT rT) {σ : zPH} (h : w_B_has G rT what X σ) : MS G zm_B_has 0 [zr G 0, iZ what] σ X := by
  refine ms_of zk_B_has (Nat.le_of_ble_eq_true rfl) (ls := [some (zr G 0), some (iZ what)]) rfl ?_
  unfold w_B_has at h
  refine PW_iload_n zd_B_has_0 rfl ?_
  obtain ⟨h0, h⟩ := h
  obtain ⟨hc0, hc1, hc2, hc3, hc4, hc5, hc6, hcd⟩ := h
  refine PW_tsplit 0 6 (fun c hx hlo hhi => ?_) (fun hx => ?_)
  · rcases (show c = 0 ∨ c = 1 ∨ c = 2 ∨ c = 3 ∨ c = 4 ∨ c = 5 ∨ c = 6 by omega) with rfl | rfl | rfl | rfl | rfl | rfl | rfl
    · refine PW_tsin (tgt := 44) zd_B_has_1 0 hx (by decide) rfl (by decide) ?_
      have h := hc0 (by omega)
      refine PW_aload_n zd_B_has_44 rfl ?_
      obtain ⟨h0, h⟩ := h
      refine PW_getD zd_B_has_45 zf_B_23 (zs_0 _) rfl h0 ?_
      refine PW_getI zd_B_has_48 zf_B_91 (zsT_0 hrT) rfl ?_
      exact PW_iret zd_B_has_51 rfl h
    · refine PW_tsin (tgt := 52) zd_B_has_1 1 hx (by decide) rfl (by decide) ?_
      have h := hc1 (by omega)
      refine PW_aload_n zd_B_has_52 rfl ?_
      obtain ⟨h0, h⟩ := h
      refine PW_getD zd_B_has_53 zf_B_23 (zs_0 _) rfl h0 ?_
      refine PW_getI zd_B_has_56 zf_B_94 (zsT_0 hrT) rfl ?_
      exact PW_iret zd_B_has_59 rfl h
    · refine PW_tsin (tgt := 60) zd_B_has_1 2 hx (by decide) rfl (by decide) ?_
      have h := hc2 (by omega)
      refine PW_aload_n zd_B_has_60 rfl ?_
      obtain ⟨h0, h⟩ := h
      refine PW_getD zd_B_has_61 zf_B_23 (zs_0 _) rfl h0 ?_
      refine PW_getR zd_B_has_64 zf_B_97 (zsT_0 hrT) rfl ?_
      refine PW_iconst zd_B_has_67 ?_
      refine PW_iaload zd_B_has_68 (zsT_8 hrT) (by decide) ?_
      exact PW_iret zd_B_has_69 rfl h
    · refine PW_tsin (tgt := 70) zd_B_has_1 3 hx (by decide) rfl (by decide) ?_
      have h := hc3 (by omega)
      refine PW_aload_n zd_B_has_70 rfl ?_
      obtain ⟨h0, h⟩ := h
      refine PW_getD zd_B_has_71 zf_B_23 (zs_0 _) rfl h0 ?_
      refine PW_getR zd_B_has_74 zf_B_97 (zsT_0 hrT) rfl ?_
      refine PW_iconst zd_B_has_77 ?_
      refine PW_iaload zd_B_has_78 (zsT_8 hrT) (by decide) ?_
      exact PW_iret zd_B_has_79 rfl h
    · refine PW_tsin (tgt := 80) zd_B_has_1 4 hx (by decide) rfl (by decide) ?_
      have h := hc4 (by omega)
      refine PW_aload_n zd_B_has_80 rfl ?_
      obtain ⟨h0, h⟩ := h
      refine PW_getD zd_B_has_81 zf_B_23 (zs_0 _) rfl h0 ?_
      refine PW_getR zd_B_has_84 zf_B_97 (zsT_0 hrT) rfl ?_
      refine PW_iconst zd_B_has_87 ?_
      refine PW_iaload zd_B_has_88 (zsT_8 hrT) (by decide) ?_
      exact PW_iret zd_B_has_89 rfl h
    · refine PW_tsin (tgt := 90) zd_B_has_1 5 hx (by decide) rfl (by decide) ?_
      have h := hc5 (by omega)
      refine PW_aload_n zd_B_has_90 rfl ?_
      obtain ⟨h0, h⟩ := h
      refine PW_getD zd_B_has_91 zf_B_23 (zs_0 _) rfl h0 ?_
      refine PW_getR zd_B_has_94 zf_B_97 (zsT_0 hrT) rfl ?_
      refine PW_iconst zd_B_has_97 ?_
      refine PW_iaload zd_B_has_98 (zsT_8 hrT) (by decide) ?_
      exact PW_iret zd_B_has_99 rfl h
    · refine PW_tsin (tgt := 100) zd_B_has_1 6 hx (by decide) rfl (by decide) ?_
      have h := hc6 (by omega)
      refine PW_aload_n zd_B_has_100 rfl ?_
      obtain ⟨h0, h⟩ := h
      refine PW_getD zd_B_has_101 zf_B_23 (zs_0 _) rfl h0 ?_
      refine PW_getI zd_B_has_104 zf_B_99 (zsT_0 hrT) rfl ?_
      exact PW_iret zd_B_has_107 rfl h
  · refine PW_tsout (tgt := 108) zd_B_has_1 (by omega) (by decide) ?_
    have h := hcd (by omega)
    refine PW_iconst zd_B_has_108 ?_
    exact PW_iret zd_B_has_109 rfl h
def w_B_square (G : zG) (rT : Nat) (column row what : Int) (X : zX) (σ : zPH) : Prop :=
  σ 0 3 = ((rT : Nat) : Int) ∧
  MS G zm_T_squareAt 0 [zr G rT, iZ column, iZ row] σ (fun v σ6 =>
    ∃ z6 : Int, v = some (iZ z6) ∧
    (zI z6) ∧
    (z6 ≠ (-1) →
      σ6 0 3 = ((rT : Nat) : Int) ∧
      (0 ≤ z6 ∧ z6 < 144) ∧
      ∀ x5 : Int, x5 = (σ6 (rT + 2) z6.toNat) →
      (zI what) ∧
      (what ≠ 0 →
        (zI x5) ∧
        (x5 ≠ (-1) →
          (zI what) ∧
          (what ≠ 1 →
            (zI what) ∧
            (what ≠ 2 →
              X (some (iZ (-1))) σ6) ∧
            (what = 2 →
              σ6 0 3 = ((rT : Nat) : Int) ∧
              MS G zm_T_lookNow 0 [zr G rT, iZ x5, iZ (σ6 0 7), iZ (σ6 0 8)] σ6 (fun v σ99 =>
                ∃ z99 : Int, v = some (iZ z99) ∧
                X (some (iZ z99)) σ99))) ∧
          (what = 1 →
            σ6 0 3 = ((rT : Nat) : Int) ∧
            (0 ≤ x5 ∧ x5 < 60) ∧
            X (some (iZ (σ6 (rT + 5) x5.toNat))) σ6)) ∧
        (x5 = (-1) →
          X (some (iZ (-1))) σ6)) ∧
      (what = 0 →
        (zI x5) ∧
        (x5 ≠ (-1) →
          σ6 0 3 = ((rT : Nat) : Int) ∧
          (0 ≤ x5 ∧ x5 < 60) ∧
          X (some (iZ (σ6 (rT + 4) x5.toNat))) σ6) ∧
        (x5 = (-1) →
          X (some (iZ 0)) σ6))) ∧
    (z6 = (-1) →
      X (some (iZ (-1))) σ6))
set_option maxHeartbeats 4000000 in
theorem k_B_square {G : zG} {rT : Nat} {column row what : Int} {X : zX} (hrT : zisT rT) {σ : zPH} (h : w_B_square G rT column row what X σ) : MS G zm_B_square 1 [zr G 0, iZ column, iZ row, iZ what] σ X := by
  refine ms_of zk_B_square (Nat.le_of_ble_eq_true rfl) (ls := [some (zr G 0), some (iZ column), some (iZ row), some (iZ what), none, none]) rfl ?_
  unfold w_B_square at h
  refine PW_aload_n zd_B_square_0 rfl ?_
  obtain ⟨h0, h⟩ := h
  refine PW_getD zd_B_square_1 zf_B_23 (zs_0 _) rfl h0 ?_
  refine PW_iload_n zd_B_square_4 rfl ?_
  refine PW_iload_n zd_B_square_5 rfl ?_
  refine PW_callV2i zd_B_square_6 zl_B_110 zk_T_squareAt zv_T_squareAt (fr' := 0) (by decide) (zsT_0 hrT) rfl rfl (Nat.le_of_ble_eq_true rfl) ?_
  refine ms_mono h ?_
  rintro v σ1 ⟨z, rfl, h⟩
  refine ⟨z, rfl, ?_⟩
  refine PW_istore zd_B_square_9 rfl (by decide) (ls2 := [_, _, _, _, _, _]) rfl ?_
  refine PW_iload zd_B_square_11 rfl ?_
  refine PW_iconst zd_B_square_13 ?_
  obtain ⟨h0, hT, hF⟩ := h
  refine PW_icmp_ne zd_B_square_14 ⟨h0, by decide⟩ (fun q => ?_) (fun q => ?_)
  · have h := hT q
    refine PW_aload_n zd_B_square_19 rfl ?_
    obtain ⟨h0, h⟩ := h
    refine PW_getD zd_B_square_20 zf_B_23 (zs_0 _) rfl h0 ?_
    refine PW_getR zd_B_square_23 zf_B_113 (zsT_0 hrT) rfl ?_
    refine PW_iload zd_B_square_26 rfl ?_
    obtain ⟨h0, h⟩ := h
    refine PW_iaload zd_B_square_28 (zsT_2 hrT) h0 ?_
    refine PW_istore zd_B_square_29 rfl (by decide) (ls2 := [_, _, _, _, _, _]) rfl ?_
    have h := h _ rfl
    refine PW_iload_n zd_B_square_31 rfl ?_
    obtain ⟨h0, hT, hF⟩ := h
    refine PW_if_ne zd_B_square_32 h0 (fun q => ?_) (fun q => ?_)
    · have h := hT q
      refine PW_iload zd_B_square_56 rfl ?_
      refine PW_iconst zd_B_square_58 ?_
      obtain ⟨h0, hT, hF⟩ := h
      refine PW_icmp_ne zd_B_square_59 ⟨h0, by decide⟩ (fun q => ?_) (fun q => ?_)
      · have h := hT q
        refine PW_iload_n zd_B_square_64 rfl ?_
        refine PW_iconst zd_B_square_65 ?_
        obtain ⟨h0, hT, hF⟩ := h
        refine PW_icmp_ne zd_B_square_66 ⟨h0, by decide⟩ (fun q => ?_) (fun q => ?_)
        · have h := hT q
          refine PW_iload_n zd_B_square_80 rfl ?_
          refine PW_iconst zd_B_square_81 ?_
          obtain ⟨h0, hT, hF⟩ := h
          refine PW_icmp_ne zd_B_square_82 ⟨h0, by decide⟩ (fun q => ?_) (fun q => ?_)
          · have h := hT q
            refine PW_iconst zd_B_square_105 ?_
            exact PW_iret zd_B_square_106 rfl h
          · have h := hF q
            refine PW_aload_n zd_B_square_85 rfl ?_
            obtain ⟨h0, h⟩ := h
            refine PW_getD zd_B_square_86 zf_B_23 (zs_0 _) rfl h0 ?_
            refine PW_iload zd_B_square_89 rfl ?_
            refine PW_aload_n zd_B_square_91 rfl ?_
            refine PW_getI zd_B_square_92 zf_B_70 (zs_0 _) rfl ?_
            refine PW_aload_n zd_B_square_95 rfl ?_
            refine PW_getI zd_B_square_96 zf_B_73 (zs_0 _) rfl ?_
            refine PW_callV3i zd_B_square_99 zl_B_122 zk_T_lookNow zv_T_lookNow (fr' := 0) (by decide) (zsT_0 hrT) rfl rfl (Nat.le_of_ble_eq_true rfl) ?_
            refine ms_mono h ?_
            rintro v σ1 ⟨z, rfl, h⟩
            refine ⟨z, rfl, ?_⟩
            refine PW_goto zd_B_square_102 ?_
            exact PW_iret zd_B_square_106 rfl h
        · have h := hF q
          refine PW_aload_n zd_B_square_69 rfl ?_
          obtain ⟨h0, h⟩ := h
          refine PW_getD zd_B_square_70 zf_B_23 (zs_0 _) rfl h0 ?_
          refine PW_getR zd_B_square_73 zf_B_119 (zsT_0 hrT) rfl ?_
          refine PW_iload zd_B_square_76 rfl ?_
          obtain ⟨h0, h⟩ := h
          refine PW_iaload zd_B_square_78 (zsT_5 hrT) h0 ?_
          exact PW_iret zd_B_square_79 rfl h
      · have h := hF q
        refine PW_iconst zd_B_square_62 ?_
        exact PW_iret zd_B_square_63 rfl h
    · have h := hF q
      refine PW_iload zd_B_square_35 rfl ?_
      refine PW_iconst zd_B_square_37 ?_
      obtain ⟨h0, hT, hF⟩ := h
      refine PW_icmp_ne zd_B_square_38 ⟨h0, by decide⟩ (fun q => ?_) (fun q => ?_)
      · have h := hT q
        refine PW_aload_n zd_B_square_45 rfl ?_
        obtain ⟨h0, h⟩ := h
        refine PW_getD zd_B_square_46 zf_B_23 (zs_0 _) rfl h0 ?_
        refine PW_getR zd_B_square_49 zf_B_116 (zsT_0 hrT) rfl ?_
        refine PW_iload zd_B_square_52 rfl ?_
        obtain ⟨h0, h⟩ := h
        refine PW_iaload zd_B_square_54 (zsT_4 hrT) h0 ?_
        exact PW_iret zd_B_square_55 rfl h
      · have h := hF q
        refine PW_iconst zd_B_square_41 ?_
        refine PW_goto zd_B_square_42 ?_
        exact PW_iret zd_B_square_55 rfl h
  · have h := hF q
    refine PW_iconst zd_B_square_17 ?_
    exact PW_iret zd_B_square_18 rfl h
def w_B_light (G : zG) (rT : Nat) (column row way : Int) (X : zX) (σ : zPH) : Prop :=
  σ 0 3 = ((rT : Nat) : Int) ∧
  MS G zm_T_squareAt 0 [zr G rT, iZ column, iZ row] σ (fun v σ6 =>
    ∃ z6 : Int, v = some (iZ z6) ∧
    (zI z6) ∧
    (z6 = (-1) →
      X (some (iZ (-1))) σ6) ∧
    (z6 ≠ (-1) →
      (zI way) ∧
      (way < 0 →
        X (some (iZ (-1))) σ6) ∧
      (0 ≤ way →
        (zI way) ∧
        (way < 4 →
          MS G zm_B_lightNow 5 [zr G 0] σ6 (fun v σ29 =>
            v = some (zr G 19) ∧
            (0 ≤ ((z6 * 4) + way) ∧ ((z6 * 4) + way) < 576) ∧
            X (some (iZ (σ29 20 ((z6 * 4) + way).toNat))) σ29)) ∧
        (4 ≤ way →
          X (some (iZ (-1))) σ6))))
set_option maxHeartbeats 4000000 in
theorem k_B_light {G : zG} {rT : Nat} {column row way : Int} {X : zX} (hrT : zisT rT) {σ : zPH} (h : w_B_light G rT column row way X σ) : MS G zm_B_light 6 [zr G 0, iZ column, iZ row, iZ way] σ X := by
  refine ms_of zk_B_light (Nat.le_of_ble_eq_true rfl) (ls := [some (zr G 0), some (iZ column), some (iZ row), some (iZ way), none]) rfl ?_
  unfold w_B_light at h
  refine PW_aload_n zd_B_light_0 rfl ?_
  obtain ⟨h0, h⟩ := h
  refine PW_getD zd_B_light_1 zf_B_23 (zs_0 _) rfl h0 ?_
  refine PW_iload_n zd_B_light_4 rfl ?_
  refine PW_iload_n zd_B_light_5 rfl ?_
  refine PW_callV2i zd_B_light_6 zl_B_110 zk_T_squareAt zv_T_squareAt (fr' := 0) (by decide) (zsT_0 hrT) rfl rfl (Nat.le_of_ble_eq_true rfl) ?_
  refine ms_mono h ?_
  rintro v σ1 ⟨z, rfl, h⟩
  refine ⟨z, rfl, ?_⟩
  refine PW_istore zd_B_light_9 rfl (by decide) (ls2 := [_, _, _, _, _]) rfl ?_
  refine PW_iload zd_B_light_11 rfl ?_
  refine PW_iconst zd_B_light_13 ?_
  obtain ⟨h0, hT, hF⟩ := h
  refine PW_icmp_eq zd_B_light_14 ⟨h0, by decide⟩ (fun q => ?_) (fun q => ?_)
  · have h := hT q
    refine PW_iconst zd_B_light_26 ?_
    exact PW_iret zd_B_light_27 rfl h
  · have h := hF q
    refine PW_iload_n zd_B_light_17 rfl ?_
    obtain ⟨h0, hT, hF⟩ := h
    refine PW_if_lt zd_B_light_18 h0 (fun q => ?_) (fun q => ?_)
    · have h := hT q
      refine PW_iconst zd_B_light_26 ?_
      exact PW_iret zd_B_light_27 rfl h
    · have h := hF q
      refine PW_iload_n zd_B_light_21 rfl ?_
      refine PW_iconst zd_B_light_22 ?_
      obtain ⟨h0, hT, hF⟩ := h
      refine PW_icmp_lt zd_B_light_23 ⟨h0, by decide⟩ (fun q => ?_) (fun q => ?_)
      · have h := hT q
        refine PW_aload_n zd_B_light_28 rfl ?_
        refine PW_callV0r zd_B_light_29 zl_B_143 zk_B_lightNow zv_B_lightNow (fr' := 5) (by decide) (zs_0 _) rfl rfl (Nat.le_of_ble_eq_true rfl) ?_
        refine ms_mono h ?_
        rintro v σ1 ⟨rfl, h⟩
        refine ⟨_, rfl, ?_⟩
        refine PW_getR zd_B_light_32 zf_B_147 (zs_19 _) rfl ?_
        refine PW_iload zd_B_light_35 rfl ?_
        refine PW_iconst zd_B_light_37 ?_
        refine PW_imul zd_B_light_38 ?_
        refine PW_iload_n zd_B_light_39 rfl ?_
        refine PW_iadd zd_B_light_40 ?_
        obtain ⟨h0, h⟩ := h
        refine PW_iaload zd_B_light_41 (zs_20 _) h0 ?_
        exact PW_iret zd_B_light_42 rfl h
      · have h := hF q
        refine PW_iconst zd_B_light_26 ?_
        exact PW_iret zd_B_light_27 rfl h
def w_B_sees (G : zG) (eye0 : Int) (X : zX) (σ : zPH) : Prop :=
  MS G zm_B_isNumber 0 [zr G 0, iZ eye0, iZ 3] σ (fun v σ3 =>
    (v = some (iZ 0) ∧
      X (some (iZ (-1))) σ3) ∨
    (v = some (iZ 1) ∧
      MS G zm_B_lightNow 5 [zr G 0] σ3 (fun v σ10 =>
        v = some (zr G 19) ∧
        (0 ≤ eye0 ∧ eye0 < 8) ∧
        X (some (iZ (σ10 21 eye0.toNat))) σ10)))
set_option maxHeartbeats 4000000 in
theorem k_B_sees {G : zG} {eye0 : Int} {X : zX} {σ : zPH} (h : w_B_sees G eye0 X σ) : MS G zm_B_sees 6 [zr G 0, iZ eye0] σ X := by
  refine ms_of zk_B_sees (Nat.le_of_ble_eq_true rfl) (ls := [some (zr G 0), some (iZ eye0)]) rfl ?_
  unfold w_B_sees at h
  refine PW_aload_n zd_B_sees_0 rfl ?_
  refine PW_iload_n zd_B_sees_1 rfl ?_
  refine PW_iconst zd_B_sees_2 ?_
  refine PW_callV2i zd_B_sees_3 zl_B_102 zk_B_isNumber zv_B_isNumber (fr' := 0) (by decide) (zs_0 _) rfl rfl (Nat.le_of_ble_eq_true rfl) ?_
  refine ms_mono h ?_
  rintro v σ1 (⟨rfl, h⟩ | ⟨rfl, h⟩)
  · refine ⟨0, rfl, ?_⟩
    refine PW_if_eq zd_B_sees_6 (by decide) (fun _ => ?_) (fun q => absurd rfl q)
    refine PW_iconst zd_B_sees_21 ?_
    exact PW_iret zd_B_sees_22 rfl h
  · refine ⟨1, rfl, ?_⟩
    refine PW_if_eq zd_B_sees_6 (by decide) (fun q => absurd q (by decide)) (fun _ => ?_)
    refine PW_aload_n zd_B_sees_9 rfl ?_
    refine PW_callV0r zd_B_sees_10 zl_B_143 zk_B_lightNow zv_B_lightNow (fr' := 5) (by decide) (zs_0 _) rfl rfl (Nat.le_of_ble_eq_true rfl) ?_
    refine ms_mono h ?_
    rintro v σ1 ⟨rfl, h⟩
    refine ⟨_, rfl, ?_⟩
    refine PW_getR zd_B_sees_13 zf_B_160 (zs_19 _) rfl ?_
    refine PW_iload_n zd_B_sees_16 rfl ?_
    obtain ⟨h0, h⟩ := h
    refine PW_iaload zd_B_sees_17 (zs_21 _) h0 ?_
    refine PW_goto zd_B_sees_18 ?_
    exact PW_iret zd_B_sees_22 rfl h
def b_B_behind_51 (G : zG) (rT : Nat) (eye0 : Int) (X : zX) (K15 : Int → Int → zPH → Prop) (x2 x3 : Int) (σ : zPH) : Prop :=
  K15 x2 (x3 + 1) σ
set_option maxHeartbeats 4000000 in
theorem kb_B_behind_51 {G : zG} {rT : Nat} {eye0 : Int} {X : zX} {K15 : Int → Int → zPH → Prop} (hrT : zisT rT) (hK15 : ∀ (y0 y1 : Int) (σ : zPH), K15 y0 y1 σ → PW G zm_B_behind 5 X 15 [some (zr G 0), some (iZ eye0), some (iZ y0), some (iZ y1)] [] σ) {x2 x3 : Int} {σ : zPH} (h : b_B_behind_51 G rT eye0 X K15 x2 x3 σ) : PW G zm_B_behind 5 X 51 [some (zr G 0), some (iZ eye0), some (iZ x2), some (iZ x3)] [] σ := by
  unfold b_B_behind_51 at h
  refine PW_iinc zd_B_behind_51 rfl rfl (by decide) (ls2 := [_, _, _, _]) rfl ?_
  refine PW_goto zd_B_behind_54 ?_
  exact PW_sub (by exact ⟨rfl, rfl, rfl, rfl, trivial⟩) (hK15 _ _ _ h)
def b_B_behind_15 (G : zG) (rT : Nat) (eye0 : Int) (X : zX) (K15 : Int → Int → zPH → Prop) (x2 x3 : Int) (σ : zPH) : Prop :=
  σ 0 3 = ((rT : Nat) : Int) ∧
  (zI x3 ∧ zI (σ (rT + 8) 0)) ∧
  ((σ (rT + 8) 0) ≤ x3 →
    X (some (iZ x2)) σ) ∧
  (x3 < (σ (rT + 8) 0) →
    (0 ≤ x3 ∧ x3 < 32) ∧
    MS G zm_B_lightOf 4 [zr G 0, iZ ((1 : Int) * 2 ^ x3.toNat), iZ 7] σ (fun v σ34 =>
      v = some (zr G 19) ∧
      (0 ≤ eye0 ∧ eye0 < 8) ∧
      (zI (σ34 21 eye0.toNat)) ∧
      ((σ34 21 eye0.toNat) = 0 →
        b_B_behind_51 G rT eye0 X K15 x2 x3 σ34) ∧
      ((σ34 21 eye0.toNat) ≠ 0 →
        (0 ≤ x3 ∧ x3 < 32) ∧
        (0 ≤ x2 ∧ 0 ≤ ((1 : Int) * 2 ^ x3.toNat)) ∧
        ∀ x2_ : Int, x2_ = (zor x2 ((1 : Int) * 2 ^ x3.toNat)) →
        b_B_behind_51 G rT eye0 X K15 x2_ x3 σ34)))
set_option maxHeartbeats 4000000 in
theorem kb_B_behind_15 {G : zG} {rT : Nat} {eye0 : Int} {X : zX} {K15 : Int → Int → zPH → Prop} (hrT : zisT rT) (hK15 : ∀ (y0 y1 : Int) (σ : zPH), K15 y0 y1 σ → PW G zm_B_behind 5 X 15 [some (zr G 0), some (iZ eye0), some (iZ y0), some (iZ y1)] [] σ) {x2 x3 : Int} {σ : zPH} (h : b_B_behind_15 G rT eye0 X K15 x2 x3 σ) : PW G zm_B_behind 5 X 15 [some (zr G 0), some (iZ eye0), some (iZ x2), some (iZ x3)] [] σ := by
  unfold b_B_behind_15 at h
  refine PW_iload_n zd_B_behind_15 rfl ?_
  refine PW_aload_n zd_B_behind_16 rfl ?_
  obtain ⟨h0, h⟩ := h
  refine PW_getD zd_B_behind_17 zf_B_23 (zs_0 _) rfl h0 ?_
  refine PW_getR zd_B_behind_20 zf_B_97 (zsT_0 hrT) rfl ?_
  refine PW_iconst zd_B_behind_23 ?_
  refine PW_iaload zd_B_behind_24 (zsT_8 hrT) (by decide) ?_
  obtain ⟨h0, hT, hF⟩ := h
  refine PW_icmp_ge zd_B_behind_25 h0 (fun q => ?_) (fun q => ?_)
  · have h := hT q
    refine PW_iload_n zd_B_behind_57 rfl ?_
    exact PW_iret zd_B_behind_58 rfl h
  · have h := hF q
    refine PW_aload_n zd_B_behind_28 rfl ?_
    refine PW_iconst zd_B_behind_29 ?_
    refine PW_iload_n zd_B_behind_30 rfl ?_
    obtain ⟨h0, h⟩ := h
    refine PW_ishl zd_B_behind_31 h0 ?_
    refine PW_bipush zd_B_behind_32 rfl ?_
    refine PW_callV2r zd_B_behind_34 zl_B_234 zk_B_lightOf zv_B_lightOf (fr' := 4) (by decide) (zs_0 _) rfl rfl (Nat.le_of_ble_eq_true rfl) ?_
    refine ms_mono h ?_
    rintro v σ1 ⟨rfl, h⟩
    refine ⟨_, rfl, ?_⟩
    refine PW_getR zd_B_behind_37 zf_B_160 (zs_19 _) rfl ?_
    refine PW_iload_n zd_B_behind_40 rfl ?_
    obtain ⟨h0, h⟩ := h
    refine PW_iaload zd_B_behind_41 (zs_21 _) h0 ?_
    obtain ⟨h0, hT, hF⟩ := h
    refine PW_if_eq zd_B_behind_42 h0 (fun q => ?_) (fun q => ?_)
    · have h := hT q
      exact PW_sub (by exact ⟨rfl, rfl, rfl, rfl, trivial⟩) (kb_B_behind_51 hrT hK15 h)
    · have h := hF q
      refine PW_iload_n zd_B_behind_45 rfl ?_
      refine PW_iconst zd_B_behind_46 ?_
      refine PW_iload_n zd_B_behind_47 rfl ?_
      obtain ⟨h0, h⟩ := h
      refine PW_ishl zd_B_behind_48 h0 ?_
      obtain ⟨h0, h⟩ := h
      refine PW_ior zd_B_behind_49 h0 ?_
      refine PW_istore_n zd_B_behind_50 rfl (by decide) (ls2 := [_, _, _, _]) rfl ?_
      have h := h _ rfl
      exact PW_sub (by exact ⟨rfl, rfl, rfl, rfl, trivial⟩) (kb_B_behind_51 hrT hK15 h)
theorem kl_B_behind_15 {G : zG} {rT : Nat} {eye0 : Int} {X : zX} (hrT : zisT rT) {x2 x3 : Int} {σ : zPH} (h : zLP2 (b_B_behind_15 G rT eye0 X ) x2 x3 σ) : PW G zm_B_behind 5 X 15 [some (zr G 0), some (iZ eye0), some (iZ x2), some (iZ x3)] [] σ := by
  obtain ⟨n, h⟩ := h
  induction n generalizing x2 x3 σ with
  | zero => exact h.elim
  | succ n ih => exact kb_B_behind_15 hrT  (fun _ _ _ h => ih h) h
def w_B_behind (G : zG) (rT : Nat) (eye0 : Int) (X : zX) (σ : zPH) : Prop :=
  MS G zm_B_isNumber 0 [zr G 0, iZ eye0, iZ 3] σ (fun v σ3 =>
    (v = some (iZ 0) ∧
      X (some (iZ (-1))) σ3) ∨
    (v = some (iZ 1) ∧
      zLP2 (b_B_behind_15 G rT eye0 X ) 0 0 σ3))
set_option maxHeartbeats 4000000 in
theorem k_B_behind {G : zG} {rT : Nat} {eye0 : Int} {X : zX} (hrT : zisT rT) {σ : zPH} (h : w_B_behind G rT eye0 X σ) : MS G zm_B_behind 5 [zr G 0, iZ eye0] σ X := by
  refine ms_of zk_B_behind (Nat.le_of_ble_eq_true rfl) (ls := [some (zr G 0), some (iZ eye0), none, none]) rfl ?_
  unfold w_B_behind at h
  refine PW_aload_n zd_B_behind_0 rfl ?_
  refine PW_iload_n zd_B_behind_1 rfl ?_
  refine PW_iconst zd_B_behind_2 ?_
  refine PW_callV2i zd_B_behind_3 zl_B_102 zk_B_isNumber zv_B_isNumber (fr' := 0) (by decide) (zs_0 _) rfl rfl (Nat.le_of_ble_eq_true rfl) ?_
  refine ms_mono h ?_
  rintro v σ1 (⟨rfl, h⟩ | ⟨rfl, h⟩)
  · refine ⟨0, rfl, ?_⟩
    refine PW_if_ne zd_B_behind_6 (by decide) (fun q => absurd rfl q) (fun _ => ?_)
    refine PW_iconst zd_B_behind_9 ?_
    exact PW_iret zd_B_behind_10 rfl h
  · refine ⟨1, rfl, ?_⟩
    refine PW_if_ne zd_B_behind_6 (by decide) (fun _ => ?_) (fun q => absurd q (by decide))
    refine PW_iconst zd_B_behind_11 ?_
    refine PW_istore_n zd_B_behind_12 rfl (by decide) (ls2 := [_, _, _, _]) rfl ?_
    refine PW_iconst zd_B_behind_13 ?_
    refine PW_istore_n zd_B_behind_14 rfl (by decide) (ls2 := [_, _, _, _]) rfl ?_
    exact PW_sub (by exact ⟨rfl, rfl, rfl, rfl, trivial⟩) (kl_B_behind_15 hrT  h)
def w_B_isNumber (G : zG) (rT : Nat) (number group : Int) (X : zX) (σ : zPH) : Prop :=
  (zI number) ∧
  (number < 0 →
    X (some (iZ 0)) σ) ∧
  (0 ≤ number →
    σ 0 3 = ((rT : Nat) : Int) ∧
    (0 ≤ group ∧ group < 4) ∧
    (zI number ∧ zI (σ (rT + 8) group.toNat)) ∧
    ((σ (rT + 8) group.toNat) ≤ number →
      X (some (iZ 0)) σ) ∧
    (number < (σ (rT + 8) group.toNat) →
      X (some (iZ 1)) σ))
set_option maxHeartbeats 4000000 in
theorem k_B_isNumber {G : zG} {rT : Nat} {number group : Int} {X : zX} (hrT : zisT rT) {σ : zPH} (h : w_B_isNumber G rT number group X σ) : MS G zm_B_isNumber 0 [zr G 0, iZ number, iZ group] σ X := by
  refine ms_of zk_B_isNumber (Nat.le_of_ble_eq_true rfl) (ls := [some (zr G 0), some (iZ number), some (iZ group)]) rfl ?_
  unfold w_B_isNumber at h
  refine PW_iload_n zd_B_isNumber_0 rfl ?_
  obtain ⟨h0, hT, hF⟩ := h
  refine PW_if_lt zd_B_isNumber_1 h0 (fun q => ?_) (fun q => ?_)
  · have h := hT q
    refine PW_iconst zd_B_isNumber_21 ?_
    exact PW_zret zd_B_isNumber_22 rfl (by decide) h
  · have h := hF q
    refine PW_iload_n zd_B_isNumber_4 rfl ?_
    refine PW_aload_n zd_B_isNumber_5 rfl ?_
    obtain ⟨h0, h⟩ := h
    refine PW_getD zd_B_isNumber_6 zf_B_23 (zs_0 _) rfl h0 ?_
    refine PW_getR zd_B_isNumber_9 zf_B_97 (zsT_0 hrT) rfl ?_
    refine PW_iload_n zd_B_isNumber_12 rfl ?_
    obtain ⟨h0, h⟩ := h
    refine PW_iaload zd_B_isNumber_13 (zsT_8 hrT) h0 ?_
    obtain ⟨h0, hT, hF⟩ := h
    refine PW_icmp_ge zd_B_isNumber_14 h0 (fun q => ?_) (fun q => ?_)
    · have h := hT q
      refine PW_iconst zd_B_isNumber_21 ?_
      exact PW_zret zd_B_isNumber_22 rfl (by decide) h
    · have h := hF q
      refine PW_iconst zd_B_isNumber_17 ?_
      refine PW_goto zd_B_isNumber_18 ?_
      exact PW_zret zd_B_isNumber_22 rfl (by decide) h
def w_B_lightNow (G : zG) (X : zX) (σ : zPH) : Prop :=
  MS G zm_B_lightOf 4 [zr G 0, iZ 255, iZ 7] σ (fun v σ6 =>
    v = some (zr G 19) ∧
    X (some (zr G 19)) σ6)
set_option maxHeartbeats 4000000 in
theorem k_B_lightNow {G : zG} {X : zX} {σ : zPH} (h : w_B_lightNow G  X σ) : MS G zm_B_lightNow 5 [zr G 0] σ X := by
  refine ms_of zk_B_lightNow (Nat.le_of_ble_eq_true rfl) (ls := [some (zr G 0)]) rfl ?_
  unfold w_B_lightNow at h
  refine PW_aload_n zd_B_lightNow_0 rfl ?_
  refine PW_sipush zd_B_lightNow_1 rfl ?_
  refine PW_bipush zd_B_lightNow_4 rfl ?_
  refine PW_callV2r zd_B_lightNow_6 zl_B_234 zk_B_lightOf zv_B_lightOf (fr' := 4) (by decide) (zs_0 _) rfl rfl (Nat.le_of_ble_eq_true rfl) ?_
  refine ms_mono h ?_
  rintro v σ1 ⟨rfl, h⟩
  refine ⟨_, rfl, ?_⟩
  exact PW_aret zd_B_lightNow_9 rfl h
def w_B_lightOf (G : zG) (rT : Nat) (lamps colours : Int) (X : zX) (σ : zPH) : Prop :=
  σ 0 3 = ((rT : Nat) : Int) ∧
  MS G zm_L_shine 3 [zr G 19, zr G rT, iZ (σ 0 7), iZ (σ 0 8), iZ lamps, iZ colours] σ (fun v σ21 =>
    v = none ∧
    X (some (zr G 19)) σ21)
set_option maxHeartbeats 4000000 in
theorem k_B_lightOf {G : zG} {rT : Nat} {lamps colours : Int} {X : zX} (hrT : zisT rT) {σ : zPH} (h : w_B_lightOf G rT lamps colours X σ) : MS G zm_B_lightOf 4 [zr G 0, iZ lamps, iZ colours] σ X := by
  refine ms_of zk_B_lightOf (Nat.le_of_ble_eq_true rfl) (ls := [some (zr G 0), some (iZ lamps), some (iZ colours)]) rfl ?_
  unfold w_B_lightOf at h
  refine PW_aload_n zd_B_lightOf_0 rfl ?_
  refine PW_getR zd_B_lightOf_1 zf_B_30 (zs_0 _) rfl ?_
  refine PW_getR zd_B_lightOf_4 zf_B_276 (zs_14 _) rfl ?_
  refine PW_aload_n zd_B_lightOf_7 rfl ?_
  obtain ⟨h0, h⟩ := h
  refine PW_getD zd_B_lightOf_8 zf_B_23 (zs_0 _) rfl h0 ?_
  refine PW_aload_n zd_B_lightOf_11 rfl ?_
  refine PW_getI zd_B_lightOf_12 zf_B_70 (zs_0 _) rfl ?_
  refine PW_aload_n zd_B_lightOf_15 rfl ?_
  refine PW_getI zd_B_lightOf_16 zf_B_73 (zs_0 _) rfl ?_
  refine PW_iload_n zd_B_lightOf_19 rfl ?_
  refine PW_iload_n zd_B_lightOf_20 rfl ?_
  refine PW_callV5v zd_B_lightOf_21 zl_B_279 zk_L_shine zv_L_shine (fr' := 3) (by decide) (zs_19 _) rfl rfl (Nat.le_of_ble_eq_true rfl) ?_
  refine ms_mono h ?_
  rintro v σ1 ⟨rfl, h⟩
  refine ⟨rfl, ?_⟩
  refine PW_aload_n zd_B_lightOf_24 rfl ?_
  refine PW_getR zd_B_lightOf_25 zf_B_30 (zs_0 _) rfl ?_
  refine PW_getR zd_B_lightOf_28 zf_B_276 (zs_14 _) rfl ?_
  exact PW_aret zd_B_lightOf_31 rfl h
