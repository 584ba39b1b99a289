def w_B_feed (G : zG) (a b c d e : Int) (X : zX) (σ : zPH) : Prop :=
  (zI ((σ 0 1) + 20)) ∧
  (((σ 0 1) + 20) ≤ 1600 →
    MS G zm_B_putOnTape 0 [zr G 0, iZ a] σ (fun v σ17 =>
      v = none ∧
      MS G zm_B_putOnTape 0 [zr G 0, iZ b] σ17 (fun v σ22 =>
        v = none ∧
        MS G zm_B_putOnTape 0 [zr G 0, iZ c] σ22 (fun v σ27 =>
          v = none ∧
          MS G zm_B_putOnTape 0 [zr G 0, iZ d] σ27 (fun v σ33 =>
            v = none ∧
            MS G zm_B_putOnTape 0 [zr G 0, iZ e] σ33 (fun v σ39 =>
              v = none ∧
              X (some (iZ (σ39 0 1))) σ39)))))) ∧
  (1600 < ((σ 0 1) + 20) →
    X (some (iZ (-1))) σ)
set_option maxHeartbeats 4000000 in
theorem k_B_feed {G : zG} {a b c d e : Int} {X : zX} {σ : zPH} (h : w_B_feed G a b c d e X σ) : MS G zm_B_feed 1 [zr G 0, iZ a, iZ b, iZ c, iZ d, iZ e] σ X := by
  refine ms_of zk_B_feed (Nat.le_of_ble_eq_true rfl) (ls := [some (zr G 0), some (iZ a), some (iZ b), some (iZ c), some (iZ d), some (iZ e)]) rfl ?_
  unfold w_B_feed at h
  refine PW_aload_n zd_B_feed_0 rfl ?_
  refine PW_getI zd_B_feed_1 zf_B_54 (zs_0 _) rfl ?_
  refine PW_bipush zd_B_feed_4 rfl ?_
  refine PW_iadd zd_B_feed_6 ?_
  refine PW_sipush zd_B_feed_7 rfl ?_
  obtain ⟨h0, hT, hF⟩ := h
  refine PW_icmp_le zd_B_feed_10 ⟨h0, by decide⟩ (fun q => ?_) (fun q => ?_)
  · have h := hT q
    refine PW_aload_n zd_B_feed_15 rfl ?_
    refine PW_iload_n zd_B_feed_16 rfl ?_
    refine PW_callV1v zd_B_feed_17 zl_B_58 zk_B_putOnTape zv_B_putOnTape (fr' := 0) (by decide) (zs_0 _) rfl rfl (Nat.le_of_ble_eq_true rfl) ?_
    refine ms_mono h ?_
    rintro v σ1 ⟨rfl, h⟩
    refine ⟨rfl, ?_⟩
    refine PW_aload_n zd_B_feed_20 rfl ?_
    refine PW_iload_n zd_B_feed_21 rfl ?_
    refine PW_callV1v zd_B_feed_22 zl_B_58 zk_B_putOnTape zv_B_putOnTape (fr' := 0) (by decide) (zs_0 _) rfl rfl (Nat.le_of_ble_eq_true rfl) ?_
    refine ms_mono h ?_
    rintro v σ1 ⟨rfl, h⟩
    refine ⟨rfl, ?_⟩
    refine PW_aload_n zd_B_feed_25 rfl ?_
    refine PW_iload_n zd_B_feed_26 rfl ?_
    refine PW_callV1v zd_B_feed_27 zl_B_58 zk_B_putOnTape zv_B_putOnTape (fr' := 0) (by decide) (zs_0 _) rfl rfl (Nat.le_of_ble_eq_true rfl) ?_
    refine ms_mono h ?_
    rintro v σ1 ⟨rfl, h⟩
    refine ⟨rfl, ?_⟩
    refine PW_aload_n zd_B_feed_30 rfl ?_
    refine PW_iload zd_B_feed_31 rfl ?_
    refine PW_callV1v zd_B_feed_33 zl_B_58 zk_B_putOnTape zv_B_putOnTape (fr' := 0) (by decide) (zs_0 _) rfl rfl (Nat.le_of_ble_eq_true rfl) ?_
    refine ms_mono h ?_
    rintro v σ1 ⟨rfl, h⟩
    refine ⟨rfl, ?_⟩
    refine PW_aload_n zd_B_feed_36 rfl ?_
    refine PW_iload zd_B_feed_37 rfl ?_
    refine PW_callV1v zd_B_feed_39 zl_B_58 zk_B_putOnTape zv_B_putOnTape (fr' := 0) (by decide) (zs_0 _) rfl rfl (Nat.le_of_ble_eq_true rfl) ?_
    refine ms_mono h ?_
    rintro v σ1 ⟨rfl, h⟩
    refine ⟨rfl, ?_⟩
    refine PW_aload_n zd_B_feed_42 rfl ?_
    refine PW_getI zd_B_feed_43 zf_B_54 (zs_0 _) rfl ?_
    exact PW_iret zd_B_feed_46 rfl h
  · have h := hF q
    refine PW_iconst zd_B_feed_13 ?_
    exact PW_iret zd_B_feed_14 rfl h
def b_B_putOnTape_3 (G : zG) (number : Int) (X : zX) (K3 : Int → zPH → Prop) (x2 : Int) (σ : zPH) : Prop :=
  (zI x2) ∧
  (x2 < 0 →
    X none σ) ∧
  (0 ≤ x2 →
    (zI (σ 0 1)) ∧
    (1600 ≤ (σ 0 1) →
      X none σ) ∧
    ((σ 0 1) < 1600 →
      (zI number ∧ 0 ≤ x2 ∧ x2 < 32) ∧
      (0 ≤ (σ 0 1) ∧ (σ 0 1) < 1600) ∧
      ∀ σ32 : zPH, σ32 = zupd σ 1 (σ 0 1).toNat ((number / 2 ^ x2.toNat) % 256) →
      ∀ σ40 : zPH, σ40 = zupd σ32 0 1 ((σ32 0 1) + 1) →
      K3 (x2 + (-8)) σ40))
set_option maxHeartbeats 4000000 in
theorem kb_B_putOnTape_3 {G : zG} {number : Int} {X : zX} {K3 : Int → zPH → Prop} (hK3 : ∀ (y0 : Int) (σ : zPH), K3 y0 σ → PW G zm_B_putOnTape 0 X 3 [some (zr G 0), some (iZ number), some (iZ y0)] [] σ) {x2 : Int} {σ : zPH} (h : b_B_putOnTape_3 G number X K3 x2 σ) : PW G zm_B_putOnTape 0 X 3 [some (zr G 0), some (iZ number), some (iZ x2)] [] σ := by
  unfold b_B_putOnTape_3 at h
  refine PW_iload_n zd_B_putOnTape_3 rfl ?_
  obtain ⟨h0, hT, hF⟩ := h
  refine PW_if_lt zd_B_putOnTape_4 h0 (fun q => ?_) (fun q => ?_)
  · have h := hT q
    exact PW_vret zd_B_putOnTape_49 rfl h
  · have h := hF q
    refine PW_aload_n zd_B_putOnTape_7 rfl ?_
    refine PW_getI zd_B_putOnTape_8 zf_B_54 (zs_0 _) rfl ?_
    refine PW_sipush zd_B_putOnTape_11 rfl ?_
    obtain ⟨h0, hT, hF⟩ := h
    refine PW_icmp_ge zd_B_putOnTape_14 ⟨h0, by decide⟩ (fun q => ?_) (fun q => ?_)
    · have h := hT q
      exact PW_vret zd_B_putOnTape_49 rfl h
    · have h := hF q
      refine PW_aload_n zd_B_putOnTape_17 rfl ?_
      refine PW_getR zd_B_putOnTape_18 zf_B_9 (zs_0 _) rfl ?_
      refine PW_aload_n zd_B_putOnTape_21 rfl ?_
      refine PW_getI zd_B_putOnTape_22 zf_B_54 (zs_0 _) rfl ?_
      refine PW_iload_n zd_B_putOnTape_25 rfl ?_
      refine PW_iload_n zd_B_putOnTape_26 rfl ?_
      obtain ⟨h0, h⟩ := h
      refine PW_ishr zd_B_putOnTape_27 h0 ?_
      refine PW_sipush zd_B_putOnTape_28 rfl ?_
      refine PW_iandm255 zd_B_putOnTape_31 ?_
      obtain ⟨h0, h⟩ := h
      refine PW_iastore zd_B_putOnTape_32 (zs_1 _) h0 ?_
      have h := h _ rfl
      refine PW_aload_n zd_B_putOnTape_33 rfl ?_
      refine PW_dup zd_B_putOnTape_34 rfl ?_
      refine PW_getI zd_B_putOnTape_35 zf_B_54 (zs_0 _) rfl ?_
      refine PW_iconst zd_B_putOnTape_38 ?_
      refine PW_iadd zd_B_putOnTape_39 ?_
      refine PW_putI zd_B_putOnTape_40 zp_B_54 (zs_0 _) rfl ?_
      have h := h _ rfl
      refine PW_iinc zd_B_putOnTape_43 rfl rfl (by decide) (ls2 := [_, _, _]) rfl ?_
      refine PW_goto zd_B_putOnTape_46 ?_
      exact PW_sub (by exact ⟨rfl, rfl, rfl, trivial⟩) (hK3 _ _ h)
theorem kl_B_putOnTape_3 {G : zG} {number : Int} {X : zX} {x2 : Int} {σ : zPH} (h : zLP1 (b_B_putOnTape_3 G number X ) x2 σ) : PW G zm_B_putOnTape 0 X 3 [some (zr G 0), some (iZ number), some (iZ x2)] [] σ := by
  obtain ⟨n, h⟩ := h
  induction n generalizing x2 σ with
  | zero => exact h.elim
  | succ n ih => exact kb_B_putOnTape_3   (fun _ _ h => ih h) h
def w_B_putOnTape (G : zG) (number : Int) (X : zX) (σ : zPH) : Prop :=
  zLP1 (b_B_putOnTape_3 G number X ) 24 σ
set_option maxHeartbeats 4000000 in
theorem k_B_putOnTape {G : zG} {number : Int} {X : zX} {σ : zPH} (h : w_B_putOnTape G number X σ) : MS G zm_B_putOnTape 0 [zr G 0, iZ number] σ X := by
  refine ms_of zk_B_putOnTape (Nat.le_of_ble_eq_true rfl) (ls := [some (zr G 0), some (iZ number), none]) rfl ?_
  unfold w_B_putOnTape at h
  refine PW_bipush zd_B_putOnTape_0 rfl ?_
  refine PW_istore_n zd_B_putOnTape_2 rfl (by decide) (ls2 := [_, _, _]) rfl ?_
  exact PW_sub (by exact ⟨rfl, rfl, rfl, trivial⟩) (kl_B_putOnTape_3   h)
def w_B_end (G : zG) (n : Int) (X : zX) (σ : zPH) : Prop :=
  (zI n) ∧
  (n < 0 →
    X (some (iZ 0)) σ) ∧
  (0 ≤ n →
    (zI n ∧ zI (σ 0 1)) ∧
    (n ≤ (σ 0 1) →
      ∀ σ16 : zPH, σ16 = zupd σ 0 1 n →
      X (some (iZ 1)) σ16) ∧
    ((σ 0 1) < n →
      X (some (iZ 0)) σ))
set_option maxHeartbeats 4000000 in
theorem k_B_end {G : zG} {n : Int} {X : zX} {σ : zPH} (h : w_B_end G n X σ) : MS G zm_B_end 0 [zr G 0, iZ n] σ X := by
  refine ms_of zk_B_end (Nat.le_of_ble_eq_true rfl) (ls := [some (zr G 0), some (iZ n)]) rfl ?_
  unfold w_B_end at h
  refine PW_iload_n zd_B_end_0 rfl ?_
  obtain ⟨h0, hT, hF⟩ := h
  refine PW_if_lt zd_B_end_1 h0 (fun q => ?_) (fun q => ?_)
  · have h := hT q
    refine PW_iconst zd_B_end_12 ?_
    exact PW_zret zd_B_end_13 rfl (by decide) h
  · have h := hF q
    refine PW_iload_n zd_B_end_4 rfl ?_
    refine PW_aload_n zd_B_end_5 rfl ?_
    refine PW_getI zd_B_end_6 zf_B_54 (zs_0 _) rfl ?_
    obtain ⟨h0, hT, hF⟩ := h
    refine PW_icmp_le zd_B_end_9 h0 (fun q => ?_) (fun q => ?_)
    · have h := hT q
      refine PW_aload_n zd_B_end_14 rfl ?_
      refine PW_iload_n zd_B_end_15 rfl ?_
      refine PW_putI zd_B_end_16 zp_B_54 (zs_0 _) rfl ?_
      have h := h _ rfl
      refine PW_iconst zd_B_end_19 ?_
      exact PW_zret zd_B_end_20 rfl (by decide) h
    · have h := hF q
      refine PW_iconst zd_B_end_12 ?_
      exact PW_zret zd_B_end_13 rfl (by decide) h
def w_B_board (G : zG) (rT : Nat) (rU : Nat) (X : zX) (σ : zPH) : Prop :=
  ∀ x1 : Int, x1 = (σ 0 1) →
  ∀ σ7 : zPH, σ7 = zupd σ 0 1 0 →
  MS G zm_R_read 42 [zr G 4, zr G 1, iZ x1] σ7 (fun v σ19 =>
    ∃ z19 : Int, v = some (iZ z19) ∧
    (zI z19) ∧
    (z19 ≠ (-1) →
      σ19 0 3 = ((rT : Nat) : Int) ∧
      MS G zm_R_giveTable 0 [zr G 4, zr G rT] σ19 (fun v σ39 =>
        v = some (zr G rU) ∧
        ∀ σ42 : zPH, σ42 = zupd σ39 0 3 ((rU : Nat) : Int) →
        ∀ σ47 : zPH, σ47 = zupd σ42 0 7 0 →
        ∀ σ52 : zPH, σ52 = zupd σ47 0 8 0 →
        ∀ σ57 : zPH, σ57 = zupd σ52 0 9 0 →
        ∀ σ62 : zPH, σ62 = zupd σ57 0 10 0 →
        ∀ σ70 : zPH, σ70 = zupd σ62 29 2 0 →
        X (some (iZ z19)) σ70)) ∧
    (z19 = (-1) →
      X (some (iZ (-1))) σ19))
set_option maxHeartbeats 4000000 in
theorem k_B_board {G : zG} {rT : Nat} {rU : Nat} {X : zX} (hrT : zisT rT) (hrU : zisT rU) {σ : zPH} (h : w_B_board G rT rU X σ) : MS G zm_B_board 43 [zr G 0] σ X := by
  refine ms_of zk_B_board (Nat.le_of_ble_eq_true rfl) (ls := [some (zr G 0), none, none]) rfl ?_
  unfold w_B_board at h
  refine PW_aload_n zd_B_board_0 rfl ?_
  refine PW_getI zd_B_board_1 zf_B_54 (zs_0 _) rfl ?_
  refine PW_istore_n zd_B_board_4 rfl (by decide) (ls2 := [_, _, _]) rfl ?_
  have h := h _ rfl
  refine PW_aload_n zd_B_board_5 rfl ?_
  refine PW_iconst zd_B_board_6 ?_
  refine PW_putI zd_B_board_7 zp_B_54 (zs_0 _) rfl ?_
  have h := h _ rfl
  refine PW_aload_n zd_B_board_10 rfl ?_
  refine PW_getR zd_B_board_11 zf_B_16 (zs_0 _) rfl ?_
  refine PW_aload_n zd_B_board_14 rfl ?_
  refine PW_getR zd_B_board_15 zf_B_9 (zs_0 _) rfl ?_
  refine PW_iload_n zd_B_board_18 rfl ?_
  refine PW_callV2i zd_B_board_19 zl_B_62 zk_R_read zv_R_read (fr' := 42) (by decide) (zs_4 _) rfl rfl (Nat.le_of_ble_eq_true rfl) ?_
  refine ms_mono h ?_
  rintro v σ1 ⟨z, rfl, h⟩
  refine ⟨z, rfl, ?_⟩
  refine PW_istore_n zd_B_board_22 rfl (by decide) (ls2 := [_, _, _]) rfl ?_
  refine PW_iload_n zd_B_board_23 rfl ?_
  refine PW_iconst zd_B_board_24 ?_
  obtain ⟨h0, hT, hF⟩ := h
  refine PW_icmp_ne zd_B_board_25 ⟨h0, by decide⟩ (fun q => ?_) (fun q => ?_)
  · have h := hT q
    refine PW_aload_n zd_B_board_30 rfl ?_
    refine PW_aload_n zd_B_board_31 rfl ?_
    refine PW_getR zd_B_board_32 zf_B_16 (zs_0 _) rfl ?_
    refine PW_aload_n zd_B_board_35 rfl ?_
    obtain ⟨h0, h⟩ := h
    refine PW_getD zd_B_board_36 zf_B_23 (zs_0 _) rfl h0 ?_
    refine PW_callV1r zd_B_board_39 zl_B_66 zk_R_giveTable zv_R_giveTable (fr' := 0) (by decide) (zs_4 _) rfl rfl (Nat.le_of_ble_eq_true rfl) ?_
    refine ms_mono h ?_
    rintro v σ1 ⟨rfl, h⟩
    refine ⟨_, rfl, ?_⟩
    refine PW_putD (r := rU) (fty := .object "BeamBoard$Table") zd_B_board_42 zp_B_23 (zs_0 _) rfl (by decide +kernel) (by simp) ?_
    have h := h _ rfl
    refine PW_aload_n zd_B_board_45 rfl ?_
    refine PW_iconst zd_B_board_46 ?_
    refine PW_putI zd_B_board_47 zp_B_70 (zs_0 _) rfl ?_
    have h := h _ rfl
    refine PW_aload_n zd_B_board_50 rfl ?_
    refine PW_iconst zd_B_board_51 ?_
    refine PW_putI zd_B_board_52 zp_B_73 (zs_0 _) rfl ?_
    have h := h _ rfl
    refine PW_aload_n zd_B_board_55 rfl ?_
    refine PW_iconst zd_B_board_56 ?_
    refine PW_putI zd_B_board_57 zp_B_76 (zs_0 _) rfl ?_
    have h := h _ rfl
    refine PW_aload_n zd_B_board_60 rfl ?_
    refine PW_iconst zd_B_board_61 ?_
    refine PW_putI zd_B_board_62 zp_B_79 (zs_0 _) rfl ?_
    have h := h _ rfl
    refine PW_aload_n zd_B_board_65 rfl ?_
    refine PW_getR zd_B_board_66 zf_B_47 (zs_0 _) rfl ?_
    refine PW_iconst zd_B_board_69 ?_
    refine PW_putI zd_B_board_70 zp_B_82 (zs_29 _) rfl ?_
    have h := h _ rfl
    refine PW_iload_n zd_B_board_73 rfl ?_
    exact PW_iret zd_B_board_74 rfl h
  · have h := hF q
    refine PW_iconst zd_B_board_28 ?_
    exact PW_iret zd_B_board_29 rfl h
def w_B_fault (G : zG) (what : Int) (X : zX) (σ : zPH) : Prop :=
  (zI what) ∧
  (what ≠ 0 →
    (zI what) ∧
    (what ≠ 1 →
      X (some (iZ (-1))) σ) ∧
    (what = 1 →
      X (some (iZ (σ 4 1))) σ)) ∧
  (what = 0 →
    X (some (iZ (σ 4 0))) σ)
set_option maxHeartbeats 4000000 in
theorem k_B_fault {G : zG} {what : Int} {X : zX} {σ : zPH} (h : w_B_fault G what X σ) : MS G zm_B_fault 0 [zr G 0, iZ what] σ X := by
  refine ms_of zk_B_fault (Nat.le_of_ble_eq_true rfl) (ls := [some (zr G 0), some (iZ what)]) rfl ?_
  unfold w_B_fault at h
  refine PW_iload_n zd_B_fault_0 rfl ?_
  obtain ⟨h0, hT, hF⟩ := h
  refine PW_if_ne zd_B_fault_1 h0 (fun q => ?_) (fun q => ?_)
  · have h := hT q
    refine PW_iload_n zd_B_fault_12 rfl ?_
    refine PW_iconst zd_B_fault_13 ?_
    obtain ⟨h0, hT, hF⟩ := h
    refine PW_icmp_ne zd_B_fault_14 ⟨h0, by decide⟩ (fun q => ?_) (fun q => ?_)
    · have h := hT q
      refine PW_iconst zd_B_fault_27 ?_
      exact PW_iret zd_B_fault_28 rfl h
    · have h := hF q
      refine PW_aload_n zd_B_fault_17 rfl ?_
      refine PW_getR zd_B_fault_18 zf_B_16 (zs_0 _) rfl ?_
      refine PW_getI zd_B_fault_21 zf_B_88 (zs_4 _) rfl ?_
      refine PW_goto zd_B_fault_24 ?_
      exact PW_iret zd_B_fault_28 rfl h
  · have h := hF q
    refine PW_aload_n zd_B_fault_4 rfl ?_
    refine PW_getR zd_B_fault_5 zf_B_16 (zs_0 _) rfl ?_
    refine PW_getI zd_B_fault_8 zf_B_85 (zs_4 _) rfl ?_
    exact PW_iret zd_B_fault_11 rfl h
def w_B_has (G : zG) (rT : Nat) (what : Int) (X : zX) (σ : zPH) : Prop :=
  zI what ∧
  (what = 0 →
    σ 0 3 = ((rT : Nat) : Int) ∧
    X (some (iZ (σ rT 0))) σ) ∧
  (what = 1 →
    σ 0 3 = ((rT : Nat) : Int) ∧
    X (some (iZ (σ rT 1))) σ) ∧
  (what = 2 →
    σ 0 3 = ((rT : Nat) : Int) ∧
    X (some (iZ (σ (rT + 8) 0))) σ) ∧
  (what = 3 →
    σ 0 3 = ((rT : Nat) : Int) ∧
    X (some (iZ (σ (rT + 8) 1))) σ) ∧
  (what = 4 →
    σ 0 3 = ((rT : Nat) : Int) ∧
    X (some (iZ (σ (rT + 8) 2))) σ) ∧
  (what = 5 →
    σ 0 3 = ((rT : Nat) : Int) ∧
    X (some (iZ (σ (rT + 8) 3))) σ) ∧
  (what = 6 →
    σ 0 3 = ((rT : Nat) : Int) ∧
    X (some (iZ (σ rT 4))) σ) ∧
  ((what < 0 ∨ 6 < what) →
    X (some (iZ (-1))) σ)
set_option maxHeartbeats 4000000 in
theorem k_B_has {G : zG} {rT : Nat} {what : Int} {X : zX} (hrT : zisT rT) {σ : zPH} (h : w_B_has G rT what X σ) : MS G zm_B_has 0 [zr G 0, iZ what] σ X := by
  refine ms_of zk_B_has (Nat.le_of_ble_eq_true rfl) (ls := [some (zr G 0), some (iZ what)]) rfl ?_
  unfold w_B_has at h
  refine PW_iload_n zd_B_has_0 rfl ?_
  obtain ⟨h0, h⟩ := h
  obtain ⟨hc0, hc1, hc2, hc3, hc4, hc5, hc6, hcd⟩ := h
  refine PW_tsplit 0 6 (fun c hx hlo hhi => ?_) (fun hx => ?_)
  · rcases (show c = 0 ∨ c = 1 ∨ c = 2 ∨ c = 3 ∨ c = 4 ∨ c = 5 ∨ c = 6 by omega) with rfl | rfl | rfl | rfl | rfl | rfl | rfl
    · refine PW_tsin (tgt := 44) zd_B_has_1 0 hx (by decide) rfl (by decide) ?_
      have h := hc0 (by omega)
      refine PW_aload_n zd_B_has_44 rfl ?_
      obtain ⟨h0, h⟩ := h
      refine PW_getD zd_B_has_45 zf_B_23 (zs_0 _) rfl h0 ?_
      refine PW_getI zd_B_has_48 zf_B_91 (zsT_0 hrT) rfl ?_
      exact PW_iret zd_B_has_51 rfl h
    · refine PW_tsin (tgt := 52) zd_B_has_1 1 hx (by decide) rfl (by decide) ?_
      have h := hc1 (by omega)
      refine PW_aload_n zd_B_has_52 rfl ?_
      obtain ⟨h0, h⟩ := h
      refine PW_getD zd_B_has_53 zf_B_23 (zs_0 _) rfl h0 ?_
      refine PW_getI zd_B_has_56 zf_B_94 (zsT_0 hrT) rfl ?_
      exact PW_iret zd_B_has_59 rfl h
    · refine PW_tsin (tgt := 60) zd_B_has_1 2 hx (by decide) rfl (by decide) ?_
      have h := hc2 (by omega)
      refine PW_aload_n zd_B_has_60 rfl ?_
      obtain ⟨h0, h⟩ := h
      refine PW_getD zd_B_has_61 zf_B_23 (zs_0 _) rfl h0 ?_
      refine PW_getR zd_B_has_64 zf_B_97 (zsT_0 hrT) rfl ?_
      refine PW_iconst zd_B_has_67 ?_
      refine PW_iaload zd_B_has_68 (zsT_8 hrT) (by decide) ?_
      exact PW_iret zd_B_has_69 rfl h
    · refine PW_tsin (tgt := 70) zd_B_has_1 3 hx (by decide) rfl (by decide) ?_
      have h := hc3 (by omega)
      refine PW_aload_n zd_B_has_70 rfl ?_
      obtain ⟨h0, h⟩ := h
      refine PW_getD zd_B_has_71 zf_B_23 (zs_0 _) rfl h0 ?_
      refine PW_getR zd_B_has_74 zf_B_97 (zsT_0 hrT) rfl ?_
      refine PW_iconst zd_B_has_77 ?_
      refine PW_iaload zd_B_has_78 (zsT_8 hrT) (by decide) ?_
      exact PW_iret zd_B_has_79 rfl h
    · refine PW_tsin (tgt := 80) zd_B_has_1 4 hx (by decide) rfl (by decide) ?_
      have h := hc4 (by omega)
      refine PW_aload_n zd_B_has_80 rfl ?_
      obtain ⟨h0, h⟩ := h
      refine PW_getD zd_B_has_81 zf_B_23 (zs_0 _) rfl h0 ?_
      refine PW_getR zd_B_has_84 zf_B_97 (zsT_0 hrT) rfl ?_
      refine PW_iconst zd_B_has_87 ?_
      refine PW_iaload zd_B_has_88 (zsT_8 hrT) (by decide) ?_
      exact PW_iret zd_B_has_89 rfl h
    · refine PW_tsin (tgt := 90) zd_B_has_1 5 hx (by decide) rfl (by decide) ?_
      have h := hc5 (by omega)
      refine PW_aload_n zd_B_has_90 rfl ?_
      obtain ⟨h0, h⟩ := h
      refine PW_getD zd_B_has_91 zf_B_23 (zs_0 _) rfl h0 ?_
      refine PW_getR zd_B_has_94 zf_B_97 (zsT_0 hrT) rfl ?_
      refine PW_iconst zd_B_has_97 ?_
      refine PW_iaload zd_B_has_98 (zsT_8 hrT) (by decide) ?_
      exact PW_iret zd_B_has_99 rfl h
    · refine PW_tsin (tgt := 100) zd_B_has_1 6 hx (by decide) rfl (by decide) ?_
      have h := hc6 (by omega)
      refine PW_aload_n zd_B_has_100 rfl ?_
      obtain ⟨h0, h⟩ := h
      refine PW_getD zd_B_has_101 zf_B_23 (zs_0 _) rfl h0 ?_
      refine PW_getI zd_B_has_104 zf_B_99 (zsT_0 hrT) rfl ?_
      exact PW_iret zd_B_has_107 rfl h
  · refine PW_tsout (tgt := 108) zd_B_has_1 (by omega) (by decide) ?_
    have h := hcd (by omega)
    refine PW_iconst zd_B_has_108 ?_
    exact PW_iret zd_B_has_109 rfl h
def w_B_letter (G : zG) (rT : Nat) (eye0 k : Int) (X : zX) (σ : zPH) : Prop :=
  MS G zm_B_isNumber 0 [zr G 0, iZ eye0, iZ 3] σ (fun v σ3 =>
    (v = some (iZ 0) ∧
      X (some (iZ (-1))) σ3) ∨
    (v = some (iZ 1) ∧
      σ3 0 3 = ((rT : Nat) : Int) ∧
      MS G zm_T_nameLetter 0 [zr G rT, iZ eye0, iZ k] σ3 (fun v σ15 =>
        ∃ z15 : Int, v = some (iZ z15) ∧
        X (some (iZ z15)) σ15)))
set_option maxHeartbeats 4000000 in
theorem k_B_letter {G : zG} {rT : Nat} {eye0 k : Int} {X : zX} (hrT : zisT rT) {σ : zPH} (h : w_B_letter G rT eye0 k X σ) : MS G zm_B_letter 1 [zr G 0, iZ eye0, iZ k] σ X := by
  refine ms_of zk_B_letter (Nat.le_of_ble_eq_true rfl) (ls := [some (zr G 0), some (iZ eye0), some (iZ k)]) rfl ?_
  unfold w_B_letter at h
  refine PW_aload_n zd_B_letter_0 rfl ?_
  refine PW_iload_n zd_B_letter_1 rfl ?_
  refine PW_iconst zd_B_letter_2 ?_
  refine PW_callV2i zd_B_letter_3 zl_B_102 zk_B_isNumber zv_B_isNumber (fr' := 0) (by decide) (zs_0 _) rfl rfl (Nat.le_of_ble_eq_true rfl) ?_
  refine ms_mono h ?_
  rintro v σ1 (⟨rfl, h⟩ | ⟨rfl, h⟩)
  · refine ⟨0, rfl, ?_⟩
    refine PW_if_eq zd_B_letter_6 (by decide) (fun _ => ?_) (fun q => absurd rfl q)
    refine PW_iconst zd_B_letter_21 ?_
    exact PW_iret zd_B_letter_22 rfl h
  · refine ⟨1, rfl, ?_⟩
    refine PW_if_eq zd_B_letter_6 (by decide) (fun q => absurd q (by decide)) (fun _ => ?_)
    refine PW_aload_n zd_B_letter_9 rfl ?_
    obtain ⟨h0, h⟩ := h
    refine PW_getD zd_B_letter_10 zf_B_23 (zs_0 _) rfl h0 ?_
    refine PW_iload_n zd_B_letter_13 rfl ?_
    refine PW_iload_n zd_B_letter_14 rfl ?_
    refine PW_callV2i zd_B_letter_15 zl_B_106 zk_T_nameLetter zv_T_nameLetter (fr' := 0) (by decide) (zsT_0 hrT) rfl rfl (Nat.le_of_ble_eq_true rfl) ?_
    refine ms_mono h ?_
    rintro v σ1 ⟨z, rfl, h⟩
    refine ⟨z, rfl, ?_⟩
    refine PW_goto zd_B_letter_18 ?_
    exact PW_iret zd_B_letter_22 rfl h
def w_B_square (G : zG) (rT : Nat) (column row what : Int) (X : zX) (σ : zPH) : Prop :=
  σ 0 3 = ((rT : Nat) : Int) ∧
  MS G zm_T_squareAt 0 [zr G rT, iZ column, iZ row] σ (fun v σ6 =>
    ∃ z6 : Int, v = some (iZ z6) ∧
    (zI z6) ∧
    (z6 ≠ (-1) →
      σ6 0 3 = ((rT : Nat) : Int) ∧
      (0 ≤ z6 ∧ z6 < 144) ∧
      ∀ x5 : Int, x5 = (σ6 (rT + 2) z6.toNat) →
      (zI what) ∧
      (what ≠ 0 →
        (zI x5) ∧
        (x5 ≠ (-1) →
          (zI what) ∧
          (what ≠ 1 →
            (zI what) ∧
            (what ≠ 2 →
              X (some (iZ (-1))) σ6) ∧
            (what = 2 →
              σ6 0 3 = ((rT : Nat) : Int) ∧
              MS G zm_T_lookNow 0 [zr G rT, iZ x5, iZ (σ6 0 7), iZ (σ6 0 8)] σ6 (fun v σ99 =>
                ∃ z99 : Int, v = some (iZ z99) ∧
                X (some (iZ z99)) σ99))) ∧
          (what = 1 →
            σ6 0 3 = ((rT : Nat) : Int) ∧
            (0 ≤ x5 ∧ x5 < 60) ∧
            X (some (iZ (σ6 (rT + 5) x5.toNat))) σ6)) ∧
        (x5 = (-1) →
          X (some (iZ (-1))) σ6)) ∧
      (what = 0 →
        (zI x5) ∧
        (x5 ≠ (-1) →
          σ6 0 3 = ((rT : Nat) : Int) ∧
          (0 ≤ x5 ∧ x5 < 60) ∧
          X (some (iZ (σ6 (rT + 4) x5.toNat))) σ6) ∧
        (x5 = (-1) →
          X (some (iZ 0)) σ6))) ∧
    (z6 = (-1) →
      X (some (iZ (-1))) σ6))
set_option maxHeartbeats 4000000 in
theorem k_B_square {G : zG} {rT : Nat} {column row what : Int} {X : zX} (hrT : zisT rT) {σ : zPH} (h : w_B_square G rT column row what X σ) : MS G zm_B_square 1 [zr G 0, iZ column, iZ row, iZ what] σ X := by
  refine ms_of zk_B_square (Nat.le_of_ble_eq_true rfl) (ls := [some (zr G 0), some (iZ column), some (iZ row), some (iZ what), none, none]) rfl ?_
  unfold w_B_square at h
  refine PW_aload_n zd_B_square_0 rfl ?_
  obtain ⟨h0, h⟩ := h
  refine PW_getD zd_B_square_1 zf_B_23 (zs_0 _) rfl h0 ?_
  refine PW_iload_n zd_B_square_4 rfl ?_
  refine PW_iload_n zd_B_square_5 rfl ?_
  refine PW_callV2i zd_B_square_6 zl_B_110 zk_T_squareAt zv_T_squareAt (fr' := 0) (by decide) (zsT_0 hrT) rfl rfl (Nat.le_of_ble_eq_true rfl) ?_
  refine ms_mono h ?_
  rintro v σ1 ⟨z, rfl, h⟩
  refine ⟨z, rfl, ?_⟩
  refine PW_istore zd_B_square_9 rfl (by decide) (ls2 := [_, _, _, _, _, _]) rfl ?_
  refine PW_iload zd_B_square_11 rfl ?_
  refine PW_iconst zd_B_square_13 ?_
  obtain ⟨h0, hT, hF⟩ := h
  refine PW_icmp_ne zd_B_square_14 ⟨h0, by decide⟩ (fun q => ?_) (fun q => ?_)
  · have h := hT q
    refine PW_aload_n zd_B_square_19 rfl ?_
    obtain ⟨h0, h⟩ := h
    refine PW_getD zd_B_square_20 zf_B_23 (zs_0 _) rfl h0 ?_
    refine PW_getR zd_B_square_23 zf_B_113 (zsT_0 hrT) rfl ?_
    refine PW_iload zd_B_square_26 rfl ?_
    obtain ⟨h0, h⟩ := h
    refine PW_iaload zd_B_square_28 (zsT_2 hrT) h0 ?_
    refine PW_istore zd_B_square_29 rfl (by decide) (ls2 := [_, _, _, _, _, _]) rfl ?_
    have h := h _ rfl
    refine PW_iload_n zd_B_square_31 rfl ?_
    obtain ⟨h0, hT, hF⟩ := h
    refine PW_if_ne zd_B_square_32 h0 (fun q => ?_) (fun q => ?_)
    · have h := hT q
      refine PW_iload zd_B_square_56 rfl ?_
      refine PW_iconst zd_B_square_58 ?_
      obtain ⟨h0, hT, hF⟩ := h
      refine PW_icmp_ne zd_B_square_59 ⟨h0, by decide⟩ (fun q => ?_) (fun q => ?_)
      · have h := hT q
        refine PW_iload_n zd_B_square_64 rfl ?_
        refine PW_iconst zd_B_square_65 ?_
        obtain ⟨h0, hT, hF⟩ := h
        refine PW_icmp_ne zd_B_square_66 ⟨h0, by decide⟩ (fun q => ?_) (fun q => ?_)
        · have h := hT q
          refine PW_iload_n zd_B_square_80 rfl ?_
          refine PW_iconst zd_B_square_81 ?_
          obtain ⟨h0, hT, hF⟩ := h
          refine PW_icmp_ne zd_B_square_82 ⟨h0, by decide⟩ (fun q => ?_) (fun q => ?_)
          · have h := hT q
            refine PW_iconst zd_B_square_105 ?_
            exact PW_iret zd_B_square_106 rfl h
          · have h := hF q
            refine PW_aload_n zd_B_square_85 rfl ?_
            obtain ⟨h0, h⟩ := h
            refine PW_getD zd_B_square_86 zf_B_23 (zs_0 _) rfl h0 ?_
            refine PW_iload zd_B_square_89 rfl ?_
            refine PW_aload_n zd_B_square_91 rfl ?_
            refine PW_getI zd_B_square_92 zf_B_70 (zs_0 _) rfl ?_
            refine PW_aload_n zd_B_square_95 rfl ?_
            refine PW_getI zd_B_square_96 zf_B_73 (zs_0 _) rfl ?_
            refine PW_callV3i zd_B_square_99 zl_B_122 zk_T_lookNow zv_T_lookNow (fr' := 0) (by decide) (zsT_0 hrT) rfl rfl (Nat.le_of_ble_eq_true rfl) ?_
            refine ms_mono h ?_
            rintro v σ1 ⟨z, rfl, h⟩
            refine ⟨z, rfl, ?_⟩
            refine PW_goto zd_B_square_102 ?_
            exact PW_iret zd_B_square_106 rfl h
        · have h := hF q
          refine PW_aload_n zd_B_square_69 rfl ?_
          obtain ⟨h0, h⟩ := h
          refine PW_getD zd_B_square_70 zf_B_23 (zs_0 _) rfl h0 ?_
          refine PW_getR zd_B_square_73 zf_B_119 (zsT_0 hrT) rfl ?_
          refine PW_iload zd_B_square_76 rfl ?_
          obtain ⟨h0, h⟩ := h
          refine PW_iaload zd_B_square_78 (zsT_5 hrT) h0 ?_
          exact PW_iret zd_B_square_79 rfl h
      · have h := hF q
        refine PW_iconst zd_B_square_62 ?_
        exact PW_iret zd_B_square_63 rfl h
    · have h := hF q
      refine PW_iload zd_B_square_35 rfl ?_
      refine PW_iconst zd_B_square_37 ?_
      obtain ⟨h0, hT, hF⟩ := h
      refine PW_icmp_ne zd_B_square_38 ⟨h0, by decide⟩ (fun q => ?_) (fun q => ?_)
      · have h := hT q
        refine PW_aload_n zd_B_square_45 rfl ?_
        obtain ⟨h0, h⟩ := h
        refine PW_getD zd_B_square_46 zf_B_23 (zs_0 _) rfl h0 ?_
        refine PW_getR zd_B_square_49 zf_B_116 (zsT_0 hrT) rfl ?_
        refine PW_iload zd_B_square_52 rfl ?_
        obtain ⟨h0, h⟩ := h
        refine PW_iaload zd_B_square_54 (zsT_4 hrT) h0 ?_
        exact PW_iret zd_B_square_55 rfl h
      · have h := hF q
        refine PW_iconst zd_B_square_41 ?_
        refine PW_goto zd_B_square_42 ?_
        exact PW_iret zd_B_square_55 rfl h
  · have h := hF q
    refine PW_iconst zd_B_square_17 ?_
    exact PW_iret zd_B_square_18 rfl h
def w_B_turn (G : zG) (mirror : Int) (X : zX) (σ : zPH) : Prop :=
  MS G zm_B_isNumber 0 [zr G 0, iZ mirror, iZ 1] σ (fun v σ3 =>
    (v = some (iZ 0) ∧
      X (some (iZ (-1))) σ3) ∨
    (v = some (iZ 1) ∧
      MS G zm_S_add 6 [zr G 29, iZ (σ3 0 7), iZ (σ3 0 8)] σ3 (fun v σ23 =>
        v = none ∧
        (0 ≤ mirror ∧ mirror < 32) ∧
        (0 ≤ (σ23 0 7) ∧ 0 ≤ ((1 : Int) * 2 ^ mirror.toNat)) ∧
        ∀ σ35 : zPH, σ35 = zupd σ23 0 7 (zxor (σ23 0 7) ((1 : Int) * 2 ^ mirror.toNat)) →
        MS G zm_JI_bitCount 0 [iZ (σ35 0 7)] σ35 (fun v σ42 =>
          ∃ z42 : Int, v = some (iZ z42) ∧
          X (some (iZ z42)) σ42))))
set_option maxHeartbeats 4000000 in
theorem k_B_turn {G : zG} {mirror : Int} {X : zX} {σ : zPH} (h : w_B_turn G mirror X σ) : MS G zm_B_turn 7 [zr G 0, iZ mirror] σ X := by
  refine ms_of zk_B_turn (Nat.le_of_ble_eq_true rfl) (ls := [some (zr G 0), some (iZ mirror)]) rfl ?_
  unfold w_B_turn at h
  refine PW_aload_n zd_B_turn_0 rfl ?_
  refine PW_iload_n zd_B_turn_1 rfl ?_
  refine PW_iconst zd_B_turn_2 ?_
  refine PW_callV2i zd_B_turn_3 zl_B_102 zk_B_isNumber zv_B_isNumber (fr' := 0) (by decide) (zs_0 _) rfl rfl (Nat.le_of_ble_eq_true rfl) ?_
  refine ms_mono h ?_
  rintro v σ1 (⟨rfl, h⟩ | ⟨rfl, h⟩)
  · refine ⟨0, rfl, ?_⟩
    refine PW_if_ne zd_B_turn_6 (by decide) (fun q => absurd rfl q) (fun _ => ?_)
    refine PW_iconst zd_B_turn_9 ?_
    exact PW_iret zd_B_turn_10 rfl h
  · refine ⟨1, rfl, ?_⟩
    refine PW_if_ne zd_B_turn_6 (by decide) (fun _ => ?_) (fun q => absurd q (by decide))
    refine PW_aload_n zd_B_turn_11 rfl ?_
    refine PW_getR zd_B_turn_12 zf_B_47 (zs_0 _) rfl ?_
    refine PW_aload_n zd_B_turn_15 rfl ?_
    refine PW_getI zd_B_turn_16 zf_B_70 (zs_0 _) rfl ?_
    refine PW_aload_n zd_B_turn_19 rfl ?_
    refine PW_getI zd_B_turn_20 zf_B_73 (zs_0 _) rfl ?_
    refine PW_callV2v zd_B_turn_23 zl_B_126 zk_S_add zv_S_add (fr' := 6) (by decide) (zs_29 _) rfl rfl (Nat.le_of_ble_eq_true rfl) ?_
    refine ms_mono h ?_
    rintro v σ1 ⟨rfl, h⟩
    refine ⟨rfl, ?_⟩
    refine PW_aload_n zd_B_turn_26 rfl ?_
    refine PW_dup zd_B_turn_27 rfl ?_
    refine PW_getI zd_B_turn_28 zf_B_70 (zs_0 _) rfl ?_
    refine PW_iconst zd_B_turn_31 ?_
    refine PW_iload_n zd_B_turn_32 rfl ?_
    obtain ⟨h0, h⟩ := h
    refine PW_ishl zd_B_turn_33 h0 ?_
    obtain ⟨h0, h⟩ := h
    refine PW_ixor zd_B_turn_34 h0 ?_
    refine PW_putI zd_B_turn_35 zp_B_70 (zs_0 _) rfl ?_
    have h := h _ rfl
    refine PW_aload_n zd_B_turn_38 rfl ?_
    refine PW_getI zd_B_turn_39 zf_B_70 (zs_0 _) rfl ?_
    refine PW_callS1i zd_B_turn_42 zl_B_130 zk_JI_bitCount zv_JI_bitCount (fr' := 0) (by decide) (Nat.le_of_ble_eq_true rfl) ?_
    refine ms_mono h ?_
    rintro v σ1 ⟨z, rfl, h⟩
    refine ⟨z, rfl, ?_⟩
    exact PW_iret zd_B_turn_45 rfl h
def w_B_turned (G : zG) (X : zX) (σ : zPH) : Prop :=
  X (some (iZ (σ 0 7))) σ
set_option maxHeartbeats 4000000 in
theorem k_B_turned {G : zG} {X : zX} {σ : zPH} (h : w_B_turned G  X σ) : MS G zm_B_turned 0 [zr G 0] σ X := by
  refine ms_of zk_B_turned (Nat.le_of_ble_eq_true rfl) (ls := [some (zr G 0)]) rfl ?_
  unfold w_B_turned at h
  refine PW_aload_n zd_B_turned_0 rfl ?_
  refine PW_getI zd_B_turned_1 zf_B_70 (zs_0 _) rfl ?_
  exact PW_iret zd_B_turned_4 rfl h
def w_B_set (G : zG) (state : Int) (X : zX) (σ : zPH) : Prop :=
  MS G zm_B_isState 1 [zr G 0, iZ state] σ (fun v σ2 =>
    (v = some (iZ 0) ∧
      X (some (iZ 0)) σ2) ∨
    (v = some (iZ 1) ∧
      MS G zm_B_moveTo 7 [zr G 0, iZ state] σ2 (fun v σ12 =>
        v = none ∧
        X (some (iZ 1)) σ12)))
set_option maxHeartbeats 4000000 in
theorem k_B_set {G : zG} {state : Int} {X : zX} {σ : zPH} (h : w_B_set G state X σ) : MS G zm_B_set 8 [zr G 0, iZ state] σ X := by
  refine ms_of zk_B_set (Nat.le_of_ble_eq_true rfl) (ls := [some (zr G 0), some (iZ state)]) rfl ?_
  unfold w_B_set at h
  refine PW_aload_n zd_B_set_0 rfl ?_
  refine PW_iload_n zd_B_set_1 rfl ?_
  refine PW_callV1i zd_B_set_2 zl_B_136 zk_B_isState zv_B_isState (fr' := 1) (by decide) (zs_0 _) rfl rfl (Nat.le_of_ble_eq_true rfl) ?_
  refine ms_mono h ?_
  rintro v σ1 (⟨rfl, h⟩ | ⟨rfl, h⟩)
  · refine ⟨0, rfl, ?_⟩
    refine PW_if_ne zd_B_set_5 (by decide) (fun q => absurd rfl q) (fun _ => ?_)
    refine PW_iconst zd_B_set_8 ?_
    exact PW_zret zd_B_set_9 rfl (by decide) h
  · refine ⟨1, rfl, ?_⟩
    refine PW_if_ne zd_B_set_5 (by decide) (fun _ => ?_) (fun q => absurd q (by decide))
    refine PW_aload_n zd_B_set_10 rfl ?_
    refine PW_iload_n zd_B_set_11 rfl ?_
    refine PW_callV1v zd_B_set_12 zl_B_140 zk_B_moveTo zv_B_moveTo (fr' := 7) (by decide) (zs_0 _) rfl rfl (Nat.le_of_ble_eq_true rfl) ?_
    refine ms_mono h ?_
    rintro v σ1 ⟨rfl, h⟩
    refine ⟨rfl, ?_⟩
    refine PW_iconst zd_B_set_15 ?_
    exact PW_zret zd_B_set_16 rfl (by decide) h
def w_B_state (G : zG) (X : zX) (σ : zPH) : Prop :=
  X (some (iZ (σ 0 8))) σ
set_option maxHeartbeats 4000000 in
theorem k_B_state {G : zG} {X : zX} {σ : zPH} (h : w_B_state G  X σ) : MS G zm_B_state 0 [zr G 0] σ X := by
  refine ms_of zk_B_state (Nat.le_of_ble_eq_true rfl) (ls := [some (zr G 0)]) rfl ?_
  unfold w_B_state at h
  refine PW_aload_n zd_B_state_0 rfl ?_
  refine PW_getI zd_B_state_1 zf_B_73 (zs_0 _) rfl ?_
  exact PW_iret zd_B_state_4 rfl h
def w_B_light (G : zG) (rT : Nat) (column row way : Int) (X : zX) (σ : zPH) : Prop :=
  σ 0 3 = ((rT : Nat) : Int) ∧
  MS G zm_T_squareAt 0 [zr G rT, iZ column, iZ row] σ (fun v σ6 =>
    ∃ z6 : Int, v = some (iZ z6) ∧
    (zI z6) ∧
    (z6 = (-1) →
      X (some (iZ (-1))) σ6) ∧
    (z6 ≠ (-1) →
      (zI way) ∧
      (way < 0 →
        X (some (iZ (-1))) σ6) ∧
      (0 ≤ way →
        (zI way) ∧
        (way < 4 →
          MS G zm_B_lightNow 5 [zr G 0] σ6 (fun v σ29 =>
            v = some (zr G 19) ∧
            (0 ≤ ((z6 * 4) + way) ∧ ((z6 * 4) + way) < 576) ∧
            X (some (iZ (σ29 20 ((z6 * 4) + way).toNat))) σ29)) ∧
        (4 ≤ way →
          X (some (iZ (-1))) σ6))))
set_option maxHeartbeats 4000000 in
theorem k_B_light {G : zG} {rT : Nat} {column row way : Int} {X : zX} (hrT : zisT rT) {σ : zPH} (h : w_B_light G rT column row way X σ) : MS G zm_B_light 6 [zr G 0, iZ column, iZ row, iZ way] σ X := by
  refine ms_of zk_B_light (Nat.le_of_ble_eq_true rfl) (ls := [some (zr G 0), some (iZ column), some (iZ row), some (iZ way), none]) rfl ?_
  unfold w_B_light at h
  refine PW_aload_n zd_B_light_0 rfl ?_
  obtain ⟨h0, h⟩ := h
  refine PW_getD zd_B_light_1 zf_B_23 (zs_0 _) rfl h0 ?_
  refine PW_iload_n zd_B_light_4 rfl ?_
  refine PW_iload_n zd_B_light_5 rfl ?_
  refine PW_callV2i zd_B_light_6 zl_B_110 zk_T_squareAt zv_T_squareAt (fr' := 0) (by decide) (zsT_0 hrT) rfl rfl (Nat.le_of_ble_eq_true rfl) ?_
  refine ms_mono h ?_
  rintro v σ1 ⟨z, rfl, h⟩
  refine ⟨z, rfl, ?_⟩
  refine PW_istore zd_B_light_9 rfl (by decide) (ls2 := [_, _, _, _, _]) rfl ?_
  refine PW_iload zd_B_light_11 rfl ?_
  refine PW_iconst zd_B_light_13 ?_
  obtain ⟨h0, hT, hF⟩ := h
  refine PW_icmp_eq zd_B_light_14 ⟨h0, by decide⟩ (fun q => ?_) (fun q => ?_)
  · have h := hT q
    refine PW_iconst zd_B_light_26 ?_
    exact PW_iret zd_B_light_27 rfl h
  · have h := hF q
    refine PW_iload_n zd_B_light_17 rfl ?_
    obtain ⟨h0, hT, hF⟩ := h
    refine PW_if_lt zd_B_light_18 h0 (fun q => ?_) (fun q => ?_)
    · have h := hT q
      refine PW_iconst zd_B_light_26 ?_
      exact PW_iret zd_B_light_27 rfl h
    · have h := hF q
      refine PW_iload_n zd_B_light_21 rfl ?_
      refine PW_iconst zd_B_light_22 ?_
      obtain ⟨h0, hT, hF⟩ := h
      refine PW_icmp_lt zd_B_light_23 ⟨h0, by decide⟩ (fun q => ?_) (fun q => ?_)
      · have h := hT q
        refine PW_aload_n zd_B_light_28 rfl ?_
        refine PW_callV0r zd_B_light_29 zl_B_143 zk_B_lightNow zv_B_lightNow (fr' := 5) (by decide) (zs_0 _) rfl rfl (Nat.le_of_ble_eq_true rfl) ?_
        refine ms_mono h ?_
        rintro v σ1 ⟨rfl, h⟩
        refine ⟨_, rfl, ?_⟩
        refine PW_getR zd_B_light_32 zf_B_147 (zs_19 _) rfl ?_
        refine PW_iload zd_B_light_35 rfl ?_
        refine PW_iconst zd_B_light_37 ?_
        refine PW_imul zd_B_light_38 ?_
        refine PW_iload_n zd_B_light_39 rfl ?_
        refine PW_iadd zd_B_light_40 ?_
        obtain ⟨h0, h⟩ := h
        refine PW_iaload zd_B_light_41 (zs_20 _) h0 ?_
        exact PW_iret zd_B_light_42 rfl h
      · have h := hF q
        refine PW_iconst zd_B_light_26 ?_
        exact PW_iret zd_B_light_27 rfl h
def b_B_lit_51 (G : zG) (rT : Nat) (colour : Int) (X : zX) (K25 : Int → Int → zPH → Prop) (x3 x4 : Int) (σ : zPH) : Prop :=
  K25 x3 (x4 + 1) σ
set_option maxHeartbeats 4000000 in
theorem kb_B_lit_51 {G : zG} {rT : Nat} {colour : Int} {X : zX} {K25 : Int → Int → zPH → Prop} (hrT : zisT rT) (hK25 : ∀ (y0 y1 : Int) (σ : zPH), K25 y0 y1 σ → PW G zm_B_lit 6 X 25 [some (zr G 0), some (iZ colour), some (zr G 19), some (iZ y0), some (iZ y1)] [] σ) {x3 x4 : Int} {σ : zPH} (h : b_B_lit_51 G rT colour X K25 x3 x4 σ) : PW G zm_B_lit 6 X 51 [some (zr G 0), some (iZ colour), some (zr G 19), some (iZ x3), some (iZ x4)] [] σ := by
  unfold b_B_lit_51 at h
  refine PW_iinc zd_B_lit_51 rfl rfl (by decide) (ls2 := [_, _, _, _, _]) rfl ?_
  refine PW_goto zd_B_lit_54 ?_
  exact PW_sub (by exact ⟨rfl, rfl, rfl, rfl, rfl, trivial⟩) (hK25 _ _ _ h)
def b_B_lit_25 (G : zG) (rT : Nat) (colour : Int) (X : zX) (K25 : Int → Int → zPH → Prop) (x3 x4 : Int) (σ : zPH) : Prop :=
  σ 0 3 = ((rT : Nat) : Int) ∧
  MS G zm_T_squareCount 0 [zr G rT] σ (fun v σ31 =>
    ∃ z31 : Int, v = some (iZ z31) ∧
    (zI x4 ∧ zI z31) ∧
    (z31 ≤ x4 →
      X (some (iZ x3)) σ31) ∧
    (x4 < z31 →
      MS G zm_L_comesInto 0 [zr G 19, iZ x4] σ31 (fun v σ40 =>
        ∃ z40 : Int, v = some (iZ z40) ∧
        (0 ≤ z40 ∧ 0 ≤ colour) ∧
        (zI (zand z40 colour)) ∧
        ((zand z40 colour) = 0 →
          b_B_lit_51 G rT colour X K25 x3 x4 σ40) ∧
        ((zand z40 colour) ≠ 0 →
          b_B_lit_51 G rT colour X K25 (x3 + 1) x4 σ40))))
set_option maxHeartbeats 4000000 in
theorem kb_B_lit_25 {G : zG} {rT : Nat} {colour : Int} {X : zX} {K25 : Int → Int → zPH → Prop} (hrT : zisT rT) (hK25 : ∀ (y0 y1 : Int) (σ : zPH), K25 y0 y1 σ → PW G zm_B_lit 6 X 25 [some (zr G 0), some (iZ colour), some (zr G 19), some (iZ y0), some (iZ y1)] [] σ) {x3 x4 : Int} {σ : zPH} (h : b_B_lit_25 G rT colour X K25 x3 x4 σ) : PW G zm_B_lit 6 X 25 [some (zr G 0), some (iZ colour), some (zr G 19), some (iZ x3), some (iZ x4)] [] σ := by
  unfold b_B_lit_25 at h
  refine PW_iload zd_B_lit_25 rfl ?_
  refine PW_aload_n zd_B_lit_27 rfl ?_
  obtain ⟨h0, h⟩ := h
  refine PW_getD zd_B_lit_28 zf_B_23 (zs_0 _) rfl h0 ?_
  refine PW_callV0i zd_B_lit_31 zl_B_153 zk_T_squareCount zv_T_squareCount (fr' := 0) (by decide) (zsT_0 hrT) rfl rfl (Nat.le_of_ble_eq_true rfl) ?_
  refine ms_mono h ?_
  rintro v σ1 ⟨z, rfl, h⟩
  refine ⟨z, rfl, ?_⟩
  obtain ⟨h0, hT, hF⟩ := h
  refine PW_icmp_ge zd_B_lit_34 h0 (fun q => ?_) (fun q => ?_)
  · have h := hT q
    refine PW_iload_n zd_B_lit_57 rfl ?_
    exact PW_iret zd_B_lit_58 rfl h
  · have h := hF q
    refine PW_aload_n zd_B_lit_37 rfl ?_
    refine PW_iload zd_B_lit_38 rfl ?_
    refine PW_callV1i zd_B_lit_40 zl_B_157 zk_L_comesInto zv_L_comesInto (fr' := 0) (by decide) (zs_19 _) rfl rfl (Nat.le_of_ble_eq_true rfl) ?_
    refine ms_mono h ?_
    rintro v σ1 ⟨z, rfl, h⟩
    refine ⟨z, rfl, ?_⟩
    refine PW_iload_n zd_B_lit_43 rfl ?_
    obtain ⟨h0, h⟩ := h
    refine PW_iand zd_B_lit_44 h0 ?_
    obtain ⟨h0, hT, hF⟩ := h
    refine PW_if_eq zd_B_lit_45 h0 (fun q => ?_) (fun q => ?_)
    · have h := hT q
      exact PW_sub (by exact ⟨rfl, rfl, rfl, rfl, rfl, trivial⟩) (kb_B_lit_51 hrT hK25 h)
    · have h := hF q
      refine PW_iinc zd_B_lit_48 rfl rfl (by decide) (ls2 := [_, _, _, _, _]) rfl ?_
      exact PW_sub (by exact ⟨rfl, rfl, rfl, rfl, rfl, trivial⟩) (kb_B_lit_51 hrT hK25 h)
theorem kl_B_lit_25 {G : zG} {rT : Nat} {colour : Int} {X : zX} (hrT : zisT rT) {x3 x4 : Int} {σ : zPH} (h : zLP2 (b_B_lit_25 G rT colour X ) x3 x4 σ) : PW G zm_B_lit 6 X 25 [some (zr G 0), some (iZ colour), some (zr G 19), some (iZ x3), some (iZ x4)] [] σ := by
  obtain ⟨n, h⟩ := h
  induction n generalizing x3 x4 σ with
  | zero => exact h.elim
  | succ n ih => exact kb_B_lit_25 hrT  (fun _ _ _ h => ih h) h
def b_B_lit_15 (G : zG) (rT : Nat) (colour : Int) (X : zX) (σ : zPH) : Prop :=
  MS G zm_B_lightNow 5 [zr G 0] σ (fun v σ16 =>
    v = some (zr G 19) ∧
    zLP2 (b_B_lit_25 G rT colour X ) 0 0 σ16)
set_option maxHeartbeats 4000000 in
theorem kb_B_lit_15 {G : zG} {rT : Nat} {colour : Int} {X : zX} (hrT : zisT rT) {σ : zPH} (h : b_B_lit_15 G rT colour X   σ) : PW G zm_B_lit 6 X 15 [some (zr G 0), some (iZ colour), none, none, none] [] σ := by
  unfold b_B_lit_15 at h
  refine PW_aload_n zd_B_lit_15 rfl ?_
  refine PW_callV0r zd_B_lit_16 zl_B_143 zk_B_lightNow zv_B_lightNow (fr' := 5) (by decide) (zs_0 _) rfl rfl (Nat.le_of_ble_eq_true rfl) ?_
  refine ms_mono h ?_
  rintro v σ1 ⟨rfl, h⟩
  refine ⟨_, rfl, ?_⟩
  refine PW_astore_n zd_B_lit_19 rfl (by decide) (ls2 := [_, _, _, _, _]) rfl ?_
  refine PW_iconst zd_B_lit_20 ?_
  refine PW_istore_n zd_B_lit_21 rfl (by decide) (ls2 := [_, _, _, _, _]) rfl ?_
  refine PW_iconst zd_B_lit_22 ?_
  refine PW_istore zd_B_lit_23 rfl (by decide) (ls2 := [_, _, _, _, _]) rfl ?_
  exact PW_sub (by exact ⟨rfl, rfl, rfl, rfl, rfl, trivial⟩) (kl_B_lit_25 hrT  h)
def w_B_lit (G : zG) (rT : Nat) (colour : Int) (X : zX) (σ : zPH) : Prop :=
  (zI colour) ∧
  (colour = 7 →
    b_B_lit_15 G rT colour X  σ) ∧
  (colour ≠ 7 →
    MS G zm_B_isOneColour 0 [iZ colour] σ (fun v σ7 =>
      (v = some (iZ 0) ∧
        X (some (iZ (-1))) σ7) ∨
      (v = some (iZ 1) ∧
        b_B_lit_15 G rT colour X  σ7)))
set_option maxHeartbeats 4000000 in
theorem k_B_lit {G : zG} {rT : Nat} {colour : Int} {X : zX} (hrT : zisT rT) {σ : zPH} (h : w_B_lit G rT colour X σ) : MS G zm_B_lit 6 [zr G 0, iZ colour] σ X := by
  refine ms_of zk_B_lit (Nat.le_of_ble_eq_true rfl) (ls := [some (zr G 0), some (iZ colour), none, none, none]) rfl ?_
  unfold w_B_lit at h
  refine PW_iload_n zd_B_lit_0 rfl ?_
  refine PW_bipush zd_B_lit_1 rfl ?_
  obtain ⟨h0, hT, hF⟩ := h
  refine PW_icmp_eq zd_B_lit_3 ⟨h0, by decide⟩ (fun q => ?_) (fun q => ?_)
  · have h := hT q
    exact PW_sub (by exact ⟨rfl, rfl, trivial⟩) (kb_B_lit_15 hrT  h)
  · have h := hF q
    refine PW_iload_n zd_B_lit_6 rfl ?_
    refine PW_callS1i zd_B_lit_7 zl_B_150 zk_B_isOneColour zv_B_isOneColour (fr' := 0) (by decide) (Nat.le_of_ble_eq_true rfl) ?_
    refine ms_mono h ?_
    rintro v σ1 (⟨rfl, h⟩ | ⟨rfl, h⟩)
    · refine ⟨0, rfl, ?_⟩
      refine PW_if_ne zd_B_lit_10 (by decide) (fun q => absurd rfl q) (fun _ => ?_)
      refine PW_iconst zd_B_lit_13 ?_
      exact PW_iret zd_B_lit_14 rfl h
    · refine ⟨1, rfl, ?_⟩
      refine PW_if_ne zd_B_lit_10 (by decide) (fun _ => ?_) (fun q => absurd q (by decide))
      exact PW_sub (by exact ⟨rfl, rfl, trivial⟩) (kb_B_lit_15 hrT  h)
def w_B_sees (G : zG) (eye0 : Int) (X : zX) (σ : zPH) : Prop :=
  MS G zm_B_isNumber 0 [zr G 0, iZ eye0, iZ 3] σ (fun v σ3 =>
    (v = some (iZ 0) ∧
      X (some (iZ (-1))) σ3) ∨
    (v = some (iZ 1) ∧
      MS G zm_B_lightNow 5 [zr G 0] σ3 (fun v σ10 =>
        v = some (zr G 19) ∧
        (0 ≤ eye0 ∧ eye0 < 8) ∧
        X (some (iZ (σ10 21 eye0.toNat))) σ10)))
set_option maxHeartbeats 4000000 in
theorem k_B_sees {G : zG} {eye0 : Int} {X : zX} {σ : zPH} (h : w_B_sees G eye0 X σ) : MS G zm_B_sees 6 [zr G 0, iZ eye0] σ X := by
  refine ms_of zk_B_sees (Nat.le_of_ble_eq_true rfl) (ls := [some (zr G 0), some (iZ eye0)]) rfl ?_
  unfold w_B_sees at h
  refine PW_aload_n zd_B_sees_0 rfl ?_
  refine PW_iload_n zd_B_sees_1 rfl ?_
  refine PW_iconst zd_B_sees_2 ?_
  refine PW_callV2i zd_B_sees_3 zl_B_102 zk_B_isNumber zv_B_isNumber (fr' := 0) (by decide) (zs_0 _) rfl rfl (Nat.le_of_ble_eq_true rfl) ?_
  refine ms_mono h ?_
  rintro v σ1 (⟨rfl, h⟩ | ⟨rfl, h⟩)
  · refine ⟨0, rfl, ?_⟩
    refine PW_if_eq zd_B_sees_6 (by decide) (fun _ => ?_) (fun q => absurd rfl q)
    refine PW_iconst zd_B_sees_21 ?_
    exact PW_iret zd_B_sees_22 rfl h
  · refine ⟨1, rfl, ?_⟩
    refine PW_if_eq zd_B_sees_6 (by decide) (fun q => absurd q (by decide)) (fun _ => ?_)
    refine PW_aload_n zd_B_sees_9 rfl ?_
    refine PW_callV0r zd_B_sees_10 zl_B_143 zk_B_lightNow zv_B_lightNow (fr' := 5) (by decide) (zs_0 _) rfl rfl (Nat.le_of_ble_eq_true rfl) ?_
    refine ms_mono h ?_
    rintro v σ1 ⟨rfl, h⟩
    refine ⟨_, rfl, ?_⟩
    refine PW_getR zd_B_sees_13 zf_B_160 (zs_19 _) rfl ?_
    refine PW_iload_n zd_B_sees_16 rfl ?_
    obtain ⟨h0, h⟩ := h
    refine PW_iaload zd_B_sees_17 (zs_21 _) h0 ?_
    refine PW_goto zd_B_sees_18 ?_
    exact PW_iret zd_B_sees_22 rfl h
def b_B_step_27 (G : zG) (rT : Nat) (n : Int) (X : zX) (K27 : Int → Int → zPH → Prop) (x2 x3 : Int) (σ : zPH) : Prop :=
  (zI x3 ∧ zI n) ∧
  (n ≤ x3 →
    MS G zm_B_moveTo 7 [zr G 0, iZ x2] σ (fun v σ57 =>
      v = none ∧
      X (some (iZ (σ57 0 8))) σ57)) ∧
  (x3 < n →
    σ 0 3 = ((rT : Nat) : Int) ∧
    MS G zm_C_after 5 [zr G 14, zr G rT, iZ (σ 0 7), iZ x2] σ (fun v σ45 =>
      ∃ z45 : Int, v = some (iZ z45) ∧
      K27 z45 (x3 + 1) σ45))
set_option maxHeartbeats 4000000 in
theorem kb_B_step_27 {G : zG} {rT : Nat} {n : Int} {X : zX} {K27 : Int → Int → zPH → Prop} (hrT : zisT rT) (hK27 : ∀ (y0 y1 : Int) (σ : zPH), K27 y0 y1 σ → PW G zm_B_step 8 X 27 [some (zr G 0), some (iZ n), some (iZ y0), some (iZ y1)] [] σ) {x2 x3 : Int} {σ : zPH} (h : b_B_step_27 G rT n X K27 x2 x3 σ) : PW G zm_B_step 8 X 27 [some (zr G 0), some (iZ n), some (iZ x2), some (iZ x3)] [] σ := by
  unfold b_B_step_27 at h
  refine PW_iload_n zd_B_step_27 rfl ?_
  refine PW_iload_n zd_B_step_28 rfl ?_
  obtain ⟨h0, hT, hF⟩ := h
  refine PW_icmp_ge zd_B_step_29 h0 (fun q => ?_) (fun q => ?_)
  · have h := hT q
    refine PW_aload_n zd_B_step_55 rfl ?_
    refine PW_iload_n zd_B_step_56 rfl ?_
    refine PW_callV1v zd_B_step_57 zl_B_140 zk_B_moveTo zv_B_moveTo (fr' := 7) (by decide) (zs_0 _) rfl rfl (Nat.le_of_ble_eq_true rfl) ?_
    refine ms_mono h ?_
    rintro v σ1 ⟨rfl, h⟩
    refine ⟨rfl, ?_⟩
    refine PW_aload_n zd_B_step_60 rfl ?_
    refine PW_getI zd_B_step_61 zf_B_73 (zs_0 _) rfl ?_
    exact PW_iret zd_B_step_64 rfl h
  · have h := hF q
    refine PW_aload_n zd_B_step_32 rfl ?_
    refine PW_getR zd_B_step_33 zf_B_30 (zs_0 _) rfl ?_
    refine PW_aload_n zd_B_step_36 rfl ?_
    obtain ⟨h0, h⟩ := h
    refine PW_getD zd_B_step_37 zf_B_23 (zs_0 _) rfl h0 ?_
    refine PW_aload_n zd_B_step_40 rfl ?_
    refine PW_getI zd_B_step_41 zf_B_70 (zs_0 _) rfl ?_
    refine PW_iload_n zd_B_step_44 rfl ?_
    refine PW_callV3i zd_B_step_45 zl_B_166 zk_C_after zv_C_after (fr' := 5) (by decide) (zs_14 _) rfl rfl (Nat.le_of_ble_eq_true rfl) ?_
    refine ms_mono h ?_
    rintro v σ1 ⟨z, rfl, h⟩
    refine ⟨z, rfl, ?_⟩
    refine PW_istore_n zd_B_step_48 rfl (by decide) (ls2 := [_, _, _, _]) rfl ?_
    refine PW_iinc zd_B_step_49 rfl rfl (by decide) (ls2 := [_, _, _, _]) rfl ?_
    refine PW_goto zd_B_step_52 ?_
    exact PW_sub (by exact ⟨rfl, rfl, rfl, rfl, trivial⟩) (hK27 _ _ _ h)
theorem kl_B_step_27 {G : zG} {rT : Nat} {n : Int} {X : zX} (hrT : zisT rT) {x2 x3 : Int} {σ : zPH} (h : zLP2 (b_B_step_27 G rT n X ) x2 x3 σ) : PW G zm_B_step 8 X 27 [some (zr G 0), some (iZ n), some (iZ x2), some (iZ x3)] [] σ := by
  obtain ⟨n, h⟩ := h
  induction n generalizing x2 x3 σ with
  | zero => exact h.elim
  | succ n ih => exact kb_B_step_27 hrT  (fun _ _ _ h => ih h) h
def w_B_step (G : zG) (rT : Nat) (n : Int) (X : zX) (σ : zPH) : Prop :=
  (zI n) ∧
  (n < 0 →
    X (some (iZ (-1))) σ) ∧
  (0 ≤ n →
    (zI n) ∧
    (n ≤ 1000 →
      MS G zm_C_forget 1 [zr G 14] σ (fun v σ17 =>
        v = none ∧
        ∀ x2 : Int, x2 = (σ17 0 8) →
        zLP2 (b_B_step_27 G rT n X ) x2 0 σ17)) ∧
    (1000 < n →
      X (some (iZ (-1))) σ))
set_option maxHeartbeats 4000000 in
theorem k_B_step {G : zG} {rT : Nat} {n : Int} {X : zX} (hrT : zisT rT) {σ : zPH} (h : w_B_step G rT n X σ) : MS G zm_B_step 8 [zr G 0, iZ n] σ X := by
  refine ms_of zk_B_step (Nat.le_of_ble_eq_true rfl) (ls := [some (zr G 0), some (iZ n), none, none]) rfl ?_
  unfold w_B_step at h
  refine PW_iload_n zd_B_step_0 rfl ?_
  obtain ⟨h0, hT, hF⟩ := h
  refine PW_if_lt zd_B_step_1 h0 (fun q => ?_) (fun q => ?_)
  · have h := hT q
    refine PW_iconst zd_B_step_11 ?_
    exact PW_iret zd_B_step_12 rfl h
  · have h := hF q
    refine PW_iload_n zd_B_step_4 rfl ?_
    refine PW_sipush zd_B_step_5 rfl ?_
    obtain ⟨h0, hT, hF⟩ := h
    refine PW_icmp_le zd_B_step_8 ⟨h0, by decide⟩ (fun q => ?_) (fun q => ?_)
    · have h := hT q
      refine PW_aload_n zd_B_step_13 rfl ?_
      refine PW_getR zd_B_step_14 zf_B_30 (zs_0 _) rfl ?_
      refine PW_callV0v zd_B_step_17 zl_B_163 zk_C_forget zv_C_forget (fr' := 1) (by decide) (zs_14 _) rfl rfl (Nat.le_of_ble_eq_true rfl) ?_
      refine ms_mono h ?_
      rintro v σ1 ⟨rfl, h⟩
      refine ⟨rfl, ?_⟩
      refine PW_aload_n zd_B_step_20 rfl ?_
      refine PW_getI zd_B_step_21 zf_B_73 (zs_0 _) rfl ?_
      refine PW_istore_n zd_B_step_24 rfl (by decide) (ls2 := [_, _, _, _]) rfl ?_
      have h := h _ rfl
      refine PW_iconst zd_B_step_25 ?_
      refine PW_istore_n zd_B_step_26 rfl (by decide) (ls2 := [_, _, _, _]) rfl ?_
      exact PW_sub (by exact ⟨rfl, rfl, rfl, rfl, trivial⟩) (kl_B_step_27 hrT  h)
    · have h := hF q
      refine PW_iconst zd_B_step_11 ?_
      exact PW_iret zd_B_step_12 rfl h
def w_B_round (G : zG) (rT : Nat) (what : Int) (X : zX) (σ : zPH) : Prop :=
  MS G zm_C_forget 1 [zr G 14] σ (fun v σ4 =>
    v = none ∧
    σ4 0 3 = ((rT : Nat) : Int) ∧
    MS G zm_C_walk 6 [zr G 14, zr G rT, iZ (σ4 0 7), iZ (σ4 0 8)] σ4 (fun v σ23 =>
      v = none ∧
      zI what ∧
      (what = 0 →
        X (some (iZ (σ23 14 6))) σ23) ∧
      (what = 1 →
        MS G zm_C_roundLength 0 [zr G 14] σ23 (fun v σ68 =>
          ∃ z68 : Int, v = some (iZ z68) ∧
          X (some (iZ z68)) σ68)) ∧
      (what = 2 →
        (0 ≤ (σ23 14 6) ∧ (σ23 14 6) < 64) ∧
        X (some (iZ (σ23 17 (σ23 14 6).toNat))) σ23) ∧
      (what = 3 →
        MS G zm_C_leastOfRound 6 [zr G 14] σ23 (fun v σ92 =>
          ∃ z92 : Int, v = some (iZ z92) ∧
          X (some (iZ z92)) σ92)) ∧
      ((what < 0 ∨ 3 < what) →
        X (some (iZ (-1))) σ23)))
set_option maxHeartbeats 4000000 in
theorem k_B_round {G : zG} {rT : Nat} {what : Int} {X : zX} (hrT : zisT rT) {σ : zPH} (h : w_B_round G rT what X σ) : MS G zm_B_round 7 [zr G 0, iZ what] σ X := by
  refine ms_of zk_B_round (Nat.le_of_ble_eq_true rfl) (ls := [some (zr G 0), some (iZ what)]) rfl ?_
  unfold w_B_round at h
  refine PW_aload_n zd_B_round_0 rfl ?_
  refine PW_getR zd_B_round_1 zf_B_30 (zs_0 _) rfl ?_
  refine PW_callV0v zd_B_round_4 zl_B_163 zk_C_forget zv_C_forget (fr' := 1) (by decide) (zs_14 _) rfl rfl (Nat.le_of_ble_eq_true rfl) ?_
  refine ms_mono h ?_
  rintro v σ1 ⟨rfl, h⟩
  refine ⟨rfl, ?_⟩
  refine PW_aload_n zd_B_round_7 rfl ?_
  refine PW_getR zd_B_round_8 zf_B_30 (zs_0 _) rfl ?_
  refine PW_aload_n zd_B_round_11 rfl ?_
  obtain ⟨h0, h⟩ := h
  refine PW_getD zd_B_round_12 zf_B_23 (zs_0 _) rfl h0 ?_
  refine PW_aload_n zd_B_round_15 rfl ?_
  refine PW_getI zd_B_round_16 zf_B_70 (zs_0 _) rfl ?_
  refine PW_aload_n zd_B_round_19 rfl ?_
  refine PW_getI zd_B_round_20 zf_B_73 (zs_0 _) rfl ?_
  refine PW_callV3v zd_B_round_23 zl_B_170 zk_C_walk zv_C_walk (fr' := 6) (by decide) (zs_14 _) rfl rfl (Nat.le_of_ble_eq_true rfl) ?_
  refine ms_mono h ?_
  rintro v σ1 ⟨rfl, h⟩
  refine ⟨rfl, ?_⟩
  refine PW_iload_n zd_B_round_26 rfl ?_
  obtain ⟨h0, h⟩ := h
  obtain ⟨hc0, hc1, hc2, hc3, hcd⟩ := h
  refine PW_tsplit 0 3 (fun c hx hlo hhi => ?_) (fun hx => ?_)
  · rcases (show c = 0 ∨ c = 1 ∨ c = 2 ∨ c = 3 by omega) with rfl | rfl | rfl | rfl
    · refine PW_tsin (tgt := 56) zd_B_round_27 0 hx (by decide) rfl (by decide) ?_
      have h := hc0 (by omega)
      refine PW_aload_n zd_B_round_56 rfl ?_
      refine PW_getR zd_B_round_57 zf_B_30 (zs_0 _) rfl ?_
      refine PW_getI zd_B_round_60 zf_B_174 (zs_14 _) rfl ?_
      exact PW_iret zd_B_round_63 rfl h
    · refine PW_tsin (tgt := 64) zd_B_round_27 1 hx (by decide) rfl (by decide) ?_
      have h := hc1 (by omega)
      refine PW_aload_n zd_B_round_64 rfl ?_
      refine PW_getR zd_B_round_65 zf_B_30 (zs_0 _) rfl ?_
      refine PW_callV0i zd_B_round_68 zl_B_177 zk_C_roundLength zv_C_roundLength (fr' := 0) (by decide) (zs_14 _) rfl rfl (Nat.le_of_ble_eq_true rfl) ?_
      refine ms_mono h ?_
      rintro v σ1 ⟨z, rfl, h⟩
      refine ⟨z, rfl, ?_⟩
      exact PW_iret zd_B_round_71 rfl h
    · refine PW_tsin (tgt := 72) zd_B_round_27 2 hx (by decide) rfl (by decide) ?_
      have h := hc2 (by omega)
      refine PW_aload_n zd_B_round_72 rfl ?_
      refine PW_getR zd_B_round_73 zf_B_30 (zs_0 _) rfl ?_
      refine PW_getR zd_B_round_76 zf_B_180 (zs_14 _) rfl ?_
      refine PW_aload_n zd_B_round_79 rfl ?_
      refine PW_getR zd_B_round_80 zf_B_30 (zs_0 _) rfl ?_
      refine PW_getI zd_B_round_83 zf_B_174 (zs_14 _) rfl ?_
      obtain ⟨h0, h⟩ := h
      refine PW_iaload zd_B_round_86 (zs_17 _) h0 ?_
      exact PW_iret zd_B_round_87 rfl h
    · refine PW_tsin (tgt := 88) zd_B_round_27 3 hx (by decide) rfl (by decide) ?_
      have h := hc3 (by omega)
      refine PW_aload_n zd_B_round_88 rfl ?_
      refine PW_getR zd_B_round_89 zf_B_30 (zs_0 _) rfl ?_
      refine PW_callV0i zd_B_round_92 zl_B_183 zk_C_leastOfRound zv_C_leastOfRound (fr' := 6) (by decide) (zs_14 _) rfl rfl (Nat.le_of_ble_eq_true rfl) ?_
      refine ms_mono h ?_
      rintro v σ1 ⟨z, rfl, h⟩
      refine ⟨z, rfl, ?_⟩
      exact PW_iret zd_B_round_95 rfl h
  · refine PW_tsout (tgt := 96) zd_B_round_27 (by omega) (by decide) ?_
    have h := hcd (by omega)
    refine PW_iconst zd_B_round_96 ?_
    exact PW_iret zd_B_round_97 rfl h
def b_B_rests_49 (G : zG) (rT : Nat) (k : Int) (X : zX) (K11 : Int → Int → zPH → Prop) (x2 x3 : Int) (σ : zPH) : Prop :=
  K11 x2 (x3 + 1) σ
set_option maxHeartbeats 4000000 in
theorem kb_B_rests_49 {G : zG} {rT : Nat} {k : Int} {X : zX} {K11 : Int → Int → zPH → Prop} (hrT : zisT rT) (hK11 : ∀ (y0 y1 : Int) (σ : zPH), K11 y0 y1 σ → PW G zm_B_rests 6 X 11 [some (zr G 0), some (iZ k), some (iZ y0), some (iZ y1)] [] σ) {x2 x3 : Int} {σ : zPH} (h : b_B_rests_49 G rT k X K11 x2 x3 σ) : PW G zm_B_rests 6 X 49 [some (zr G 0), some (iZ k), some (iZ x2), some (iZ x3)] [] σ := by
  unfold b_B_rests_49 at h
  refine PW_iinc zd_B_rests_49 rfl rfl (by decide) (ls2 := [_, _, _, _]) rfl ?_
  refine PW_goto zd_B_rests_52 ?_
  exact PW_sub (by exact ⟨rfl, rfl, rfl, rfl, trivial⟩) (hK11 _ _ _ h)
def b_B_rests_11 (G : zG) (rT : Nat) (k : Int) (X : zX) (K11 : Int → Int → zPH → Prop) (x2 x3 : Int) (σ : zPH) : Prop :=
  MS G zm_B_stateCount 0 [zr G 0] σ (fun v σ13 =>
    ∃ z13 : Int, v = some (iZ z13) ∧
    (zI x3 ∧ zI z13) ∧
    (z13 ≤ x3 →
      (zI k) ∧
      (k ≠ (-1) →
        X (some (iZ (-1))) σ13) ∧
      (k = (-1) →
        X (some (iZ x2)) σ13)) ∧
    (x3 < z13 →
      σ13 0 3 = ((rT : Nat) : Int) ∧
      MS G zm_C_after 5 [zr G 14, zr G rT, iZ (σ13 0 7), iZ x3] σ13 (fun v σ32 =>
        ∃ z32 : Int, v = some (iZ z32) ∧
        (zI z32 ∧ zI x3) ∧
        (z32 ≠ x3 →
          b_B_rests_49 G rT k X K11 x2 x3 σ32) ∧
        (z32 = x3 →
          (zI x2 ∧ zI k) ∧
          (x2 ≠ k →
            b_B_rests_49 G rT k X K11 (x2 + 1) x3 σ32) ∧
          (x2 = k →
            X (some (iZ x3)) σ32)))))
set_option maxHeartbeats 4000000 in
theorem kb_B_rests_11 {G : zG} {rT : Nat} {k : Int} {X : zX} {K11 : Int → Int → zPH → Prop} (hrT : zisT rT) (hK11 : ∀ (y0 y1 : Int) (σ : zPH), K11 y0 y1 σ → PW G zm_B_rests 6 X 11 [some (zr G 0), some (iZ k), some (iZ y0), some (iZ y1)] [] σ) {x2 x3 : Int} {σ : zPH} (h : b_B_rests_11 G rT k X K11 x2 x3 σ) : PW G zm_B_rests 6 X 11 [some (zr G 0), some (iZ k), some (iZ x2), some (iZ x3)] [] σ := by
  unfold b_B_rests_11 at h
  refine PW_iload_n zd_B_rests_11 rfl ?_
  refine PW_aload_n zd_B_rests_12 rfl ?_
  refine PW_callV0i zd_B_rests_13 zl_B_186 zk_B_stateCount zv_B_stateCount (fr' := 0) (by decide) (zs_0 _) rfl rfl (Nat.le_of_ble_eq_true rfl) ?_
  refine ms_mono h ?_
  rintro v σ1 ⟨z, rfl, h⟩
  refine ⟨z, rfl, ?_⟩
  obtain ⟨h0, hT, hF⟩ := h
  refine PW_icmp_ge zd_B_rests_16 h0 (fun q => ?_) (fun q => ?_)
  · have h := hT q
    refine PW_iload_n zd_B_rests_55 rfl ?_
    refine PW_iconst zd_B_rests_56 ?_
    obtain ⟨h0, hT, hF⟩ := h
    refine PW_icmp_ne zd_B_rests_57 ⟨h0, by decide⟩ (fun q => ?_) (fun q => ?_)
    · have h := hT q
      refine PW_iconst zd_B_rests_64 ?_
      exact PW_iret zd_B_rests_65 rfl h
    · have h := hF q
      refine PW_iload_n zd_B_rests_60 rfl ?_
      refine PW_goto zd_B_rests_61 ?_
      exact PW_iret zd_B_rests_65 rfl h
  · have h := hF q
    refine PW_aload_n zd_B_rests_19 rfl ?_
    refine PW_getR zd_B_rests_20 zf_B_30 (zs_0 _) rfl ?_
    refine PW_aload_n zd_B_rests_23 rfl ?_
    obtain ⟨h0, h⟩ := h
    refine PW_getD zd_B_rests_24 zf_B_23 (zs_0 _) rfl h0 ?_
    refine PW_aload_n zd_B_rests_27 rfl ?_
    refine PW_getI zd_B_rests_28 zf_B_70 (zs_0 _) rfl ?_
    refine PW_iload_n zd_B_rests_31 rfl ?_
    refine PW_callV3i zd_B_rests_32 zl_B_166 zk_C_after zv_C_after (fr' := 5) (by decide) (zs_14 _) rfl rfl (Nat.le_of_ble_eq_true rfl) ?_
    refine ms_mono h ?_
    rintro v σ1 ⟨z, rfl, h⟩
    refine ⟨z, rfl, ?_⟩
    refine PW_iload_n zd_B_rests_35 rfl ?_
    obtain ⟨h0, hT, hF⟩ := h
    refine PW_icmp_ne zd_B_rests_36 h0 (fun q => ?_) (fun q => ?_)
    · have h := hT q
      exact PW_sub (by exact ⟨rfl, rfl, rfl, rfl, trivial⟩) (kb_B_rests_49 hrT hK11 h)
    · have h := hF q
      refine PW_iload_n zd_B_rests_39 rfl ?_
      refine PW_iload_n zd_B_rests_40 rfl ?_
      obtain ⟨h0, hT, hF⟩ := h
      refine PW_icmp_ne zd_B_rests_41 h0 (fun q => ?_) (fun q => ?_)
      · have h := hT q
        refine PW_iinc zd_B_rests_46 rfl rfl (by decide) (ls2 := [_, _, _, _]) rfl ?_
        exact PW_sub (by exact ⟨rfl, rfl, rfl, rfl, trivial⟩) (kb_B_rests_49 hrT hK11 h)
      · have h := hF q
        refine PW_iload_n zd_B_rests_44 rfl ?_
        exact PW_iret zd_B_rests_45 rfl h
theorem kl_B_rests_11 {G : zG} {rT : Nat} {k : Int} {X : zX} (hrT : zisT rT) {x2 x3 : Int} {σ : zPH} (h : zLP2 (b_B_rests_11 G rT k X ) x2 x3 σ) : PW G zm_B_rests 6 X 11 [some (zr G 0), some (iZ k), some (iZ x2), some (iZ x3)] [] σ := by
  obtain ⟨n, h⟩ := h
  induction n generalizing x2 x3 σ with
  | zero => exact h.elim
  | succ n ih => exact kb_B_rests_11 hrT  (fun _ _ _ h => ih h) h
def w_B_rests (G : zG) (rT : Nat) (k : Int) (X : zX) (σ : zPH) : Prop :=
  MS G zm_C_forget 1 [zr G 14] σ (fun v σ4 =>
    v = none ∧
    zLP2 (b_B_rests_11 G rT k X ) 0 0 σ4)
set_option maxHeartbeats 4000000 in
theorem k_B_rests {G : zG} {rT : Nat} {k : Int} {X : zX} (hrT : zisT rT) {σ : zPH} (h : w_B_rests G rT k X σ) : MS G zm_B_rests 6 [zr G 0, iZ k] σ X := by
  refine ms_of zk_B_rests (Nat.le_of_ble_eq_true rfl) (ls := [some (zr G 0), some (iZ k), none, none]) rfl ?_
  unfold w_B_rests at h
  refine PW_aload_n zd_B_rests_0 rfl ?_
  refine PW_getR zd_B_rests_1 zf_B_30 (zs_0 _) rfl ?_
  refine PW_callV0v zd_B_rests_4 zl_B_163 zk_C_forget zv_C_forget (fr' := 1) (by decide) (zs_14 _) rfl rfl (Nat.le_of_ble_eq_true rfl) ?_
  refine ms_mono h ?_
  rintro v σ1 ⟨rfl, h⟩
  refine ⟨rfl, ?_⟩
  refine PW_iconst zd_B_rests_7 ?_
  refine PW_istore_n zd_B_rests_8 rfl (by decide) (ls2 := [_, _, _, _]) rfl ?_
  refine PW_iconst zd_B_rests_9 ?_
  refine PW_istore_n zd_B_rests_10 rfl (by decide) (ls2 := [_, _, _, _]) rfl ?_
  exact PW_sub (by exact ⟨rfl, rfl, rfl, rfl, trivial⟩) (kl_B_rests_11 hrT  h)
def b_B_drawn_59 (G : zG) (rT : Nat) (state : Int) (X : zX) (K21 : Int → Int → zPH → Prop) (x2 x3 : Int) (σ : zPH) : Prop :=
  K21 x2 (x3 + 1) σ
set_option maxHeartbeats 4000000 in
theorem kb_B_drawn_59 {G : zG} {rT : Nat} {state : Int} {X : zX} {K21 : Int → Int → zPH → Prop} (hrT : zisT rT) (hK21 : ∀ (y0 y1 : Int) (σ : zPH), K21 y0 y1 σ → PW G zm_B_drawn 7 X 21 [some (zr G 0), some (iZ state), some (iZ y0), some (iZ y1)] [] σ) {x2 x3 : Int} {σ : zPH} (h : b_B_drawn_59 G rT state X K21 x2 x3 σ) : PW G zm_B_drawn 7 X 59 [some (zr G 0), some (iZ state), some (iZ x2), some (iZ x3)] [] σ := by
  unfold b_B_drawn_59 at h
  refine PW_iinc zd_B_drawn_59 rfl rfl (by decide) (ls2 := [_, _, _, _]) rfl ?_
  refine PW_goto zd_B_drawn_62 ?_
  exact PW_sub (by exact ⟨rfl, rfl, rfl, rfl, trivial⟩) (hK21 _ _ _ h)
def b_B_drawn_21 (G : zG) (rT : Nat) (state : Int) (X : zX) (K21 : Int → Int → zPH → Prop) (x2 x3 : Int) (σ : zPH) : Prop :=
  MS G zm_B_stateCount 0 [zr G 0] σ (fun v σ23 =>
    ∃ z23 : Int, v = some (iZ z23) ∧
    (zI x3 ∧ zI z23) ∧
    (z23 ≤ x3 →
      X (some (iZ x2)) σ23) ∧
    (x3 < z23 →
      σ23 0 3 = ((rT : Nat) : Int) ∧
      MS G zm_C_walk 6 [zr G 14, zr G rT, iZ (σ23 0 7), iZ x3] σ23 (fun v σ42 =>
        v = none ∧
        MS G zm_C_isInRound 0 [zr G 14, iZ state] σ42 (fun v σ50 =>
          (v = some (iZ 0) ∧
            b_B_drawn_59 G rT state X K21 x2 x3 σ50) ∨
          (v = some (iZ 1) ∧
            b_B_drawn_59 G rT state X K21 (x2 + 1) x3 σ50)))))
set_option maxHeartbeats 4000000 in
theorem kb_B_drawn_21 {G : zG} {rT : Nat} {state : Int} {X : zX} {K21 : Int → Int → zPH → Prop} (hrT : zisT rT) (hK21 : ∀ (y0 y1 : Int) (σ : zPH), K21 y0 y1 σ → PW G zm_B_drawn 7 X 21 [some (zr G 0), some (iZ state), some (iZ y0), some (iZ y1)] [] σ) {x2 x3 : Int} {σ : zPH} (h : b_B_drawn_21 G rT state X K21 x2 x3 σ) : PW G zm_B_drawn 7 X 21 [some (zr G 0), some (iZ state), some (iZ x2), some (iZ x3)] [] σ := by
  unfold b_B_drawn_21 at h
  refine PW_iload_n zd_B_drawn_21 rfl ?_
  refine PW_aload_n zd_B_drawn_22 rfl ?_
  refine PW_callV0i zd_B_drawn_23 zl_B_186 zk_B_stateCount zv_B_stateCount (fr' := 0) (by decide) (zs_0 _) rfl rfl (Nat.le_of_ble_eq_true rfl) ?_
  refine ms_mono h ?_
  rintro v σ1 ⟨z, rfl, h⟩
  refine ⟨z, rfl, ?_⟩
  obtain ⟨h0, hT, hF⟩ := h
  refine PW_icmp_ge zd_B_drawn_26 h0 (fun q => ?_) (fun q => ?_)
  · have h := hT q
    refine PW_iload_n zd_B_drawn_65 rfl ?_
    exact PW_iret zd_B_drawn_66 rfl h
  · have h := hF q
    refine PW_aload_n zd_B_drawn_29 rfl ?_
    refine PW_getR zd_B_drawn_30 zf_B_30 (zs_0 _) rfl ?_
    refine PW_aload_n zd_B_drawn_33 rfl ?_
    obtain ⟨h0, h⟩ := h
    refine PW_getD zd_B_drawn_34 zf_B_23 (zs_0 _) rfl h0 ?_
    refine PW_aload_n zd_B_drawn_37 rfl ?_
    refine PW_getI zd_B_drawn_38 zf_B_70 (zs_0 _) rfl ?_
    refine PW_iload_n zd_B_drawn_41 rfl ?_
    refine PW_callV3v zd_B_drawn_42 zl_B_170 zk_C_walk zv_C_walk (fr' := 6) (by decide) (zs_14 _) rfl rfl (Nat.le_of_ble_eq_true rfl) ?_
    refine ms_mono h ?_
    rintro v σ1 ⟨rfl, h⟩
    refine ⟨rfl, ?_⟩
    refine PW_aload_n zd_B_drawn_45 rfl ?_
    refine PW_getR zd_B_drawn_46 zf_B_30 (zs_0 _) rfl ?_
    refine PW_iload_n zd_B_drawn_49 rfl ?_
    refine PW_callV1i zd_B_drawn_50 zl_B_189 zk_C_isInRound zv_C_isInRound (fr' := 0) (by decide) (zs_14 _) rfl rfl (Nat.le_of_ble_eq_true rfl) ?_
    refine ms_mono h ?_
    rintro v σ1 (⟨rfl, h⟩ | ⟨rfl, h⟩)
    · refine ⟨0, rfl, ?_⟩
      refine PW_if_eq zd_B_drawn_53 (by decide) (fun _ => ?_) (fun q => absurd rfl q)
      exact PW_sub (by exact ⟨rfl, rfl, rfl, rfl, trivial⟩) (kb_B_drawn_59 hrT hK21 h)
    · refine ⟨1, rfl, ?_⟩
      refine PW_if_eq zd_B_drawn_53 (by decide) (fun q => absurd q (by decide)) (fun _ => ?_)
      refine PW_iinc zd_B_drawn_56 rfl rfl (by decide) (ls2 := [_, _, _, _]) rfl ?_
      exact PW_sub (by exact ⟨rfl, rfl, rfl, rfl, trivial⟩) (kb_B_drawn_59 hrT hK21 h)
theorem kl_B_drawn_21 {G : zG} {rT : Nat} {state : Int} {X : zX} (hrT : zisT rT) {x2 x3 : Int} {σ : zPH} (h : zLP2 (b_B_drawn_21 G rT state X ) x2 x3 σ) : PW G zm_B_drawn 7 X 21 [some (zr G 0), some (iZ state), some (iZ x2), some (iZ x3)] [] σ := by
  obtain ⟨n, h⟩ := h
  induction n generalizing x2 x3 σ with
  | zero => exact h.elim
  | succ n ih => exact kb_B_drawn_21 hrT  (fun _ _ _ h => ih h) h
def w_B_drawn (G : zG) (rT : Nat) (state : Int) (X : zX) (σ : zPH) : Prop :=
  MS G zm_B_isState 1 [zr G 0, iZ state] σ (fun v σ2 =>
    (v = some (iZ 0) ∧
      X (some (iZ (-1))) σ2) ∨
    (v = some (iZ 1) ∧
      MS G zm_C_forget 1 [zr G 14] σ2 (fun v σ14 =>
        v = none ∧
        zLP2 (b_B_drawn_21 G rT state X ) 0 0 σ14)))
set_option maxHeartbeats 4000000 in
theorem k_B_drawn {G : zG} {rT : Nat} {state : Int} {X : zX} (hrT : zisT rT) {σ : zPH} (h : w_B_drawn G rT state X σ) : MS G zm_B_drawn 7 [zr G 0, iZ state] σ X := by
  refine ms_of zk_B_drawn (Nat.le_of_ble_eq_true rfl) (ls := [some (zr G 0), some (iZ state), none, none]) rfl ?_
  unfold w_B_drawn at h
  refine PW_aload_n zd_B_drawn_0 rfl ?_
  refine PW_iload_n zd_B_drawn_1 rfl ?_
  refine PW_callV1i zd_B_drawn_2 zl_B_136 zk_B_isState zv_B_isState (fr' := 1) (by decide) (zs_0 _) rfl rfl (Nat.le_of_ble_eq_true rfl) ?_
  refine ms_mono h ?_
  rintro v σ1 (⟨rfl, h⟩ | ⟨rfl, h⟩)
  · refine ⟨0, rfl, ?_⟩
    refine PW_if_ne zd_B_drawn_5 (by decide) (fun q => absurd rfl q) (fun _ => ?_)
    refine PW_iconst zd_B_drawn_8 ?_
    exact PW_iret zd_B_drawn_9 rfl h
  · refine ⟨1, rfl, ?_⟩
    refine PW_if_ne zd_B_drawn_5 (by decide) (fun _ => ?_) (fun q => absurd q (by decide))
    refine PW_aload_n zd_B_drawn_10 rfl ?_
    refine PW_getR zd_B_drawn_11 zf_B_30 (zs_0 _) rfl ?_
    refine PW_callV0v zd_B_drawn_14 zl_B_163 zk_C_forget zv_C_forget (fr' := 1) (by decide) (zs_14 _) rfl rfl (Nat.le_of_ble_eq_true rfl) ?_
    refine ms_mono h ?_
    rintro v σ1 ⟨rfl, h⟩
    refine ⟨rfl, ?_⟩
    refine PW_iconst zd_B_drawn_17 ?_
    refine PW_istore_n zd_B_drawn_18 rfl (by decide) (ls2 := [_, _, _, _]) rfl ?_
    refine PW_iconst zd_B_drawn_19 ?_
    refine PW_istore_n zd_B_drawn_20 rfl (by decide) (ls2 := [_, _, _, _]) rfl ?_
    exact PW_sub (by exact ⟨rfl, rfl, rfl, rfl, trivial⟩) (kl_B_drawn_21 hrT  h)
def w_B_wish (G : zG) (eye0 how : Int) (X : zX) (σ : zPH) : Prop :=
  MS G zm_B_isNumber 0 [zr G 0, iZ eye0, iZ 3] σ (fun v σ3 =>
    (v = some (iZ 0) ∧
      X (some (iZ 0)) σ3) ∨
    (v = some (iZ 1) ∧
      (zI how) ∧
      (how < 0 →
        X (some (iZ 0)) σ3) ∧
      (0 ≤ how →
        (zI how) ∧
        (how ≤ 2 →
          (0 ≤ eye0 ∧ eye0 < 32) ∧
          (0 ≤ (σ3 0 9) ∧ 0 ≤ ((1 : Int) * 2 ^ eye0.toNat)) ∧
          ∀ σ31 : zPH, σ31 = zupd σ3 0 9 (zdif (σ3 0 9) ((1 : Int) * 2 ^ eye0.toNat)) →
          (0 ≤ eye0 ∧ eye0 < 32) ∧
          (0 ≤ (σ31 0 10) ∧ 0 ≤ ((1 : Int) * 2 ^ eye0.toNat)) ∧
          ∀ σ45 : zPH, σ45 = zupd σ31 0 10 (zdif (σ31 0 10) ((1 : Int) * 2 ^ eye0.toNat)) →
          (zI how) ∧
          (how ≠ 1 →
            (zI how) ∧
            (how ≠ 2 →
              X (some (iZ 1)) σ45) ∧
            (how = 2 →
              (0 ≤ eye0 ∧ eye0 < 32) ∧
              (0 ≤ (σ45 0 10) ∧ 0 ≤ ((1 : Int) * 2 ^ eye0.toNat)) ∧
              ∀ σ82 : zPH, σ82 = zupd σ45 0 10 (zor (σ45 0 10) ((1 : Int) * 2 ^ eye0.toNat)) →
              X (some (iZ 1)) σ82)) ∧
          (how = 1 →
            (0 ≤ eye0 ∧ eye0 < 32) ∧
            (0 ≤ (σ45 0 9) ∧ 0 ≤ ((1 : Int) * 2 ^ eye0.toNat)) ∧
            ∀ σ62 : zPH, σ62 = zupd σ45 0 9 (zor (σ45 0 9) ((1 : Int) * 2 ^ eye0.toNat)) →
            X (some (iZ 1)) σ62)) ∧
        (2 < how →
          X (some (iZ 0)) σ3))))
set_option maxHeartbeats 4000000 in
theorem k_B_wish {G : zG} {eye0 how : Int} {X : zX} {σ : zPH} (h : w_B_wish G eye0 how X σ) : MS G zm_B_wish 1 [zr G 0, iZ eye0, iZ how] σ X := by
  refine ms_of zk_B_wish (Nat.le_of_ble_eq_true rfl) (ls := [some (zr G 0), some (iZ eye0), some (iZ how)]) rfl ?_
  unfold w_B_wish at h
  refine PW_aload_n zd_B_wish_0 rfl ?_
  refine PW_iload_n zd_B_wish_1 rfl ?_
  refine PW_iconst zd_B_wish_2 ?_
  refine PW_callV2i zd_B_wish_3 zl_B_102 zk_B_isNumber zv_B_isNumber (fr' := 0) (by decide) (zs_0 _) rfl rfl (Nat.le_of_ble_eq_true rfl) ?_
  refine ms_mono h ?_
  rintro v σ1 (⟨rfl, h⟩ | ⟨rfl, h⟩)
  · refine ⟨0, rfl, ?_⟩
    refine PW_if_eq zd_B_wish_6 (by decide) (fun _ => ?_) (fun q => absurd rfl q)
    refine PW_iconst zd_B_wish_18 ?_
    exact PW_zret zd_B_wish_19 rfl (by decide) h
  · refine ⟨1, rfl, ?_⟩
    refine PW_if_eq zd_B_wish_6 (by decide) (fun q => absurd q (by decide)) (fun _ => ?_)
    refine PW_iload_n zd_B_wish_9 rfl ?_
    obtain ⟨h0, hT, hF⟩ := h
    refine PW_if_lt zd_B_wish_10 h0 (fun q => ?_) (fun q => ?_)
    · have h := hT q
      refine PW_iconst zd_B_wish_18 ?_
      exact PW_zret zd_B_wish_19 rfl (by decide) h
    · have h := hF q
      refine PW_iload_n zd_B_wish_13 rfl ?_
      refine PW_iconst zd_B_wish_14 ?_
      obtain ⟨h0, hT, hF⟩ := h
      refine PW_icmp_le zd_B_wish_15 ⟨h0, by decide⟩ (fun q => ?_) (fun q => ?_)
      · have h := hT q
        refine PW_aload_n zd_B_wish_20 rfl ?_
        refine PW_dup zd_B_wish_21 rfl ?_
        refine PW_getI zd_B_wish_22 zf_B_76 (zs_0 _) rfl ?_
        refine PW_iconst zd_B_wish_25 ?_
        refine PW_iload_n zd_B_wish_26 rfl ?_
        obtain ⟨h0, h⟩ := h
        refine PW_ishl zd_B_wish_27 h0 ?_
        refine PW_iconst zd_B_wish_28 ?_
        refine PW_ixorM zd_B_wish_29 ?_
        obtain ⟨h0, h⟩ := h
        refine PW_iandn zd_B_wish_30 h0 ?_
        refine PW_putI zd_B_wish_31 zp_B_76 (zs_0 _) rfl ?_
        have h := h _ rfl
        refine PW_aload_n zd_B_wish_34 rfl ?_
        refine PW_dup zd_B_wish_35 rfl ?_
        refine PW_getI zd_B_wish_36 zf_B_79 (zs_0 _) rfl ?_
        refine PW_iconst zd_B_wish_39 ?_
        refine PW_iload_n zd_B_wish_40 rfl ?_
        obtain ⟨h0, h⟩ := h
        refine PW_ishl zd_B_wish_41 h0 ?_
        refine PW_iconst zd_B_wish_42 ?_
        refine PW_ixorM zd_B_wish_43 ?_
        obtain ⟨h0, h⟩ := h
        refine PW_iandn zd_B_wish_44 h0 ?_
        refine PW_putI zd_B_wish_45 zp_B_79 (zs_0 _) rfl ?_
        have h := h _ rfl
        refine PW_iload_n zd_B_wish_48 rfl ?_
        refine PW_iconst zd_B_wish_49 ?_
        obtain ⟨h0, hT, hF⟩ := h
        refine PW_icmp_ne zd_B_wish_50 ⟨h0, by decide⟩ (fun q => ?_) (fun q => ?_)
        · have h := hT q
          refine PW_iload_n zd_B_wish_68 rfl ?_
          refine PW_iconst zd_B_wish_69 ?_
          obtain ⟨h0, hT, hF⟩ := h
          refine PW_icmp_ne zd_B_wish_70 ⟨h0, by decide⟩ (fun q => ?_) (fun q => ?_)
          · have h := hT q
            refine PW_iconst zd_B_wish_85 ?_
            exact PW_zret zd_B_wish_86 rfl (by decide) h
          · have h := hF q
            refine PW_aload_n zd_B_wish_73 rfl ?_
            refine PW_dup zd_B_wish_74 rfl ?_
            refine PW_getI zd_B_wish_75 zf_B_79 (zs_0 _) rfl ?_
            refine PW_iconst zd_B_wish_78 ?_
            refine PW_iload_n zd_B_wish_79 rfl ?_
            obtain ⟨h0, h⟩ := h
            refine PW_ishl zd_B_wish_80 h0 ?_
            obtain ⟨h0, h⟩ := h
            refine PW_ior zd_B_wish_81 h0 ?_
            refine PW_putI zd_B_wish_82 zp_B_79 (zs_0 _) rfl ?_
            have h := h _ rfl
            refine PW_iconst zd_B_wish_85 ?_
            exact PW_zret zd_B_wish_86 rfl (by decide) h
        · have h := hF q
          refine PW_aload_n zd_B_wish_53 rfl ?_
          refine PW_dup zd_B_wish_54 rfl ?_
          refine PW_getI zd_B_wish_55 zf_B_76 (zs_0 _) rfl ?_
          refine PW_iconst zd_B_wish_58 ?_
          refine PW_iload_n zd_B_wish_59 rfl ?_
          obtain ⟨h0, h⟩ := h
          refine PW_ishl zd_B_wish_60 h0 ?_
          obtain ⟨h0, h⟩ := h
          refine PW_ior zd_B_wish_61 h0 ?_
          refine PW_putI zd_B_wish_62 zp_B_76 (zs_0 _) rfl ?_
          have h := h _ rfl
          refine PW_goto zd_B_wish_65 ?_
          refine PW_iconst zd_B_wish_85 ?_
          exact PW_zret zd_B_wish_86 rfl (by decide) h
      · have h := hF q
        refine PW_iconst zd_B_wish_18 ?_
        exact PW_zret zd_B_wish_19 rfl (by decide) h
def w_B_met (G : zG) (X : zX) (σ : zPH) : Prop :=
  MS G zm_B_areMet 6 [zr G 0, iZ (σ 0 7)] σ (fun v σ5 =>
    (v = some (iZ 0) ∧
      X (some (iZ 0)) σ5) ∨
    (v = some (iZ 1) ∧
      X (some (iZ 1)) σ5))
set_option maxHeartbeats 4000000 in
theorem k_B_met {G : zG} {X : zX} {σ : zPH} (h : w_B_met G  X σ) : MS G zm_B_met 7 [zr G 0] σ X := by
  refine ms_of zk_B_met (Nat.le_of_ble_eq_true rfl) (ls := [some (zr G 0)]) rfl ?_
  unfold w_B_met at h
  refine PW_aload_n zd_B_met_0 rfl ?_
  refine PW_aload_n zd_B_met_1 rfl ?_
  refine PW_getI zd_B_met_2 zf_B_70 (zs_0 _) rfl ?_
  refine PW_callV1i zd_B_met_5 zl_B_192 zk_B_areMet zv_B_areMet (fr' := 6) (by decide) (zs_0 _) rfl rfl (Nat.le_of_ble_eq_true rfl) ?_
  refine ms_mono h ?_
  rintro v σ1 (⟨rfl, h⟩ | ⟨rfl, h⟩)
  · refine ⟨0, rfl, ?_⟩
    refine PW_if_eq zd_B_met_8 (by decide) (fun _ => ?_) (fun q => absurd rfl q)
    refine PW_iconst zd_B_met_15 ?_
    exact PW_iret zd_B_met_16 rfl h
  · refine ⟨1, rfl, ?_⟩
    refine PW_if_eq zd_B_met_8 (by decide) (fun q => absurd q (by decide)) (fun _ => ?_)
    refine PW_iconst zd_B_met_11 ?_
    refine PW_goto zd_B_met_12 ?_
    exact PW_iret zd_B_met_16 rfl h
def b_B_fewest_70 (G : zG) (rT : Nat) (set0 : Int) (X : zX) (K14 : Int → Int → zPH → Prop) (K30 : Int → Int → Int → zPH → Prop) (x2 x3 x4 : Int) (σ : zPH) : Prop :=
  K30 x2 x3 (x4 + 1) σ
set_option maxHeartbeats 4000000 in
theorem kb_B_fewest_70 {G : zG} {rT : Nat} {set0 : Int} {X : zX} {K14 : Int → Int → zPH → Prop} {K30 : Int → Int → Int → zPH → Prop} (hrT : zisT rT) (hK14 : ∀ (y0 y1 : Int) (σ : zPH), K14 y0 y1 σ → PW G zm_B_fewest 7 X 14 [some (zr G 0), some (iZ set0), some (iZ y0), some (iZ y1), none] [] σ) (hK30 : ∀ (y0 y1 y2 : Int) (σ : zPH), K30 y0 y1 y2 σ → PW G zm_B_fewest 7 X 30 [some (zr G 0), some (iZ set0), some (iZ y0), some (iZ y1), some (iZ y2)] [] σ) {x2 x3 x4 : Int} {σ : zPH} (h : b_B_fewest_70 G rT set0 X K14 K30 x2 x3 x4 σ) : PW G zm_B_fewest 7 X 70 [some (zr G 0), some (iZ set0), some (iZ x2), some (iZ x3), some (iZ x4)] [] σ := by
  unfold b_B_fewest_70 at h
  refine PW_iinc zd_B_fewest_70 rfl rfl (by decide) (ls2 := [_, _, _, _, _]) rfl ?_
  refine PW_goto zd_B_fewest_73 ?_
  exact PW_sub (by exact ⟨rfl, rfl, rfl, rfl, rfl, trivial⟩) (hK30 _ _ _ _ h)
def b_B_fewest_30 (G : zG) (rT : Nat) (set0 : Int) (X : zX) (K14 : Int → Int → zPH → Prop) (K30 : Int → Int → Int → zPH → Prop) (x2 x3 x4 : Int) (σ : zPH) : Prop :=
  (zI x4 ∧ zI x2) ∧
  (x2 ≤ x4 →
    K14 x2 (x3 + 1) σ) ∧
  (x4 < x2 →
    MS G zm_JI_bitCount 0 [iZ x4] σ (fun v σ38 =>
      ∃ z38 : Int, v = some (iZ z38) ∧
      (zI z38 ∧ zI x3) ∧
      (z38 ≠ x3 →
        b_B_fewest_70 G rT set0 X K14 K30 x2 x3 x4 σ38) ∧
      (z38 = x3 →
        (0 ≤ (σ38 0 7) ∧ 0 ≤ x4) ∧
        MS G zm_B_areMet 6 [zr G 0, iZ (zxor (σ38 0 7) x4)] σ38 (fun v σ53 =>
          (v = some (iZ 0) ∧
            b_B_fewest_70 G rT set0 X K14 K30 x2 x3 x4 σ53) ∨
          (v = some (iZ 1) ∧
            (zI set0) ∧
            (set0 = 0 →
              X (some (iZ x3)) σ53) ∧
            (set0 ≠ 0 →
              X (some (iZ x4)) σ53))))))
set_option maxHeartbeats 4000000 in
theorem kb_B_fewest_30 {G : zG} {rT : Nat} {set0 : Int} {X : zX} {K14 : Int → Int → zPH → Prop} {K30 : Int → Int → Int → zPH → Prop} (hrT : zisT rT) (hK14 : ∀ (y0 y1 : Int) (σ : zPH), K14 y0 y1 σ → PW G zm_B_fewest 7 X 14 [some (zr G 0), some (iZ set0), some (iZ y0), some (iZ y1), none] [] σ) (hK30 : ∀ (y0 y1 y2 : Int) (σ : zPH), K30 y0 y1 y2 σ → PW G zm_B_fewest 7 X 30 [some (zr G 0), some (iZ set0), some (iZ y0), some (iZ y1), some (iZ y2)] [] σ) {x2 x3 x4 : Int} {σ : zPH} (h : b_B_fewest_30 G rT set0 X K14 K30 x2 x3 x4 σ) : PW G zm_B_fewest 7 X 30 [some (zr G 0), some (iZ set0), some (iZ x2), some (iZ x3), some (iZ x4)] [] σ := by
  unfold b_B_fewest_30 at h
  refine PW_iload zd_B_fewest_30 rfl ?_
  refine PW_iload_n zd_B_fewest_32 rfl ?_
  obtain ⟨h0, hT, hF⟩ := h
  refine PW_icmp_ge zd_B_fewest_33 h0 (fun q => ?_) (fun q => ?_)
  · have h := hT q
    refine PW_iinc zd_B_fewest_76 rfl rfl (by decide) (ls2 := [_, _, _, _, _]) rfl ?_
    refine PW_goto zd_B_fewest_79 ?_
    exact PW_sub (by exact ⟨rfl, rfl, rfl, rfl, trivial⟩) (hK14 _ _ _ h)
  · have h := hF q
    refine PW_iload zd_B_fewest_36 rfl ?_
    refine PW_callS1i zd_B_fewest_38 zl_B_130 zk_JI_bitCount zv_JI_bitCount (fr' := 0) (by decide) (Nat.le_of_ble_eq_true rfl) ?_
    refine ms_mono h ?_
    rintro v σ1 ⟨z, rfl, h⟩
    refine ⟨z, rfl, ?_⟩
    refine PW_iload_n zd_B_fewest_41 rfl ?_
    obtain ⟨h0, hT, hF⟩ := h
    refine PW_icmp_ne zd_B_fewest_42 h0 (fun q => ?_) (fun q => ?_)
    · have h := hT q
      exact PW_sub (by exact ⟨rfl, rfl, rfl, rfl, rfl, trivial⟩) (kb_B_fewest_70 hrT hK14 hK30 h)
    · have h := hF q
      refine PW_aload_n zd_B_fewest_45 rfl ?_
      refine PW_aload_n zd_B_fewest_46 rfl ?_
      refine PW_getI zd_B_fewest_47 zf_B_70 (zs_0 _) rfl ?_
      refine PW_iload zd_B_fewest_50 rfl ?_
      obtain ⟨h0, h⟩ := h
      refine PW_ixor zd_B_fewest_52 h0 ?_
      refine PW_callV1i zd_B_fewest_53 zl_B_192 zk_B_areMet zv_B_areMet (fr' := 6) (by decide) (zs_0 _) rfl rfl (Nat.le_of_ble_eq_true rfl) ?_
      refine ms_mono h ?_
      rintro v σ1 (⟨rfl, h⟩ | ⟨rfl, h⟩)
      · refine ⟨0, rfl, ?_⟩
        refine PW_if_eq zd_B_fewest_56 (by decide) (fun _ => ?_) (fun q => absurd rfl q)
        exact PW_sub (by exact ⟨rfl, rfl, rfl, rfl, rfl, trivial⟩) (kb_B_fewest_70 hrT hK14 hK30 h)
      · refine ⟨1, rfl, ?_⟩
        refine PW_if_eq zd_B_fewest_56 (by decide) (fun q => absurd q (by decide)) (fun _ => ?_)
        refine PW_iload_n zd_B_fewest_59 rfl ?_
        obtain ⟨h0, hT, hF⟩ := h
        refine PW_if_eq zd_B_fewest_60 h0 (fun q => ?_) (fun q => ?_)
        · have h := hT q
          refine PW_iload_n zd_B_fewest_68 rfl ?_
          exact PW_iret zd_B_fewest_69 rfl h
        · have h := hF q
          refine PW_iload zd_B_fewest_63 rfl ?_
          refine PW_goto zd_B_fewest_65 ?_
          exact PW_iret zd_B_fewest_69 rfl h
theorem kl_B_fewest_30 {G : zG} {rT : Nat} {set0 : Int} {X : zX} {K14 : Int → Int → zPH → Prop} (hrT : zisT rT) (hK14 : ∀ (y0 y1 : Int) (σ : zPH), K14 y0 y1 σ → PW G zm_B_fewest 7 X 14 [some (zr G 0), some (iZ set0), some (iZ y0), some (iZ y1), none] [] σ) {x2 x3 x4 : Int} {σ : zPH} (h : zLP3 (b_B_fewest_30 G rT set0 X K14) x2 x3 x4 σ) : PW G zm_B_fewest 7 X 30 [some (zr G 0), some (iZ set0), some (iZ x2), some (iZ x3), some (iZ x4)] [] σ := by
  obtain ⟨n, h⟩ := h
  induction n generalizing x2 x3 x4 σ with
  | zero => exact h.elim
  | succ n ih => exact kb_B_fewest_30 hrT hK14 (fun _ _ _ _ h => ih h) h
def b_B_fewest_14 (G : zG) (rT : Nat) (set0 : Int) (X : zX) (K14 : Int → Int → zPH → Prop) (x2 x3 : Int) (σ : zPH) : Prop :=
  σ 0 3 = ((rT : Nat) : Int) ∧
  (zI x3 ∧ zI (σ (rT + 8) 1)) ∧
  ((σ (rT + 8) 1) < x3 →
    X (some (iZ (-1))) σ) ∧
  (x3 ≤ (σ (rT + 8) 1) →
    zLP3 (b_B_fewest_30 G rT set0 X K14) x2 x3 0 σ)
set_option maxHeartbeats 4000000 in
theorem kb_B_fewest_14 {G : zG} {rT : Nat} {set0 : Int} {X : zX} {K14 : Int → Int → zPH → Prop} (hrT : zisT rT) (hK14 : ∀ (y0 y1 : Int) (σ : zPH), K14 y0 y1 σ → PW G zm_B_fewest 7 X 14 [some (zr G 0), some (iZ set0), some (iZ y0), some (iZ y1), none] [] σ) {x2 x3 : Int} {σ : zPH} (h : b_B_fewest_14 G rT set0 X K14 x2 x3 σ) : PW G zm_B_fewest 7 X 14 [some (zr G 0), some (iZ set0), some (iZ x2), some (iZ x3), none] [] σ := by
  unfold b_B_fewest_14 at h
  refine PW_iload_n zd_B_fewest_14 rfl ?_
  refine PW_aload_n zd_B_fewest_15 rfl ?_
  obtain ⟨h0, h⟩ := h
  refine PW_getD zd_B_fewest_16 zf_B_23 (zs_0 _) rfl h0 ?_
  refine PW_getR zd_B_fewest_19 zf_B_97 (zsT_0 hrT) rfl ?_
  refine PW_iconst zd_B_fewest_22 ?_
  refine PW_iaload zd_B_fewest_23 (zsT_8 hrT) (by decide) ?_
  obtain ⟨h0, hT, hF⟩ := h
  refine PW_icmp_gt zd_B_fewest_24 h0 (fun q => ?_) (fun q => ?_)
  · have h := hT q
    refine PW_iconst zd_B_fewest_82 ?_
    exact PW_iret zd_B_fewest_83 rfl h
  · have h := hF q
    refine PW_iconst zd_B_fewest_27 ?_
    refine PW_istore zd_B_fewest_28 rfl (by decide) (ls2 := [_, _, _, _, _]) rfl ?_
    exact PW_sub (by exact ⟨rfl, rfl, rfl, rfl, rfl, trivial⟩) (kl_B_fewest_30 hrT hK14 h)
theorem kl_B_fewest_14 {G : zG} {rT : Nat} {set0 : Int} {X : zX} (hrT : zisT rT) {x2 x3 : Int} {σ : zPH} (h : zLP2 (b_B_fewest_14 G rT set0 X ) x2 x3 σ) : PW G zm_B_fewest 7 X 14 [some (zr G 0), some (iZ set0), some (iZ x2), some (iZ x3), none] [] σ := by
  obtain ⟨n, h⟩ := h
  induction n generalizing x2 x3 σ with
  | zero => exact h.elim
  | succ n ih => exact kb_B_fewest_14 hrT  (fun _ _ _ h => ih h) h
def w_B_fewest (G : zG) (rT : Nat) (set0 : Int) (X : zX) (σ : zPH) : Prop :=
  σ 0 3 = ((rT : Nat) : Int) ∧
  (0 ≤ (σ (rT + 8) 1) ∧ (σ (rT + 8) 1) < 32) ∧
  ∀ x2 : Int, x2 = ((1 : Int) * 2 ^ (σ (rT + 8) 1).toNat) →
  zLP2 (b_B_fewest_14 G rT set0 X ) x2 0 σ
set_option maxHeartbeats 4000000 in
theorem k_B_fewest {G : zG} {rT : Nat} {set0 : Int} {X : zX} (hrT : zisT rT) {σ : zPH} (h : w_B_fewest G rT set0 X σ) : MS G zm_B_fewest 7 [zr G 0, iZ set0] σ X := by
  refine ms_of zk_B_fewest (Nat.le_of_ble_eq_true rfl) (ls := [some (zr G 0), some (iZ set0), none, none, none]) rfl ?_
  unfold w_B_fewest at h
  refine PW_iconst zd_B_fewest_0 ?_
  refine PW_aload_n zd_B_fewest_1 rfl ?_
  obtain ⟨h0, h⟩ := h
  refine PW_getD zd_B_fewest_2 zf_B_23 (zs_0 _) rfl h0 ?_
  refine PW_getR zd_B_fewest_5 zf_B_97 (zsT_0 hrT) rfl ?_
  refine PW_iconst zd_B_fewest_8 ?_
  refine PW_iaload zd_B_fewest_9 (zsT_8 hrT) (by decide) ?_
  obtain ⟨h0, h⟩ := h
  refine PW_ishl zd_B_fewest_10 h0 ?_
  refine PW_istore_n zd_B_fewest_11 rfl (by decide) (ls2 := [_, _, _, _, _]) rfl ?_
  have h := h _ rfl
  refine PW_iconst zd_B_fewest_12 ?_
  refine PW_istore_n zd_B_fewest_13 rfl (by decide) (ls2 := [_, _, _, _, _]) rfl ?_
  exact PW_sub (by exact ⟨rfl, rfl, rfl, rfl, trivial⟩) (kl_B_fewest_14 hrT  h)
def b_B_needed_120 (G : zG) (rT : Nat) (column row : Int) (X : zX) (x5 x6 : Int) (σ : zPH) : Prop :=
  (zI x5 ∧ zI x6) ∧
  (x5 ≠ x6 →
    MS G zm_B_allOf 0 [zr G 0, iZ 3] σ (fun v σ133 =>
      ∃ z133 : Int, v = some (iZ z133) ∧
      X (some (iZ z133)) σ133)) ∧
  (x5 = x6 →
    X (some (iZ 0)) σ)
set_option maxHeartbeats 4000000 in
theorem kb_B_needed_120 {G : zG} {rT : Nat} {column row : Int} {X : zX} (hrT : zisT rT) {x5 x6 : Int} {σ : zPH} (h : b_B_needed_120 G rT column row X  x5 x6 σ) : PW G zm_B_needed 6 X 120 [some (zr G 0), none, none, none, none, some (iZ x5), some (iZ x6)] [] σ := by
  unfold b_B_needed_120 at h
  refine PW_iload zd_B_needed_120 rfl ?_
  refine PW_iload zd_B_needed_122 rfl ?_
  obtain ⟨h0, hT, hF⟩ := h
  refine PW_icmp_ne zd_B_needed_124 h0 (fun q => ?_) (fun q => ?_)
  · have h := hT q
    refine PW_aload_n zd_B_needed_131 rfl ?_
    refine PW_iconst zd_B_needed_132 ?_
    refine PW_callV1i zd_B_needed_133 zl_B_201 zk_B_allOf zv_B_allOf (fr' := 0) (by decide) (zs_0 _) rfl rfl (Nat.le_of_ble_eq_true rfl) ?_
    refine ms_mono h ?_
    rintro v σ1 ⟨z, rfl, h⟩
    refine ⟨z, rfl, ?_⟩
    exact PW_iret zd_B_needed_136 rfl h
  · have h := hF q
    refine PW_iconst zd_B_needed_127 ?_
    refine PW_goto zd_B_needed_128 ?_
    exact PW_iret zd_B_needed_136 rfl h
def w_B_needed (G : zG) (rT : Nat) (column row : Int) (X : zX) (σ : zPH) : Prop :=
  σ 0 3 = ((rT : Nat) : Int) ∧
  MS G zm_T_squareAt 0 [zr G rT, iZ column, iZ row] σ (fun v σ6 =>
    ∃ z6 : Int, v = some (iZ z6) ∧
    (zI z6) ∧
    (z6 = (-1) →
      X (some (iZ (-1))) σ6) ∧
    (z6 ≠ (-1) →
      σ6 0 3 = ((rT : Nat) : Int) ∧
      (0 ≤ z6 ∧ z6 < 144) ∧
      (zI (σ6 (rT + 2) z6.toNat)) ∧
      ((σ6 (rT + 2) z6.toNat) ≠ (-1) →
        σ6 0 3 = ((rT : Nat) : Int) ∧
        (0 ≤ z6 ∧ z6 < 144) ∧
        ∀ x4 : Int, x4 = (σ6 (rT + 2) z6.toNat) →
        σ6 0 3 = ((rT : Nat) : Int) ∧
        MS G zm_C_eyesInEnd 5 [zr G 14, zr G rT, iZ (σ6 0 7), iZ (σ6 0 8)] σ6 (fun v σ57 =>
          ∃ z57 : Int, v = some (iZ z57) ∧
          σ57 0 3 = ((rT : Nat) : Int) ∧
          MS G zm_T_put 0 [zr G rT, iZ (-1), iZ z6] σ57 (fun v σ68 =>
            v = none ∧
            σ68 0 3 = ((rT : Nat) : Int) ∧
            MS G zm_C_eyesInEnd 5 [zr G 14, zr G rT, iZ (σ68 0 7), iZ (σ68 0 8)] σ68 (fun v σ87 =>
              ∃ z87 : Int, v = some (iZ z87) ∧
              σ87 0 3 = ((rT : Nat) : Int) ∧
              MS G zm_T_put 0 [zr G rT, iZ x4, iZ z6] σ87 (fun v σ99 =>
                v = none ∧
                (zI z57) ∧
                (z57 = (-1) →
                  b_B_needed_120 G rT column row X  z57 z87 σ99) ∧
                (z57 ≠ (-1) →
                  (zI z87) ∧
                  (z87 = (-1) →
                    b_B_needed_120 G rT column row X  z57 z87 σ99) ∧
                  (z87 ≠ (-1) →
                    (0 ≤ z57 ∧ 0 ≤ z87) ∧
                    X (some (iZ (zxor z57 z87))) σ99))))))) ∧
      ((σ6 (rT + 2) z6.toNat) = (-1) →
        X (some (iZ (-1))) σ6)))
set_option maxHeartbeats 4000000 in
theorem k_B_needed {G : zG} {rT : Nat} {column row : Int} {X : zX} (hrT : zisT rT) {σ : zPH} (h : w_B_needed G rT column row X σ) : MS G zm_B_needed 6 [zr G 0, iZ column, iZ row] σ X := by
  refine ms_of zk_B_needed (Nat.le_of_ble_eq_true rfl) (ls := [some (zr G 0), some (iZ column), some (iZ row), none, none, none, none]) rfl ?_
  unfold w_B_needed at h
  refine PW_aload_n zd_B_needed_0 rfl ?_
  obtain ⟨h0, h⟩ := h
  refine PW_getD zd_B_needed_1 zf_B_23 (zs_0 _) rfl h0 ?_
  refine PW_iload_n zd_B_needed_4 rfl ?_
  refine PW_iload_n zd_B_needed_5 rfl ?_
  refine PW_callV2i zd_B_needed_6 zl_B_110 zk_T_squareAt zv_T_squareAt (fr' := 0) (by decide) (zsT_0 hrT) rfl rfl (Nat.le_of_ble_eq_true rfl) ?_
  refine ms_mono h ?_
  rintro v σ1 ⟨z, rfl, h⟩
  refine ⟨z, rfl, ?_⟩
  refine PW_istore_n zd_B_needed_9 rfl (by decide) (ls2 := [_, _, _, _, _, _, _]) rfl ?_
  refine PW_iload_n zd_B_needed_10 rfl ?_
  refine PW_iconst zd_B_needed_11 ?_
  obtain ⟨h0, hT, hF⟩ := h
  refine PW_icmp_eq zd_B_needed_12 ⟨h0, by decide⟩ (fun q => ?_) (fun q => ?_)
  · have h := hT q
    refine PW_iconst zd_B_needed_28 ?_
    exact PW_iret zd_B_needed_29 rfl h
  · have h := hF q
    refine PW_aload_n zd_B_needed_15 rfl ?_
    obtain ⟨h0, h⟩ := h
    refine PW_getD zd_B_needed_16 zf_B_23 (zs_0 _) rfl h0 ?_
    refine PW_getR zd_B_needed_19 zf_B_113 (zsT_0 hrT) rfl ?_
    refine PW_iload_n zd_B_needed_22 rfl ?_
    obtain ⟨h0, h⟩ := h
    refine PW_iaload zd_B_needed_23 (zsT_2 hrT) h0 ?_
    refine PW_iconst zd_B_needed_24 ?_
    obtain ⟨h0, hT, hF⟩ := h
    refine PW_icmp_ne zd_B_needed_25 ⟨h0, by decide⟩ (fun q => ?_) (fun q => ?_)
    · have h := hT q
      refine PW_aload_n zd_B_needed_30 rfl ?_
      obtain ⟨h0, h⟩ := h
      refine PW_getD zd_B_needed_31 zf_B_23 (zs_0 _) rfl h0 ?_
      refine PW_getR zd_B_needed_34 zf_B_113 (zsT_0 hrT) rfl ?_
      refine PW_iload_n zd_B_needed_37 rfl ?_
      obtain ⟨h0, h⟩ := h
      refine PW_iaload zd_B_needed_38 (zsT_2 hrT) h0 ?_
      refine PW_istore zd_B_needed_39 rfl (by decide) (ls2 := [_, _, _, _, _, _, _]) rfl ?_
      have h := h _ rfl
      refine PW_aload_n zd_B_needed_41 rfl ?_
      refine PW_getR zd_B_needed_42 zf_B_30 (zs_0 _) rfl ?_
      refine PW_aload_n zd_B_needed_45 rfl ?_
      obtain ⟨h0, h⟩ := h
      refine PW_getD zd_B_needed_46 zf_B_23 (zs_0 _) rfl h0 ?_
      refine PW_aload_n zd_B_needed_49 rfl ?_
      refine PW_getI zd_B_needed_50 zf_B_70 (zs_0 _) rfl ?_
      refine PW_aload_n zd_B_needed_53 rfl ?_
      refine PW_getI zd_B_needed_54 zf_B_73 (zs_0 _) rfl ?_
      refine PW_callV3i zd_B_needed_57 zl_B_195 zk_C_eyesInEnd zv_C_eyesInEnd (fr' := 5) (by decide) (zs_14 _) rfl rfl (Nat.le_of_ble_eq_true rfl) ?_
      refine ms_mono h ?_
      rintro v σ1 ⟨z, rfl, h⟩
      refine ⟨z, rfl, ?_⟩
      refine PW_istore zd_B_needed_60 rfl (by decide) (ls2 := [_, _, _, _, _, _, _]) rfl ?_
      refine PW_aload_n zd_B_needed_62 rfl ?_
      obtain ⟨h0, h⟩ := h
      refine PW_getD zd_B_needed_63 zf_B_23 (zs_0 _) rfl h0 ?_
      refine PW_iconst zd_B_needed_66 ?_
      refine PW_iload_n zd_B_needed_67 rfl ?_
      refine PW_callV2v zd_B_needed_68 zl_B_198 zk_T_put zv_T_put (fr' := 0) (by decide) (zsT_0 hrT) rfl rfl (Nat.le_of_ble_eq_true rfl) ?_
      refine ms_mono h ?_
      rintro v σ1 ⟨rfl, h⟩
      refine ⟨rfl, ?_⟩
      refine PW_aload_n zd_B_needed_71 rfl ?_
      refine PW_getR zd_B_needed_72 zf_B_30 (zs_0 _) rfl ?_
      refine PW_aload_n zd_B_needed_75 rfl ?_
      obtain ⟨h0, h⟩ := h
      refine PW_getD zd_B_needed_76 zf_B_23 (zs_0 _) rfl h0 ?_
      refine PW_aload_n zd_B_needed_79 rfl ?_
      refine PW_getI zd_B_needed_80 zf_B_70 (zs_0 _) rfl ?_
      refine PW_aload_n zd_B_needed_83 rfl ?_
      refine PW_getI zd_B_needed_84 zf_B_73 (zs_0 _) rfl ?_
      refine PW_callV3i zd_B_needed_87 zl_B_195 zk_C_eyesInEnd zv_C_eyesInEnd (fr' := 5) (by decide) (zs_14 _) rfl rfl (Nat.le_of_ble_eq_true rfl) ?_
      refine ms_mono h ?_
      rintro v σ1 ⟨z, rfl, h⟩
      refine ⟨z, rfl, ?_⟩
      refine PW_istore zd_B_needed_90 rfl (by decide) (ls2 := [_, _, _, _, _, _, _]) rfl ?_
      refine PW_aload_n zd_B_needed_92 rfl ?_
      obtain ⟨h0, h⟩ := h
      refine PW_getD zd_B_needed_93 zf_B_23 (zs_0 _) rfl h0 ?_
      refine PW_iload zd_B_needed_96 rfl ?_
      refine PW_iload_n zd_B_needed_98 rfl ?_
      refine PW_callV2v zd_B_needed_99 zl_B_198 zk_T_put zv_T_put (fr' := 0) (by decide) (zsT_0 hrT) rfl rfl (Nat.le_of_ble_eq_true rfl) ?_
      refine ms_mono h ?_
      rintro v σ1 ⟨rfl, h⟩
      refine ⟨rfl, ?_⟩
      refine PW_iload zd_B_needed_102 rfl ?_
      refine PW_iconst zd_B_needed_104 ?_
      obtain ⟨h0, hT, hF⟩ := h
      refine PW_icmp_eq zd_B_needed_105 ⟨h0, by decide⟩ (fun q => ?_) (fun q => ?_)
      · have h := hT q
        exact PW_sub (by exact ⟨rfl, rfl, rfl, trivial⟩) (kb_B_needed_120 hrT  h)
      · have h := hF q
        refine PW_iload zd_B_needed_108 rfl ?_
        refine PW_iconst zd_B_needed_110 ?_
        obtain ⟨h0, hT, hF⟩ := h
        refine PW_icmp_eq zd_B_needed_111 ⟨h0, by decide⟩ (fun q => ?_) (fun q => ?_)
        · have h := hT q
          exact PW_sub (by exact ⟨rfl, rfl, rfl, trivial⟩) (kb_B_needed_120 hrT  h)
        · have h := hF q
          refine PW_iload zd_B_needed_114 rfl ?_
          refine PW_iload zd_B_needed_116 rfl ?_
          obtain ⟨h0, h⟩ := h
          refine PW_ixor zd_B_needed_118 h0 ?_
          exact PW_iret zd_B_needed_119 rfl h
    · have h := hF q
      refine PW_iconst zd_B_needed_28 ?_
      exact PW_iret zd_B_needed_29 rfl h
def w_B_shadow (G : zG) (rT : Nat) (column row : Int) (X : zX) (σ : zPH) : Prop :=
  σ 0 3 = ((rT : Nat) : Int) ∧
  MS G zm_T_squareAt 0 [zr G rT, iZ column, iZ row] σ (fun v σ6 =>
    ∃ z6 : Int, v = some (iZ z6) ∧
    (zI z6) ∧
    (z6 = (-1) →
      X (some (iZ (-1))) σ6) ∧
    (z6 ≠ (-1) →
      σ6 0 3 = ((rT : Nat) : Int) ∧
      (0 ≤ z6 ∧ z6 < 144) ∧
      (zI (σ6 (rT + 2) z6.toNat)) ∧
      ((σ6 (rT + 2) z6.toNat) = (-1) →
        σ6 0 3 = ((rT : Nat) : Int) ∧
        MS G zm_C_eyesInEnd 5 [zr G 14, zr G rT, iZ (σ6 0 7), iZ (σ6 0 8)] σ6 (fun v σ48 =>
          ∃ z48 : Int, v = some (iZ z48) ∧
          MS G zm_B_shadowOn 6 [zr G 0, iZ z6, iZ z48] σ48 (fun v σ51 =>
            ∃ z51 : Int, v = some (iZ z51) ∧
            X (some (iZ z51)) σ51))) ∧
      ((σ6 (rT + 2) z6.toNat) ≠ (-1) →
        X (some (iZ (-1))) σ6)))
set_option maxHeartbeats 4000000 in
theorem k_B_shadow {G : zG} {rT : Nat} {column row : Int} {X : zX} (hrT : zisT rT) {σ : zPH} (h : w_B_shadow G rT column row X σ) : MS G zm_B_shadow 7 [zr G 0, iZ column, iZ row] σ X := by
  refine ms_of zk_B_shadow (Nat.le_of_ble_eq_true rfl) (ls := [some (zr G 0), some (iZ column), some (iZ row), none]) rfl ?_
  unfold w_B_shadow at h
  refine PW_aload_n zd_B_shadow_0 rfl ?_
  obtain ⟨h0, h⟩ := h
  refine PW_getD zd_B_shadow_1 zf_B_23 (zs_0 _) rfl h0 ?_
  refine PW_iload_n zd_B_shadow_4 rfl ?_
  refine PW_iload_n zd_B_shadow_5 rfl ?_
  refine PW_callV2i zd_B_shadow_6 zl_B_110 zk_T_squareAt zv_T_squareAt (fr' := 0) (by decide) (zsT_0 hrT) rfl rfl (Nat.le_of_ble_eq_true rfl) ?_
  refine ms_mono h ?_
  rintro v σ1 ⟨z, rfl, h⟩
  refine ⟨z, rfl, ?_⟩
  refine PW_istore_n zd_B_shadow_9 rfl (by decide) (ls2 := [_, _, _, _]) rfl ?_
  refine PW_iload_n zd_B_shadow_10 rfl ?_
  refine PW_iconst zd_B_shadow_11 ?_
  obtain ⟨h0, hT, hF⟩ := h
  refine PW_icmp_eq zd_B_shadow_12 ⟨h0, by decide⟩ (fun q => ?_) (fun q => ?_)
  · have h := hT q
    refine PW_iconst zd_B_shadow_28 ?_
    exact PW_iret zd_B_shadow_29 rfl h
  · have h := hF q
    refine PW_aload_n zd_B_shadow_15 rfl ?_
    obtain ⟨h0, h⟩ := h
    refine PW_getD zd_B_shadow_16 zf_B_23 (zs_0 _) rfl h0 ?_
    refine PW_getR zd_B_shadow_19 zf_B_113 (zsT_0 hrT) rfl ?_
    refine PW_iload_n zd_B_shadow_22 rfl ?_
    obtain ⟨h0, h⟩ := h
    refine PW_iaload zd_B_shadow_23 (zsT_2 hrT) h0 ?_
    refine PW_iconst zd_B_shadow_24 ?_
    obtain ⟨h0, hT, hF⟩ := h
    refine PW_icmp_eq zd_B_shadow_25 ⟨h0, by decide⟩ (fun q => ?_) (fun q => ?_)
    · have h := hT q
      refine PW_aload_n zd_B_shadow_30 rfl ?_
      refine PW_iload_n zd_B_shadow_31 rfl ?_
      refine PW_aload_n zd_B_shadow_32 rfl ?_
      refine PW_getR zd_B_shadow_33 zf_B_30 (zs_0 _) rfl ?_
      refine PW_aload_n zd_B_shadow_36 rfl ?_
      obtain ⟨h0, h⟩ := h
      refine PW_getD zd_B_shadow_37 zf_B_23 (zs_0 _) rfl h0 ?_
      refine PW_aload_n zd_B_shadow_40 rfl ?_
      refine PW_getI zd_B_shadow_41 zf_B_70 (zs_0 _) rfl ?_
      refine PW_aload_n zd_B_shadow_44 rfl ?_
      refine PW_getI zd_B_shadow_45 zf_B_73 (zs_0 _) rfl ?_
      refine PW_callV3i zd_B_shadow_48 zl_B_195 zk_C_eyesInEnd zv_C_eyesInEnd (fr' := 5) (by decide) (zs_14 _) rfl rfl (Nat.le_of_ble_eq_true rfl) ?_
      refine ms_mono h ?_
      rintro v σ1 ⟨z, rfl, h⟩
      refine ⟨z, rfl, ?_⟩
      refine PW_callV2i zd_B_shadow_51 zl_B_204 zk_B_shadowOn zv_B_shadowOn (fr' := 6) (by decide) (zs_0 _) rfl rfl (Nat.le_of_ble_eq_true rfl) ?_
      refine ms_mono h ?_
      rintro v σ1 ⟨z, rfl, h⟩
      refine ⟨z, rfl, ?_⟩
      exact PW_iret zd_B_shadow_54 rfl h
    · have h := hF q
      refine PW_iconst zd_B_shadow_28 ?_
      exact PW_iret zd_B_shadow_29 rfl h
def w_B_shadowOn (G : zG) (rT : Nat) (place eyesWithout : Int) (X : zX) (σ : zPH) : Prop :=
  σ 0 3 = ((rT : Nat) : Int) ∧
  MS G zm_T_putTried 1 [zr G rT, iZ 6, iZ (-1), iZ place] σ (fun v σ8 =>
    v = none ∧
    σ8 0 3 = ((rT : Nat) : Int) ∧
    MS G zm_C_eyesInEnd 5 [zr G 14, zr G rT, iZ (σ8 0 7), iZ (σ8 0 8)] σ8 (fun v σ27 =>
      ∃ z27 : Int, v = some (iZ z27) ∧
      σ27 0 3 = ((rT : Nat) : Int) ∧
      MS G zm_T_put 0 [zr G rT, iZ (-1), iZ place] σ27 (fun v σ37 =>
        v = none ∧
        (zI z27) ∧
        (z27 = (-1) →
          X (some (iZ 0)) σ37) ∧
        (z27 ≠ (-1) →
          (zI eyesWithout) ∧
          (eyesWithout ≠ (-1) →
            (0 ≤ eyesWithout ∧ 0 ≤ z27) ∧
            MS G zm_JI_bitCount 0 [iZ (zdif eyesWithout z27)] σ37 (fun v σ59 =>
              ∃ z59 : Int, v = some (iZ z59) ∧
              X (some (iZ z59)) σ59)) ∧
          (eyesWithout = (-1) →
            X (some (iZ 0)) σ37)))))
set_option maxHeartbeats 4000000 in
theorem k_B_shadowOn {G : zG} {rT : Nat} {place eyesWithout : Int} {X : zX} (hrT : zisT rT) {σ : zPH} (h : w_B_shadowOn G rT place eyesWithout X σ) : MS G zm_B_shadowOn 6 [zr G 0, iZ place, iZ eyesWithout] σ X := by
  refine ms_of zk_B_shadowOn (Nat.le_of_ble_eq_true rfl) (ls := [some (zr G 0), some (iZ place), some (iZ eyesWithout), none]) rfl ?_
  unfold w_B_shadowOn at h
  refine PW_aload_n zd_B_shadowOn_0 rfl ?_
  obtain ⟨h0, h⟩ := h
  refine PW_getD zd_B_shadowOn_1 zf_B_23 (zs_0 _) rfl h0 ?_
  refine PW_bipush zd_B_shadowOn_4 rfl ?_
  refine PW_iconst zd_B_shadowOn_6 ?_
  refine PW_iload_n zd_B_shadowOn_7 rfl ?_
  refine PW_callV3v zd_B_shadowOn_8 zl_B_207 zk_T_putTried zv_T_putTried (fr' := 1) (by decide) (zsT_0 hrT) rfl rfl (Nat.le_of_ble_eq_true rfl) ?_
  refine ms_mono h ?_
  rintro v σ1 ⟨rfl, h⟩
  refine ⟨rfl, ?_⟩
  refine PW_aload_n zd_B_shadowOn_11 rfl ?_
  refine PW_getR zd_B_shadowOn_12 zf_B_30 (zs_0 _) rfl ?_
  refine PW_aload_n zd_B_shadowOn_15 rfl ?_
  obtain ⟨h0, h⟩ := h
  refine PW_getD zd_B_shadowOn_16 zf_B_23 (zs_0 _) rfl h0 ?_
  refine PW_aload_n zd_B_shadowOn_19 rfl ?_
  refine PW_getI zd_B_shadowOn_20 zf_B_70 (zs_0 _) rfl ?_
  refine PW_aload_n zd_B_shadowOn_23 rfl ?_
  refine PW_getI zd_B_shadowOn_24 zf_B_73 (zs_0 _) rfl ?_
  refine PW_callV3i zd_B_shadowOn_27 zl_B_195 zk_C_eyesInEnd zv_C_eyesInEnd (fr' := 5) (by decide) (zs_14 _) rfl rfl (Nat.le_of_ble_eq_true rfl) ?_
  refine ms_mono h ?_
  rintro v σ1 ⟨z, rfl, h⟩
  refine ⟨z, rfl, ?_⟩
  refine PW_istore_n zd_B_shadowOn_30 rfl (by decide) (ls2 := [_, _, _, _]) rfl ?_
  refine PW_aload_n zd_B_shadowOn_31 rfl ?_
  obtain ⟨h0, h⟩ := h
  refine PW_getD zd_B_shadowOn_32 zf_B_23 (zs_0 _) rfl h0 ?_
  refine PW_iconst zd_B_shadowOn_35 ?_
  refine PW_iload_n zd_B_shadowOn_36 rfl ?_
  refine PW_callV2v zd_B_shadowOn_37 zl_B_198 zk_T_put zv_T_put (fr' := 0) (by decide) (zsT_0 hrT) rfl rfl (Nat.le_of_ble_eq_true rfl) ?_
  refine ms_mono h ?_
  rintro v σ1 ⟨rfl, h⟩
  refine ⟨rfl, ?_⟩
  refine PW_iload_n zd_B_shadowOn_40 rfl ?_
  refine PW_iconst zd_B_shadowOn_41 ?_
  obtain ⟨h0, hT, hF⟩ := h
  refine PW_icmp_eq zd_B_shadowOn_42 ⟨h0, by decide⟩ (fun q => ?_) (fun q => ?_)
  · have h := hT q
    refine PW_iconst zd_B_shadowOn_50 ?_
    refine PW_goto zd_B_shadowOn_51 ?_
    exact PW_iret zd_B_shadowOn_62 rfl h
  · have h := hF q
    refine PW_iload_n zd_B_shadowOn_45 rfl ?_
    refine PW_iconst zd_B_shadowOn_46 ?_
    obtain ⟨h0, hT, hF⟩ := h
    refine PW_icmp_ne zd_B_shadowOn_47 ⟨h0, by decide⟩ (fun q => ?_) (fun q => ?_)
    · have h := hT q
      refine PW_iload_n zd_B_shadowOn_54 rfl ?_
      refine PW_iload_n zd_B_shadowOn_55 rfl ?_
      refine PW_iconst zd_B_shadowOn_56 ?_
      refine PW_ixorM zd_B_shadowOn_57 ?_
      obtain ⟨h0, h⟩ := h
      refine PW_iandn zd_B_shadowOn_58 h0 ?_
      refine PW_callS1i zd_B_shadowOn_59 zl_B_130 zk_JI_bitCount zv_JI_bitCount (fr' := 0) (by decide) (Nat.le_of_ble_eq_true rfl) ?_
      refine ms_mono h ?_
      rintro v σ1 ⟨z, rfl, h⟩
      refine ⟨z, rfl, ?_⟩
      exact PW_iret zd_B_shadowOn_62 rfl h
    · have h := hF q
      refine PW_iconst zd_B_shadowOn_50 ?_
      refine PW_goto zd_B_shadowOn_51 ?_
      exact PW_iret zd_B_shadowOn_62 rfl h
def b_B_darkest_125 (G : zG) (rT : Nat) (what : Int) (X : zX) (K62 : Int → Int → Int → Int → zPH → Prop) (x2 x3 x4 x5 : Int) (σ : zPH) : Prop :=
  K62 x2 x3 x4 (x5 + 1) σ
set_option maxHeartbeats 4000000 in
theorem kb_B_darkest_125 {G : zG} {rT : Nat} {what : Int} {X : zX} {K62 : Int → Int → Int → Int → zPH → Prop} (hrT : zisT rT) (hK62 : ∀ (y0 y1 y2 y3 : Int) (σ : zPH), K62 y0 y1 y2 y3 σ → PW G zm_B_darkest 7 X 62 [some (zr G 0), some (iZ what), some (iZ y0), some (iZ y1), some (iZ y2), some (iZ y3), none] [] σ) {x2 x3 x4 x5 : Int} {σ : zPH} (h : b_B_darkest_125 G rT what X K62 x2 x3 x4 x5 σ) : PW G zm_B_darkest 7 X 125 [some (zr G 0), some (iZ what), some (iZ x2), some (iZ x3), some (iZ x4), some (iZ x5), none] [] σ := by
  unfold b_B_darkest_125 at h
  refine PW_iinc zd_B_darkest_125 rfl rfl (by decide) (ls2 := [_, _, _, _, _, _, _]) rfl ?_
  refine PW_goto zd_B_darkest_128 ?_
  exact PW_sub (by exact ⟨rfl, rfl, rfl, rfl, rfl, rfl, trivial⟩) (hK62 _ _ _ _ _ h)
def b_B_darkest_109 (G : zG) (rT : Nat) (what : Int) (X : zX) (K62 : Int → Int → Int → Int → zPH → Prop) (x2 x3 x4 x5 s0 : Int) (σ : zPH) : Prop :=
  (zI s0 ∧ zI x4) ∧
  (s0 ≤ x4 →
    b_B_darkest_125 G rT what X K62 x2 x3 x4 x5 σ) ∧
  (x4 < s0 →
    b_B_darkest_125 G rT what X K62 x2 x5 s0 x5 σ)
set_option maxHeartbeats 4000000 in
theorem kb_B_darkest_109 {G : zG} {rT : Nat} {what : Int} {X : zX} {K62 : Int → Int → Int → Int → zPH → Prop} (hrT : zisT rT) (hK62 : ∀ (y0 y1 y2 y3 : Int) (σ : zPH), K62 y0 y1 y2 y3 σ → PW G zm_B_darkest 7 X 62 [some (zr G 0), some (iZ what), some (iZ y0), some (iZ y1), some (iZ y2), some (iZ y3), none] [] σ) {x2 x3 x4 x5 s0 : Int} {σ : zPH} (h : b_B_darkest_109 G rT what X K62 x2 x3 x4 x5 s0 σ) : PW G zm_B_darkest 7 X 109 [some (zr G 0), some (iZ what), some (iZ x2), some (iZ x3), some (iZ x4), some (iZ x5), none] [iZ s0] σ := by
  unfold b_B_darkest_109 at h
  refine PW_istore zd_B_darkest_109 rfl (by decide) (ls2 := [_, _, _, _, _, _, _]) rfl ?_
  refine PW_iload zd_B_darkest_111 rfl ?_
  refine PW_iload zd_B_darkest_113 rfl ?_
  obtain ⟨h0, hT, hF⟩ := h
  refine PW_icmp_le zd_B_darkest_115 h0 (fun q => ?_) (fun q => ?_)
  · have h := hT q
    exact PW_sub (by exact ⟨rfl, rfl, rfl, rfl, rfl, rfl, trivial⟩) (kb_B_darkest_125 hrT hK62 h)
  · have h := hF q
    refine PW_iload zd_B_darkest_118 rfl ?_
    refine PW_istore zd_B_darkest_120 rfl (by decide) (ls2 := [_, _, _, _, _, _, _]) rfl ?_
    refine PW_iload zd_B_darkest_122 rfl ?_
    refine PW_istore_n zd_B_darkest_124 rfl (by decide) (ls2 := [_, _, _, _, _, _, _]) rfl ?_
    exact PW_sub (by exact ⟨rfl, rfl, rfl, rfl, rfl, rfl, trivial⟩) (kb_B_darkest_125 hrT hK62 h)
def b_B_darkest_62 (G : zG) (rT : Nat) (what : Int) (X : zX) (K62 : Int → Int → Int → Int → zPH → Prop) (x2 x3 x4 x5 : Int) (σ : zPH) : Prop :=
  σ 0 3 = ((rT : Nat) : Int) ∧
  MS G zm_T_squareCount 0 [zr G rT] σ (fun v σ68 =>
    ∃ z68 : Int, v = some (iZ z68) ∧
    (zI x5 ∧ zI z68) ∧
    (z68 ≤ x5 →
      (zI what) ∧
      (what ≠ 2 →
        (zI what) ∧
        (what ≠ 0 →
          σ68 0 3 = ((rT : Nat) : Int) ∧
          MS G zm_T_rowOf 0 [zr G rT, iZ x3] σ68 (fun v σ159 =>
            ∃ z159 : Int, v = some (iZ z159) ∧
            X (some (iZ z159)) σ159)) ∧
        (what = 0 →
          σ68 0 3 = ((rT : Nat) : Int) ∧
          MS G zm_T_columnOf 0 [zr G rT, iZ x3] σ68 (fun v σ148 =>
            ∃ z148 : Int, v = some (iZ z148) ∧
            X (some (iZ z148)) σ148))) ∧
      (what = 2 →
        X (some (iZ x4)) σ68)) ∧
    (x5 < z68 →
      σ68 0 3 = ((rT : Nat) : Int) ∧
      (0 ≤ x5 ∧ x5 < 144) ∧
      (zI (σ68 (rT + 2) x5.toNat)) ∧
      ((σ68 (rT + 2) x5.toNat) ≠ (-1) →
        b_B_darkest_125 G rT what X K62 x2 x3 x4 x5 σ68) ∧
      ((σ68 (rT + 2) x5.toNat) = (-1) →
        (0 ≤ x5 ∧ x5 < 144) ∧
        (zI (σ68 2 x5.toNat)) ∧
        ((σ68 2 x5.toNat) ≠ 0 →
          MS G zm_B_shadowOn 6 [zr G 0, iZ x5, iZ x2] σ68 (fun v σ106 =>
            ∃ z106 : Int, v = some (iZ z106) ∧
            b_B_darkest_109 G rT what X K62 x2 x3 x4 x5 z106 σ106)) ∧
        ((σ68 2 x5.toNat) = 0 →
          b_B_darkest_109 G rT what X K62 x2 x3 x4 x5 0 σ68))))
set_option maxHeartbeats 4000000 in
theorem kb_B_darkest_62 {G : zG} {rT : Nat} {what : Int} {X : zX} {K62 : Int → Int → Int → Int → zPH → Prop} (hrT : zisT rT) (hK62 : ∀ (y0 y1 y2 y3 : Int) (σ : zPH), K62 y0 y1 y2 y3 σ → PW G zm_B_darkest 7 X 62 [some (zr G 0), some (iZ what), some (iZ y0), some (iZ y1), some (iZ y2), some (iZ y3), none] [] σ) {x2 x3 x4 x5 : Int} {σ : zPH} (h : b_B_darkest_62 G rT what X K62 x2 x3 x4 x5 σ) : PW G zm_B_darkest 7 X 62 [some (zr G 0), some (iZ what), some (iZ x2), some (iZ x3), some (iZ x4), some (iZ x5), none] [] σ := by
  unfold b_B_darkest_62 at h
  refine PW_iload zd_B_darkest_62 rfl ?_
  refine PW_aload_n zd_B_darkest_64 rfl ?_
  obtain ⟨h0, h⟩ := h
  refine PW_getD zd_B_darkest_65 zf_B_23 (zs_0 _) rfl h0 ?_
  refine PW_callV0i zd_B_darkest_68 zl_B_153 zk_T_squareCount zv_T_squareCount (fr' := 0) (by decide) (zsT_0 hrT) rfl rfl (Nat.le_of_ble_eq_true rfl) ?_
  refine ms_mono h ?_
  rintro v σ1 ⟨z, rfl, h⟩
  refine ⟨z, rfl, ?_⟩
  obtain ⟨h0, hT, hF⟩ := h
  refine PW_icmp_ge zd_B_darkest_71 h0 (fun q => ?_) (fun q => ?_)
  · have h := hT q
    refine PW_iload_n zd_B_darkest_131 rfl ?_
    refine PW_iconst zd_B_darkest_132 ?_
    obtain ⟨h0, hT, hF⟩ := h
    refine PW_icmp_ne zd_B_darkest_133 ⟨h0, by decide⟩ (fun q => ?_) (fun q => ?_)
    · have h := hT q
      refine PW_iload_n zd_B_darkest_139 rfl ?_
      obtain ⟨h0, hT, hF⟩ := h
      refine PW_if_ne zd_B_darkest_140 h0 (fun q => ?_) (fun q => ?_)
      · have h := hT q
        refine PW_aload_n zd_B_darkest_154 rfl ?_
        obtain ⟨h0, h⟩ := h
        refine PW_getD zd_B_darkest_155 zf_B_23 (zs_0 _) rfl h0 ?_
        refine PW_iload_n zd_B_darkest_158 rfl ?_
        refine PW_callV1i zd_B_darkest_159 zl_B_218 zk_T_rowOf zv_T_rowOf (fr' := 0) (by decide) (zsT_0 hrT) rfl rfl (Nat.le_of_ble_eq_true rfl) ?_
        refine ms_mono h ?_
        rintro v σ1 ⟨z, rfl, h⟩
        refine ⟨z, rfl, ?_⟩
        exact PW_iret zd_B_darkest_162 rfl h
      · have h := hF q
        refine PW_aload_n zd_B_darkest_143 rfl ?_
        obtain ⟨h0, h⟩ := h
        refine PW_getD zd_B_darkest_144 zf_B_23 (zs_0 _) rfl h0 ?_
        refine PW_iload_n zd_B_darkest_147 rfl ?_
        refine PW_callV1i zd_B_darkest_148 zl_B_215 zk_T_columnOf zv_T_columnOf (fr' := 0) (by decide) (zsT_0 hrT) rfl rfl (Nat.le_of_ble_eq_true rfl) ?_
        refine ms_mono h ?_
        rintro v σ1 ⟨z, rfl, h⟩
        refine ⟨z, rfl, ?_⟩
        refine PW_goto zd_B_darkest_151 ?_
        exact PW_iret zd_B_darkest_162 rfl h
    · have h := hF q
      refine PW_iload zd_B_darkest_136 rfl ?_
      exact PW_iret zd_B_darkest_138 rfl h
  · have h := hF q
    refine PW_aload_n zd_B_darkest_74 rfl ?_
    obtain ⟨h0, h⟩ := h
    refine PW_getD zd_B_darkest_75 zf_B_23 (zs_0 _) rfl h0 ?_
    refine PW_getR zd_B_darkest_78 zf_B_113 (zsT_0 hrT) rfl ?_
    refine PW_iload zd_B_darkest_81 rfl ?_
    obtain ⟨h0, h⟩ := h
    refine PW_iaload zd_B_darkest_83 (zsT_2 hrT) h0 ?_
    refine PW_iconst zd_B_darkest_84 ?_
    obtain ⟨h0, hT, hF⟩ := h
    refine PW_icmp_ne zd_B_darkest_85 ⟨h0, by decide⟩ (fun q => ?_) (fun q => ?_)
    · have h := hT q
      exact PW_sub (by exact ⟨rfl, rfl, rfl, rfl, rfl, rfl, trivial⟩) (kb_B_darkest_125 hrT hK62 h)
    · have h := hF q
      refine PW_aload_n zd_B_darkest_88 rfl ?_
      refine PW_getR zd_B_darkest_89 zf_B_41 (zs_0 _) rfl ?_
      refine PW_iload zd_B_darkest_92 rfl ?_
      obtain ⟨h0, h⟩ := h
      refine PW_iaload zd_B_darkest_94 (zs_2 _) h0 ?_
      obtain ⟨h0, hT, hF⟩ := h
      refine PW_if_ne zd_B_darkest_95 h0 (fun q => ?_) (fun q => ?_)
      · have h := hT q
        refine PW_aload_n zd_B_darkest_102 rfl ?_
        refine PW_iload zd_B_darkest_103 rfl ?_
        refine PW_iload_n zd_B_darkest_105 rfl ?_
        refine PW_callV2i zd_B_darkest_106 zl_B_204 zk_B_shadowOn zv_B_shadowOn (fr' := 6) (by decide) (zs_0 _) rfl rfl (Nat.le_of_ble_eq_true rfl) ?_
        refine ms_mono h ?_
        rintro v σ1 ⟨z, rfl, h⟩
        refine ⟨z, rfl, ?_⟩
        exact PW_sub (by exact ⟨rfl, rfl, rfl, rfl, rfl, rfl, trivial⟩) (kb_B_darkest_109 hrT hK62 h)
      · have h := hF q
        refine PW_iconst zd_B_darkest_98 ?_
        refine PW_goto zd_B_darkest_99 ?_
        exact PW_sub (by exact ⟨rfl, rfl, rfl, rfl, rfl, rfl, trivial⟩) (kb_B_darkest_109 hrT hK62 h)
theorem kl_B_darkest_62 {G : zG} {rT : Nat} {what : Int} {X : zX} (hrT : zisT rT) {x2 x3 x4 x5 : Int} {σ : zPH} (h : zLP4 (b_B_darkest_62 G rT what X ) x2 x3 x4 x5 σ) : PW G zm_B_darkest 7 X 62 [some (zr G 0), some (iZ what), some (iZ x2), some (iZ x3), some (iZ x4), some (iZ x5), none] [] σ := by
  obtain ⟨n, h⟩ := h
  induction n generalizing x2 x3 x4 x5 σ with
  | zero => exact h.elim
  | succ n ih => exact kb_B_darkest_62 hrT  (fun _ _ _ _ _ h => ih h) h
def w_B_darkest (G : zG) (rT : Nat) (what : Int) (X : zX) (σ : zPH) : Prop :=
  (zI what) ∧
  (what < 0 →
    X (some (iZ (-1))) σ) ∧
  (0 ≤ what →
    (zI what) ∧
    (what ≤ 2 →
      σ 0 3 = ((rT : Nat) : Int) ∧
      MS G zm_C_eyesInEnd 5 [zr G 14, zr G rT, iZ (σ 0 7), iZ (σ 0 8)] σ (fun v σ27 =>
        ∃ z27 : Int, v = some (iZ z27) ∧
        σ27 0 3 = ((rT : Nat) : Int) ∧
        MS G zm_C_mark 5 [zr G 14, zr G rT, iZ (σ27 0 7), iZ (σ27 0 8), zr G 2] σ27 (fun v σ51 =>
          v = none ∧
          zLP4 (b_B_darkest_62 G rT what X ) z27 (-1) (-1) 0 σ51))) ∧
    (2 < what →
      X (some (iZ (-1))) σ))
set_option maxHeartbeats 4000000 in
theorem k_B_darkest {G : zG} {rT : Nat} {what : Int} {X : zX} (hrT : zisT rT) {σ : zPH} (h : w_B_darkest G rT what X σ) : MS G zm_B_darkest 7 [zr G 0, iZ what] σ X := by
  refine ms_of zk_B_darkest (Nat.le_of_ble_eq_true rfl) (ls := [some (zr G 0), some (iZ what), none, none, none, none, none]) rfl ?_
  unfold w_B_darkest at h
  refine PW_iload_n zd_B_darkest_0 rfl ?_
  obtain ⟨h0, hT, hF⟩ := h
  refine PW_if_lt zd_B_darkest_1 h0 (fun q => ?_) (fun q => ?_)
  · have h := hT q
    refine PW_iconst zd_B_darkest_9 ?_
    exact PW_iret zd_B_darkest_10 rfl h
  · have h := hF q
    refine PW_iload_n zd_B_darkest_4 rfl ?_
    refine PW_iconst zd_B_darkest_5 ?_
    obtain ⟨h0, hT, hF⟩ := h
    refine PW_icmp_le zd_B_darkest_6 ⟨h0, by decide⟩ (fun q => ?_) (fun q => ?_)
    · have h := hT q
      refine PW_aload_n zd_B_darkest_11 rfl ?_
      refine PW_getR zd_B_darkest_12 zf_B_30 (zs_0 _) rfl ?_
      refine PW_aload_n zd_B_darkest_15 rfl ?_
      obtain ⟨h0, h⟩ := h
      refine PW_getD zd_B_darkest_16 zf_B_23 (zs_0 _) rfl h0 ?_
      refine PW_aload_n zd_B_darkest_19 rfl ?_
      refine PW_getI zd_B_darkest_20 zf_B_70 (zs_0 _) rfl ?_
      refine PW_aload_n zd_B_darkest_23 rfl ?_
      refine PW_getI zd_B_darkest_24 zf_B_73 (zs_0 _) rfl ?_
      refine PW_callV3i zd_B_darkest_27 zl_B_195 zk_C_eyesInEnd zv_C_eyesInEnd (fr' := 5) (by decide) (zs_14 _) rfl rfl (Nat.le_of_ble_eq_true rfl) ?_
      refine ms_mono h ?_
      rintro v σ1 ⟨z, rfl, h⟩
      refine ⟨z, rfl, ?_⟩
      refine PW_istore_n zd_B_darkest_30 rfl (by decide) (ls2 := [_, _, _, _, _, _, _]) rfl ?_
      refine PW_aload_n zd_B_darkest_31 rfl ?_
      refine PW_getR zd_B_darkest_32 zf_B_30 (zs_0 _) rfl ?_
      refine PW_aload_n zd_B_darkest_35 rfl ?_
      obtain ⟨h0, h⟩ := h
      refine PW_getD zd_B_darkest_36 zf_B_23 (zs_0 _) rfl h0 ?_
      refine PW_aload_n zd_B_darkest_39 rfl ?_
      refine PW_getI zd_B_darkest_40 zf_B_70 (zs_0 _) rfl ?_
      refine PW_aload_n zd_B_darkest_43 rfl ?_
      refine PW_getI zd_B_darkest_44 zf_B_73 (zs_0 _) rfl ?_
      refine PW_aload_n zd_B_darkest_47 rfl ?_
      refine PW_getR zd_B_darkest_48 zf_B_41 (zs_0 _) rfl ?_
      refine PW_callV4v zd_B_darkest_51 zl_B_211 zk_C_mark zv_C_mark (fr' := 5) (by decide) (zs_14 _) rfl rfl (Nat.le_of_ble_eq_true rfl) ?_
      refine ms_mono h ?_
      rintro v σ1 ⟨rfl, h⟩
      refine ⟨rfl, ?_⟩
      refine PW_iconst zd_B_darkest_54 ?_
      refine PW_istore_n zd_B_darkest_55 rfl (by decide) (ls2 := [_, _, _, _, _, _, _]) rfl ?_
      refine PW_iconst zd_B_darkest_56 ?_
      refine PW_istore zd_B_darkest_57 rfl (by decide) (ls2 := [_, _, _, _, _, _, _]) rfl ?_
      refine PW_iconst zd_B_darkest_59 ?_
      refine PW_istore zd_B_darkest_60 rfl (by decide) (ls2 := [_, _, _, _, _, _, _]) rfl ?_
      exact PW_sub (by exact ⟨rfl, rfl, rfl, rfl, rfl, rfl, trivial⟩) (kl_B_darkest_62 hrT  h)
    · have h := hF q
      refine PW_iconst zd_B_darkest_9 ?_
      exact PW_iret zd_B_darkest_10 rfl h
def b_B_more_138 (G : zG) (rT : Nat) (what : Int) (X : zX) (K45 : Int → Int → zPH → Prop) (x2 x3 : Int) (σ : zPH) : Prop :=
  K45 x2 (x3 + 1) σ
set_option maxHeartbeats 4000000 in
theorem kb_B_more_138 {G : zG} {rT : Nat} {what : Int} {X : zX} {K45 : Int → Int → zPH → Prop} (hrT : zisT rT) (hK45 : ∀ (y0 y1 : Int) (σ : zPH), K45 y0 y1 σ → PW G zm_B_more 7 X 45 [some (zr G 0), some (iZ what), some (iZ y0), some (iZ y1), none] [] σ) {x2 x3 : Int} {σ : zPH} (h : b_B_more_138 G rT what X K45 x2 x3 σ) : PW G zm_B_more 7 X 138 [some (zr G 0), some (iZ what), some (iZ x2), some (iZ x3), none] [] σ := by
  unfold b_B_more_138 at h
  refine PW_iinc zd_B_more_138 rfl rfl (by decide) (ls2 := [_, _, _, _, _]) rfl ?_
  refine PW_goto zd_B_more_141 ?_
  exact PW_sub (by exact ⟨rfl, rfl, rfl, rfl, trivial⟩) (hK45 _ _ _ h)
def b_B_more_98 (G : zG) (rT : Nat) (what : Int) (X : zX) (K45 : Int → Int → zPH → Prop) (x2 x3 x4 : Int) (σ : zPH) : Prop :=
  (zI x4) ∧
  (x4 = (-1) →
    b_B_more_138 G rT what X K45 x2 x3 σ) ∧
  (x4 ≠ (-1) →
    (zI what) ∧
    (what ≠ 2 →
      (zI what) ∧
      (what ≠ 0 →
        σ 0 3 = ((rT : Nat) : Int) ∧
        MS G zm_T_rowOf 0 [zr G rT, iZ x3] σ (fun v σ134 =>
          ∃ z134 : Int, v = some (iZ z134) ∧
          X (some (iZ z134)) σ134)) ∧
      (what = 0 →
        σ 0 3 = ((rT : Nat) : Int) ∧
        MS G zm_T_columnOf 0 [zr G rT, iZ x3] σ (fun v σ123 =>
          ∃ z123 : Int, v = some (iZ z123) ∧
          X (some (iZ z123)) σ123))) ∧
    (what = 2 →
      X (some (iZ x4)) σ))
set_option maxHeartbeats 4000000 in
theorem kb_B_more_98 {G : zG} {rT : Nat} {what : Int} {X : zX} {K45 : Int → Int → zPH → Prop} (hrT : zisT rT) (hK45 : ∀ (y0 y1 : Int) (σ : zPH), K45 y0 y1 σ → PW G zm_B_more 7 X 45 [some (zr G 0), some (iZ what), some (iZ y0), some (iZ y1), none] [] σ) {x2 x3 x4 : Int} {σ : zPH} (h : b_B_more_98 G rT what X K45 x2 x3 x4 σ) : PW G zm_B_more 7 X 98 [some (zr G 0), some (iZ what), some (iZ x2), some (iZ x3), some (iZ x4)] [] σ := by
  unfold b_B_more_98 at h
  refine PW_iload zd_B_more_98 rfl ?_
  refine PW_iconst zd_B_more_100 ?_
  obtain ⟨h0, hT, hF⟩ := h
  refine PW_icmp_eq zd_B_more_101 ⟨h0, by decide⟩ (fun q => ?_) (fun q => ?_)
  · have h := hT q
    exact PW_sub (by exact ⟨rfl, rfl, rfl, rfl, trivial⟩) (kb_B_more_138 hrT hK45 h)
  · have h := hF q
    refine PW_iload_n zd_B_more_104 rfl ?_
    refine PW_iconst zd_B_more_105 ?_
    obtain ⟨h0, hT, hF⟩ := h
    refine PW_icmp_ne zd_B_more_106 ⟨h0, by decide⟩ (fun q => ?_) (fun q => ?_)
    · have h := hT q
      refine PW_iload_n zd_B_more_114 rfl ?_
      obtain ⟨h0, hT, hF⟩ := h
      refine PW_if_ne zd_B_more_115 h0 (fun q => ?_) (fun q => ?_)
      · have h := hT q
        refine PW_aload_n zd_B_more_129 rfl ?_
        obtain ⟨h0, h⟩ := h
        refine PW_getD zd_B_more_130 zf_B_23 (zs_0 _) rfl h0 ?_
        refine PW_iload_n zd_B_more_133 rfl ?_
        refine PW_callV1i zd_B_more_134 zl_B_218 zk_T_rowOf zv_T_rowOf (fr' := 0) (by decide) (zsT_0 hrT) rfl rfl (Nat.le_of_ble_eq_true rfl) ?_
        refine ms_mono h ?_
        rintro v σ1 ⟨z, rfl, h⟩
        refine ⟨z, rfl, ?_⟩
        exact PW_iret zd_B_more_137 rfl h
      · have h := hF q
        refine PW_aload_n zd_B_more_118 rfl ?_
        obtain ⟨h0, h⟩ := h
        refine PW_getD zd_B_more_119 zf_B_23 (zs_0 _) rfl h0 ?_
        refine PW_iload_n zd_B_more_122 rfl ?_
        refine PW_callV1i zd_B_more_123 zl_B_215 zk_T_columnOf zv_T_columnOf (fr' := 0) (by decide) (zsT_0 hrT) rfl rfl (Nat.le_of_ble_eq_true rfl) ?_
        refine ms_mono h ?_
        rintro v σ1 ⟨z, rfl, h⟩
        refine ⟨z, rfl, ?_⟩
        refine PW_goto zd_B_more_126 ?_
        exact PW_iret zd_B_more_137 rfl h
    · have h := hF q
      refine PW_iload zd_B_more_109 rfl ?_
      refine PW_goto zd_B_more_111 ?_
      exact PW_iret zd_B_more_137 rfl h
def b_B_more_45 (G : zG) (rT : Nat) (what : Int) (X : zX) (K45 : Int → Int → zPH → Prop) (x2 x3 : Int) (σ : zPH) : Prop :=
  σ 0 3 = ((rT : Nat) : Int) ∧
  MS G zm_T_squareCount 0 [zr G rT] σ (fun v σ50 =>
    ∃ z50 : Int, v = some (iZ z50) ∧
    (zI x3 ∧ zI z50) ∧
    (z50 ≤ x3 →
      X (some (iZ (-1))) σ50) ∧
    (x3 < z50 →
      σ50 0 3 = ((rT : Nat) : Int) ∧
      (0 ≤ x3 ∧ x3 < 144) ∧
      (zI (σ50 (rT + 2) x3.toNat)) ∧
      ((σ50 (rT + 2) x3.toNat) ≠ (-1) →
        b_B_more_138 G rT what X K45 x2 x3 σ50) ∧
      ((σ50 (rT + 2) x3.toNat) = (-1) →
        (0 ≤ x3 ∧ x3 < 144) ∧
        (zI (σ50 2 x3.toNat)) ∧
        ((σ50 2 x3.toNat) = 0 →
          (zI x2) ∧
          (x2 ≠ 0 →
            b_B_more_98 G rT what X K45 x2 x3 0 σ50) ∧
          (x2 = 0 →
            b_B_more_98 G rT what X K45 x2 x3 (-1) σ50)) ∧
        ((σ50 2 x3.toNat) ≠ 0 →
          MS G zm_B_formMetOn 6 [zr G 0, iZ x3] σ50 (fun v σ83 =>
            ∃ z83 : Int, v = some (iZ z83) ∧
            b_B_more_98 G rT what X K45 x2 x3 z83 σ83)))))
set_option maxHeartbeats 4000000 in
theorem kb_B_more_45 {G : zG} {rT : Nat} {what : Int} {X : zX} {K45 : Int → Int → zPH → Prop} (hrT : zisT rT) (hK45 : ∀ (y0 y1 : Int) (σ : zPH), K45 y0 y1 σ → PW G zm_B_more 7 X 45 [some (zr G 0), some (iZ what), some (iZ y0), some (iZ y1), none] [] σ) {x2 x3 : Int} {σ : zPH} (h : b_B_more_45 G rT what X K45 x2 x3 σ) : PW G zm_B_more 7 X 45 [some (zr G 0), some (iZ what), some (iZ x2), some (iZ x3), none] [] σ := by
  unfold b_B_more_45 at h
  refine PW_iload_n zd_B_more_45 rfl ?_
  refine PW_aload_n zd_B_more_46 rfl ?_
  obtain ⟨h0, h⟩ := h
  refine PW_getD zd_B_more_47 zf_B_23 (zs_0 _) rfl h0 ?_
  refine PW_callV0i zd_B_more_50 zl_B_153 zk_T_squareCount zv_T_squareCount (fr' := 0) (by decide) (zsT_0 hrT) rfl rfl (Nat.le_of_ble_eq_true rfl) ?_
  refine ms_mono h ?_
  rintro v σ1 ⟨z, rfl, h⟩
  refine ⟨z, rfl, ?_⟩
  obtain ⟨h0, hT, hF⟩ := h
  refine PW_icmp_ge zd_B_more_53 h0 (fun q => ?_) (fun q => ?_)
  · have h := hT q
    refine PW_iconst zd_B_more_144 ?_
    exact PW_iret zd_B_more_145 rfl h
  · have h := hF q
    refine PW_aload_n zd_B_more_56 rfl ?_
    obtain ⟨h0, h⟩ := h
    refine PW_getD zd_B_more_57 zf_B_23 (zs_0 _) rfl h0 ?_
    refine PW_getR zd_B_more_60 zf_B_113 (zsT_0 hrT) rfl ?_
    refine PW_iload_n zd_B_more_63 rfl ?_
    obtain ⟨h0, h⟩ := h
    refine PW_iaload zd_B_more_64 (zsT_2 hrT) h0 ?_
    refine PW_iconst zd_B_more_65 ?_
    obtain ⟨h0, hT, hF⟩ := h
    refine PW_icmp_ne zd_B_more_66 ⟨h0, by decide⟩ (fun q => ?_) (fun q => ?_)
    · have h := hT q
      exact PW_sub (by exact ⟨rfl, rfl, rfl, rfl, trivial⟩) (kb_B_more_138 hrT hK45 h)
    · have h := hF q
      refine PW_iconst zd_B_more_69 ?_
      refine PW_istore zd_B_more_70 rfl (by decide) (ls2 := [_, _, _, _, _]) rfl ?_
      refine PW_aload_n zd_B_more_72 rfl ?_
      refine PW_getR zd_B_more_73 zf_B_41 (zs_0 _) rfl ?_
      refine PW_iload_n zd_B_more_76 rfl ?_
      obtain ⟨h0, h⟩ := h
      refine PW_iaload zd_B_more_77 (zs_2 _) h0 ?_
      obtain ⟨h0, hT, hF⟩ := h
      refine PW_if_eq zd_B_more_78 h0 (fun q => ?_) (fun q => ?_)
      · have h := hT q
        refine PW_iload_n zd_B_more_91 rfl ?_
        obtain ⟨h0, hT, hF⟩ := h
        refine PW_if_ne zd_B_more_92 h0 (fun q => ?_) (fun q => ?_)
        · have h := hT q
          exact PW_sub (by exact ⟨rfl, rfl, rfl, rfl, rfl, trivial⟩) (kb_B_more_98 hrT hK45 h)
        · have h := hF q
          refine PW_iconst zd_B_more_95 ?_
          refine PW_istore zd_B_more_96 rfl (by decide) (ls2 := [_, _, _, _, _]) rfl ?_
          exact PW_sub (by exact ⟨rfl, rfl, rfl, rfl, rfl, trivial⟩) (kb_B_more_98 hrT hK45 h)
      · have h := hF q
        refine PW_aload_n zd_B_more_81 rfl ?_
        refine PW_iload_n zd_B_more_82 rfl ?_
        refine PW_callV1i zd_B_more_83 zl_B_221 zk_B_formMetOn zv_B_formMetOn (fr' := 6) (by decide) (zs_0 _) rfl rfl (Nat.le_of_ble_eq_true rfl) ?_
        refine ms_mono h ?_
        rintro v σ1 ⟨z, rfl, h⟩
        refine ⟨z, rfl, ?_⟩
        refine PW_istore zd_B_more_86 rfl (by decide) (ls2 := [_, _, _, _, _]) rfl ?_
        refine PW_goto zd_B_more_88 ?_
        exact PW_sub (by exact ⟨rfl, rfl, rfl, rfl, rfl, trivial⟩) (kb_B_more_98 hrT hK45 h)
theorem kl_B_more_45 {G : zG} {rT : Nat} {what : Int} {X : zX} (hrT : zisT rT) {x2 x3 : Int} {σ : zPH} (h : zLP2 (b_B_more_45 G rT what X ) x2 x3 σ) : PW G zm_B_more 7 X 45 [some (zr G 0), some (iZ what), some (iZ x2), some (iZ x3), none] [] σ := by
  obtain ⟨n, h⟩ := h
  induction n generalizing x2 x3 σ with
  | zero => exact h.elim
  | succ n ih => exact kb_B_more_45 hrT  (fun _ _ _ h => ih h) h
def w_B_more (G : zG) (rT : Nat) (what : Int) (X : zX) (σ : zPH) : Prop :=
  (zI what) ∧
  (what < 0 →
    X (some (iZ (-1))) σ) ∧
  (0 ≤ what →
    (zI what) ∧
    (what ≤ 2 →
      MS G zm_B_areMet 6 [zr G 0, iZ (σ 0 7)] σ (fun v σ16 =>
        ∃ z16 : Int, (z16 = 0 ∨ z16 = 1) ∧ v = some (iZ z16) ∧
        σ16 0 3 = ((rT : Nat) : Int) ∧
        MS G zm_C_mark 5 [zr G 14, zr G rT, iZ (σ16 0 7), iZ (σ16 0 8), zr G 2] σ16 (fun v σ40 =>
          v = none ∧
          zLP2 (b_B_more_45 G rT what X ) z16 0 σ40))) ∧
    (2 < what →
      X (some (iZ (-1))) σ))
set_option maxHeartbeats 4000000 in
theorem k_B_more {G : zG} {rT : Nat} {what : Int} {X : zX} (hrT : zisT rT) {σ : zPH} (h : w_B_more G rT what X σ) : MS G zm_B_more 7 [zr G 0, iZ what] σ X := by
  refine ms_of zk_B_more (Nat.le_of_ble_eq_true rfl) (ls := [some (zr G 0), some (iZ what), none, none, none]) rfl ?_
  unfold w_B_more at h
  refine PW_iload_n zd_B_more_0 rfl ?_
  obtain ⟨h0, hT, hF⟩ := h
  refine PW_if_lt zd_B_more_1 h0 (fun q => ?_) (fun q => ?_)
  · have h := hT q
    refine PW_iconst zd_B_more_9 ?_
    exact PW_iret zd_B_more_10 rfl h
  · have h := hF q
    refine PW_iload_n zd_B_more_4 rfl ?_
    refine PW_iconst zd_B_more_5 ?_
    obtain ⟨h0, hT, hF⟩ := h
    refine PW_icmp_le zd_B_more_6 ⟨h0, by decide⟩ (fun q => ?_) (fun q => ?_)
    · have h := hT q
      refine PW_aload_n zd_B_more_11 rfl ?_
      refine PW_aload_n zd_B_more_12 rfl ?_
      refine PW_getI zd_B_more_13 zf_B_70 (zs_0 _) rfl ?_
      refine PW_callV1i zd_B_more_16 zl_B_192 zk_B_areMet zv_B_areMet (fr' := 6) (by decide) (zs_0 _) rfl rfl (Nat.le_of_ble_eq_true rfl) ?_
      refine ms_mono h ?_
      rintro v σ1 ⟨z, hz, rfl, h⟩
      refine ⟨z, rfl, ?_⟩
      refine PW_istore_n zd_B_more_19 rfl (by decide) (ls2 := [_, _, _, _, _]) rfl ?_
      refine PW_aload_n zd_B_more_20 rfl ?_
      refine PW_getR zd_B_more_21 zf_B_30 (zs_0 _) rfl ?_
      refine PW_aload_n zd_B_more_24 rfl ?_
      obtain ⟨h0, h⟩ := h
      refine PW_getD zd_B_more_25 zf_B_23 (zs_0 _) rfl h0 ?_
      refine PW_aload_n zd_B_more_28 rfl ?_
      refine PW_getI zd_B_more_29 zf_B_70 (zs_0 _) rfl ?_
      refine PW_aload_n zd_B_more_32 rfl ?_
      refine PW_getI zd_B_more_33 zf_B_73 (zs_0 _) rfl ?_
      refine PW_aload_n zd_B_more_36 rfl ?_
      refine PW_getR zd_B_more_37 zf_B_41 (zs_0 _) rfl ?_
      refine PW_callV4v zd_B_more_40 zl_B_211 zk_C_mark zv_C_mark (fr' := 5) (by decide) (zs_14 _) rfl rfl (Nat.le_of_ble_eq_true rfl) ?_
      refine ms_mono h ?_
      rintro v σ1 ⟨rfl, h⟩
      refine ⟨rfl, ?_⟩
      refine PW_iconst zd_B_more_43 ?_
      refine PW_istore_n zd_B_more_44 rfl (by decide) (ls2 := [_, _, _, _, _]) rfl ?_
      exact PW_sub (by exact ⟨rfl, rfl, rfl, rfl, trivial⟩) (kl_B_more_45 hrT  h)
    · have h := hF q
      refine PW_iconst zd_B_more_9 ?_
      exact PW_iret zd_B_more_10 rfl h
def b_B_formMetOn_58 (G : zG) (rT : Nat) (place : Int) (X : zX) (x2 : Int) (σ : zPH) : Prop :=
  σ 0 3 = ((rT : Nat) : Int) ∧
  MS G zm_T_put 0 [zr G rT, iZ (-1), iZ place] σ (fun v σ64 =>
    v = none ∧
    X (some (iZ x2)) σ64)
set_option maxHeartbeats 4000000 in
theorem kb_B_formMetOn_58 {G : zG} {rT : Nat} {place : Int} {X : zX} (hrT : zisT rT) {x2 : Int} {σ : zPH} (h : b_B_formMetOn_58 G rT place X  x2 σ) : PW G zm_B_formMetOn 6 X 58 [some (zr G 0), some (iZ place), some (iZ x2), none] [] σ := by
  unfold b_B_formMetOn_58 at h
  refine PW_aload_n zd_B_formMetOn_58 rfl ?_
  obtain ⟨h0, h⟩ := h
  refine PW_getD zd_B_formMetOn_59 zf_B_23 (zs_0 _) rfl h0 ?_
  refine PW_iconst zd_B_formMetOn_62 ?_
  refine PW_iload_n zd_B_formMetOn_63 rfl ?_
  refine PW_callV2v zd_B_formMetOn_64 zl_B_198 zk_T_put zv_T_put (fr' := 0) (by decide) (zsT_0 hrT) rfl rfl (Nat.le_of_ble_eq_true rfl) ?_
  refine ms_mono h ?_
  rintro v σ1 ⟨rfl, h⟩
  refine ⟨rfl, ?_⟩
  refine PW_iload_n zd_B_formMetOn_67 rfl ?_
  exact PW_iret zd_B_formMetOn_68 rfl h
def b_B_formMetOn_52 (G : zG) (rT : Nat) (place : Int) (X : zX) (K4 : Int → Int → zPH → Prop) (x2 x3 : Int) (σ : zPH) : Prop :=
  K4 x2 (x3 + 1) σ
set_option maxHeartbeats 4000000 in
theorem kb_B_formMetOn_52 {G : zG} {rT : Nat} {place : Int} {X : zX} {K4 : Int → Int → zPH → Prop} (hrT : zisT rT) (hK4 : ∀ (y0 y1 : Int) (σ : zPH), K4 y0 y1 σ → PW G zm_B_formMetOn 6 X 4 [some (zr G 0), some (iZ place), some (iZ y0), some (iZ y1)] [] σ) {x2 x3 : Int} {σ : zPH} (h : b_B_formMetOn_52 G rT place X K4 x2 x3 σ) : PW G zm_B_formMetOn 6 X 52 [some (zr G 0), some (iZ place), some (iZ x2), some (iZ x3)] [] σ := by
  unfold b_B_formMetOn_52 at h
  refine PW_iinc zd_B_formMetOn_52 rfl rfl (by decide) (ls2 := [_, _, _, _]) rfl ?_
  refine PW_goto zd_B_formMetOn_55 ?_
  exact PW_sub (by exact ⟨rfl, rfl, rfl, rfl, trivial⟩) (hK4 _ _ _ h)
def b_B_formMetOn_4 (G : zG) (rT : Nat) (place : Int) (X : zX) (K4 : Int → Int → zPH → Prop) (x2 x3 : Int) (σ : zPH) : Prop :=
  (zI x3) ∧
  (1 < x3 →
    b_B_formMetOn_58 G rT place X  x2 σ) ∧
  (x3 ≤ 1 →
    (zI x2) ∧
    (x2 ≠ (-1) →
      b_B_formMetOn_58 G rT place X  x2 σ) ∧
    (x2 = (-1) →
      σ 0 3 = ((rT : Nat) : Int) ∧
      MS G zm_T_putTried 1 [zr G rT, iZ 2, iZ x3, iZ place] σ (fun v σ21 =>
        v = none ∧
        σ21 0 3 = ((rT : Nat) : Int) ∧
        MS G zm_C_eyesInEnd 5 [zr G 14, zr G rT, iZ (σ21 0 7), iZ (σ21 0 8)] σ21 (fun v σ41 =>
          ∃ z41 : Int, v = some (iZ z41) ∧
          MS G zm_B_isAsWished 0 [zr G 0, iZ z41] σ41 (fun v σ44 =>
            (v = some (iZ 0) ∧
              b_B_formMetOn_52 G rT place X K4 x2 x3 σ44) ∨
            (v = some (iZ 1) ∧
              b_B_formMetOn_52 G rT place X K4 x3 x3 σ44))))))
set_option maxHeartbeats 4000000 in
theorem kb_B_formMetOn_4 {G : zG} {rT : Nat} {place : Int} {X : zX} {K4 : Int → Int → zPH → Prop} (hrT : zisT rT) (hK4 : ∀ (y0 y1 : Int) (σ : zPH), K4 y0 y1 σ → PW G zm_B_formMetOn 6 X 4 [some (zr G 0), some (iZ place), some (iZ y0), some (iZ y1)] [] σ) {x2 x3 : Int} {σ : zPH} (h : b_B_formMetOn_4 G rT place X K4 x2 x3 σ) : PW G zm_B_formMetOn 6 X 4 [some (zr G 0), some (iZ place), some (iZ x2), some (iZ x3)] [] σ := by
  unfold b_B_formMetOn_4 at h
  refine PW_iload_n zd_B_formMetOn_4 rfl ?_
  refine PW_iconst zd_B_formMetOn_5 ?_
  obtain ⟨h0, hT, hF⟩ := h
  refine PW_icmp_gt zd_B_formMetOn_6 ⟨h0, by decide⟩ (fun q => ?_) (fun q => ?_)
  · have h := hT q
    exact PW_sub (by exact ⟨rfl, rfl, rfl, trivial⟩) (kb_B_formMetOn_58 hrT  h)
  · have h := hF q
    refine PW_iload_n zd_B_formMetOn_9 rfl ?_
    refine PW_iconst zd_B_formMetOn_10 ?_
    obtain ⟨h0, hT, hF⟩ := h
    refine PW_icmp_ne zd_B_formMetOn_11 ⟨h0, by decide⟩ (fun q => ?_) (fun q => ?_)
    · have h := hT q
      exact PW_sub (by exact ⟨rfl, rfl, rfl, trivial⟩) (kb_B_formMetOn_58 hrT  h)
    · have h := hF q
      refine PW_aload_n zd_B_formMetOn_14 rfl ?_
      obtain ⟨h0, h⟩ := h
      refine PW_getD zd_B_formMetOn_15 zf_B_23 (zs_0 _) rfl h0 ?_
      refine PW_iconst zd_B_formMetOn_18 ?_
      refine PW_iload_n zd_B_formMetOn_19 rfl ?_
      refine PW_iload_n zd_B_formMetOn_20 rfl ?_
      refine PW_callV3v zd_B_formMetOn_21 zl_B_207 zk_T_putTried zv_T_putTried (fr' := 1) (by decide) (zsT_0 hrT) rfl rfl (Nat.le_of_ble_eq_true rfl) ?_
      refine ms_mono h ?_
      rintro v σ1 ⟨rfl, h⟩
      refine ⟨rfl, ?_⟩
      refine PW_aload_n zd_B_formMetOn_24 rfl ?_
      refine PW_aload_n zd_B_formMetOn_25 rfl ?_
      refine PW_getR zd_B_formMetOn_26 zf_B_30 (zs_0 _) rfl ?_
      refine PW_aload_n zd_B_formMetOn_29 rfl ?_
      obtain ⟨h0, h⟩ := h
      refine PW_getD zd_B_formMetOn_30 zf_B_23 (zs_0 _) rfl h0 ?_
      refine PW_aload_n zd_B_formMetOn_33 rfl ?_
      refine PW_getI zd_B_formMetOn_34 zf_B_70 (zs_0 _) rfl ?_
      refine PW_aload_n zd_B_formMetOn_37 rfl ?_
      refine PW_getI zd_B_formMetOn_38 zf_B_73 (zs_0 _) rfl ?_
      refine PW_callV3i zd_B_formMetOn_41 zl_B_195 zk_C_eyesInEnd zv_C_eyesInEnd (fr' := 5) (by decide) (zs_14 _) rfl rfl (Nat.le_of_ble_eq_true rfl) ?_
      refine ms_mono h ?_
      rintro v σ1 ⟨z, rfl, h⟩
      refine ⟨z, rfl, ?_⟩
      refine PW_callV1i zd_B_formMetOn_44 zl_B_224 zk_B_isAsWished zv_B_isAsWished (fr' := 0) (by decide) (zs_0 _) rfl rfl (Nat.le_of_ble_eq_true rfl) ?_
      refine ms_mono h ?_
      rintro v σ1 (⟨rfl, h⟩ | ⟨rfl, h⟩)
      · refine ⟨0, rfl, ?_⟩
        refine PW_if_eq zd_B_formMetOn_47 (by decide) (fun _ => ?_) (fun q => absurd rfl q)
        exact PW_sub (by exact ⟨rfl, rfl, rfl, rfl, trivial⟩) (kb_B_formMetOn_52 hrT hK4 h)
      · refine ⟨1, rfl, ?_⟩
        refine PW_if_eq zd_B_formMetOn_47 (by decide) (fun q => absurd q (by decide)) (fun _ => ?_)
        refine PW_iload_n zd_B_formMetOn_50 rfl ?_
        refine PW_istore_n zd_B_formMetOn_51 rfl (by decide) (ls2 := [_, _, _, _]) rfl ?_
        exact PW_sub (by exact ⟨rfl, rfl, rfl, rfl, trivial⟩) (kb_B_formMetOn_52 hrT hK4 h)
theorem kl_B_formMetOn_4 {G : zG} {rT : Nat} {place : Int} {X : zX} (hrT : zisT rT) {x2 x3 : Int} {σ : zPH} (h : zLP2 (b_B_formMetOn_4 G rT place X ) x2 x3 σ) : PW G zm_B_formMetOn 6 X 4 [some (zr G 0), some (iZ place), some (iZ x2), some (iZ x3)] [] σ := by
  obtain ⟨n, h⟩ := h
  induction n generalizing x2 x3 σ with
  | zero => exact h.elim
  | succ n ih => exact kb_B_formMetOn_4 hrT  (fun _ _ _ h => ih h) h
def w_B_formMetOn (G : zG) (rT : Nat) (place : Int) (X : zX) (σ : zPH) : Prop :=
  zLP2 (b_B_formMetOn_4 G rT place X ) (-1) 0 σ
set_option maxHeartbeats 4000000 in
theorem k_B_formMetOn {G : zG} {rT : Nat} {place : Int} {X : zX} (hrT : zisT rT) {σ : zPH} (h : w_B_formMetOn G rT place X σ) : MS G zm_B_formMetOn 6 [zr G 0, iZ place] σ X := by
  refine ms_of zk_B_formMetOn (Nat.le_of_ble_eq_true rfl) (ls := [some (zr G 0), some (iZ place), none, none]) rfl ?_
  unfold w_B_formMetOn at h
  refine PW_iconst zd_B_formMetOn_0 ?_
  refine PW_istore_n zd_B_formMetOn_1 rfl (by decide) (ls2 := [_, _, _, _]) rfl ?_
  refine PW_iconst zd_B_formMetOn_2 ?_
  refine PW_istore_n zd_B_formMetOn_3 rfl (by decide) (ls2 := [_, _, _, _]) rfl ?_
  exact PW_sub (by exact ⟨rfl, rfl, rfl, rfl, trivial⟩) (kl_B_formMetOn_4 hrT  h)
def b_B_solutions_61 (G : zG) (what : Int) (X : zX) (K25 : Int → Int → Int → Int → zPH → Prop) (x2 x3 x4 x5 : Int) (σ : zPH) : Prop :=
  K25 x2 x3 x4 (x5 + 1) σ
set_option maxHeartbeats 4000000 in
theorem kb_B_solutions_61 {G : zG} {what : Int} {X : zX} {K25 : Int → Int → Int → Int → zPH → Prop} (hK25 : ∀ (y0 y1 y2 y3 : Int) (σ : zPH), K25 y0 y1 y2 y3 σ → PW G zm_B_solutions 7 X 25 [some (zr G 0), some (iZ what), some (iZ y0), some (iZ y1), some (iZ y2), some (iZ y3)] [] σ) {x2 x3 x4 x5 : Int} {σ : zPH} (h : b_B_solutions_61 G what X K25 x2 x3 x4 x5 σ) : PW G zm_B_solutions 7 X 61 [some (zr G 0), some (iZ what), some (iZ x2), some (iZ x3), some (iZ x4), some (iZ x5)] [] σ := by
  unfold b_B_solutions_61 at h
  refine PW_iinc zd_B_solutions_61 rfl rfl (by decide) (ls2 := [_, _, _, _, _, _]) rfl ?_
  refine PW_goto zd_B_solutions_64 ?_
  exact PW_sub (by exact ⟨rfl, rfl, rfl, rfl, rfl, rfl, trivial⟩) (hK25 _ _ _ _ _ h)
def b_B_solutions_25 (G : zG) (what : Int) (X : zX) (K25 : Int → Int → Int → Int → zPH → Prop) (x2 x3 x4 x5 : Int) (σ : zPH) : Prop :=
  MS G zm_B_allOf 0 [zr G 0, iZ 1] σ (fun v σ29 =>
    ∃ z29 : Int, v = some (iZ z29) ∧
    (zI x5 ∧ zI z29) ∧
    (z29 < x5 →
      (zI what) ∧
      (what ≠ 0 →
        (zI what) ∧
        (what ≠ 1 →
          X (some (iZ x4)) σ29) ∧
        (what = 1 →
          X (some (iZ x3)) σ29)) ∧
      (what = 0 →
        X (some (iZ x2)) σ29)) ∧
    (x5 ≤ z29 →
      MS G zm_B_areMet 6 [zr G 0, iZ x5] σ29 (fun v σ38 =>
        (v = some (iZ 0) ∧
          b_B_solutions_61 G what X K25 x2 x3 x4 x5 σ38) ∨
        (v = some (iZ 1) ∧
          (0 ≤ x3 ∧ 0 ≤ x5) ∧
          ∀ x3_ : Int, x3_ = (zand x3 x5) →
          (0 ≤ x4 ∧ 0 ≤ x5) ∧
          ∀ x4_ : Int, x4_ = (zdif x4 x5) →
          b_B_solutions_61 G what X K25 (x2 + 1) x3_ x4_ x5 σ38))))
set_option maxHeartbeats 4000000 in
theorem kb_B_solutions_25 {G : zG} {what : Int} {X : zX} {K25 : Int → Int → Int → Int → zPH → Prop} (hK25 : ∀ (y0 y1 y2 y3 : Int) (σ : zPH), K25 y0 y1 y2 y3 σ → PW G zm_B_solutions 7 X 25 [some (zr G 0), some (iZ what), some (iZ y0), some (iZ y1), some (iZ y2), some (iZ y3)] [] σ) {x2 x3 x4 x5 : Int} {σ : zPH} (h : b_B_solutions_25 G what X K25 x2 x3 x4 x5 σ) : PW G zm_B_solutions 7 X 25 [some (zr G 0), some (iZ what), some (iZ x2), some (iZ x3), some (iZ x4), some (iZ x5)] [] σ := by
  unfold b_B_solutions_25 at h
  refine PW_iload zd_B_solutions_25 rfl ?_
  refine PW_aload_n zd_B_solutions_27 rfl ?_
  refine PW_iconst zd_B_solutions_28 ?_
  refine PW_callV1i zd_B_solutions_29 zl_B_201 zk_B_allOf zv_B_allOf (fr' := 0) (by decide) (zs_0 _) rfl rfl (Nat.le_of_ble_eq_true rfl) ?_
  refine ms_mono h ?_
  rintro v σ1 ⟨z, rfl, h⟩
  refine ⟨z, rfl, ?_⟩
  obtain ⟨h0, hT, hF⟩ := h
  refine PW_icmp_gt zd_B_solutions_32 h0 (fun q => ?_) (fun q => ?_)
  · have h := hT q
    refine PW_iload_n zd_B_solutions_67 rfl ?_
    obtain ⟨h0, hT, hF⟩ := h
    refine PW_if_ne zd_B_solutions_68 h0 (fun q => ?_) (fun q => ?_)
    · have h := hT q
      refine PW_iload_n zd_B_solutions_73 rfl ?_
      refine PW_iconst zd_B_solutions_74 ?_
      obtain ⟨h0, hT, hF⟩ := h
      refine PW_icmp_ne zd_B_solutions_75 ⟨h0, by decide⟩ (fun q => ?_) (fun q => ?_)
      · have h := hT q
        refine PW_iload zd_B_solutions_82 rfl ?_
        exact PW_iret zd_B_solutions_84 rfl h
      · have h := hF q
        refine PW_iload_n zd_B_solutions_78 rfl ?_
        refine PW_goto zd_B_solutions_79 ?_
        exact PW_iret zd_B_solutions_84 rfl h
    · have h := hF q
      refine PW_iload_n zd_B_solutions_71 rfl ?_
      exact PW_iret zd_B_solutions_72 rfl h
  · have h := hF q
    refine PW_aload_n zd_B_solutions_35 rfl ?_
    refine PW_iload zd_B_solutions_36 rfl ?_
    refine PW_callV1i zd_B_solutions_38 zl_B_192 zk_B_areMet zv_B_areMet (fr' := 6) (by decide) (zs_0 _) rfl rfl (Nat.le_of_ble_eq_true rfl) ?_
    refine ms_mono h ?_
    rintro v σ1 (⟨rfl, h⟩ | ⟨rfl, h⟩)
    · refine ⟨0, rfl, ?_⟩
      refine PW_if_eq zd_B_solutions_41 (by decide) (fun _ => ?_) (fun q => absurd rfl q)
      exact PW_sub (by exact ⟨rfl, rfl, rfl, rfl, rfl, rfl, trivial⟩) (kb_B_solutions_61  hK25 h)
    · refine ⟨1, rfl, ?_⟩
      refine PW_if_eq zd_B_solutions_41 (by decide) (fun q => absurd q (by decide)) (fun _ => ?_)
      refine PW_iinc zd_B_solutions_44 rfl rfl (by decide) (ls2 := [_, _, _, _, _, _]) rfl ?_
      refine PW_iload_n zd_B_solutions_47 rfl ?_
      refine PW_iload zd_B_solutions_48 rfl ?_
      obtain ⟨h0, h⟩ := h
      refine PW_iand zd_B_solutions_50 h0 ?_
      refine PW_istore_n zd_B_solutions_51 rfl (by decide) (ls2 := [_, _, _, _, _, _]) rfl ?_
      have h := h _ rfl
      refine PW_iload zd_B_solutions_52 rfl ?_
      refine PW_iload zd_B_solutions_54 rfl ?_
      refine PW_iconst zd_B_solutions_56 ?_
      refine PW_ixorM zd_B_solutions_57 ?_
      obtain ⟨h0, h⟩ := h
      refine PW_iandn zd_B_solutions_58 h0 ?_
      refine PW_istore zd_B_solutions_59 rfl (by decide) (ls2 := [_, _, _, _, _, _]) rfl ?_
      have h := h _ rfl
      exact PW_sub (by exact ⟨rfl, rfl, rfl, rfl, rfl, rfl, trivial⟩) (kb_B_solutions_61  hK25 h)
theorem kl_B_solutions_25 {G : zG} {what : Int} {X : zX} {x2 x3 x4 x5 : Int} {σ : zPH} (h : zLP4 (b_B_solutions_25 G what X ) x2 x3 x4 x5 σ) : PW G zm_B_solutions 7 X 25 [some (zr G 0), some (iZ what), some (iZ x2), some (iZ x3), some (iZ x4), some (iZ x5)] [] σ := by
  obtain ⟨n, h⟩ := h
  induction n generalizing x2 x3 x4 x5 σ with
  | zero => exact h.elim
  | succ n ih => exact kb_B_solutions_25   (fun _ _ _ _ _ h => ih h) h
def w_B_solutions (G : zG) (what : Int) (X : zX) (σ : zPH) : Prop :=
  (zI what) ∧
  (what < 0 →
    X (some (iZ (-1))) σ) ∧
  (0 ≤ what →
    (zI what) ∧
    (what ≤ 2 →
      MS G zm_B_allOf 0 [zr G 0, iZ 1] σ (fun v σ15 =>
        ∃ z15 : Int, v = some (iZ z15) ∧
        zLP4 (b_B_solutions_25 G what X ) 0 z15 z15 0 σ15)) ∧
    (2 < what →
      X (some (iZ (-1))) σ))
set_option maxHeartbeats 4000000 in
theorem k_B_solutions {G : zG} {what : Int} {X : zX} {σ : zPH} (h : w_B_solutions G what X σ) : MS G zm_B_solutions 7 [zr G 0, iZ what] σ X := by
  refine ms_of zk_B_solutions (Nat.le_of_ble_eq_true rfl) (ls := [some (zr G 0), some (iZ what), none, none, none, none]) rfl ?_
  unfold w_B_solutions at h
  refine PW_iload_n zd_B_solutions_0 rfl ?_
  obtain ⟨h0, hT, hF⟩ := h
  refine PW_if_lt zd_B_solutions_1 h0 (fun q => ?_) (fun q => ?_)
  · have h := hT q
    refine PW_iconst zd_B_solutions_9 ?_
    exact PW_iret zd_B_solutions_10 rfl h
  · have h := hF q
    refine PW_iload_n zd_B_solutions_4 rfl ?_
    refine PW_iconst zd_B_solutions_5 ?_
    obtain ⟨h0, hT, hF⟩ := h
    refine PW_icmp_le zd_B_solutions_6 ⟨h0, by decide⟩ (fun q => ?_) (fun q => ?_)
    · have h := hT q
      refine PW_iconst zd_B_solutions_11 ?_
      refine PW_istore_n zd_B_solutions_12 rfl (by decide) (ls2 := [_, _, _, _, _, _]) rfl ?_
      refine PW_aload_n zd_B_solutions_13 rfl ?_
      refine PW_iconst zd_B_solutions_14 ?_
      refine PW_callV1i zd_B_solutions_15 zl_B_201 zk_B_allOf zv_B_allOf (fr' := 0) (by decide) (zs_0 _) rfl rfl (Nat.le_of_ble_eq_true rfl) ?_
      refine ms_mono h ?_
      rintro v σ1 ⟨z, rfl, h⟩
      refine ⟨z, rfl, ?_⟩
      refine PW_istore_n zd_B_solutions_18 rfl (by decide) (ls2 := [_, _, _, _, _, _]) rfl ?_
      refine PW_iload_n zd_B_solutions_19 rfl ?_
      refine PW_istore zd_B_solutions_20 rfl (by decide) (ls2 := [_, _, _, _, _, _]) rfl ?_
      refine PW_iconst zd_B_solutions_22 ?_
      refine PW_istore zd_B_solutions_23 rfl (by decide) (ls2 := [_, _, _, _, _, _]) rfl ?_
      exact PW_sub (by exact ⟨rfl, rfl, rfl, rfl, rfl, rfl, trivial⟩) (kl_B_solutions_25   h)
    · have h := hF q
      refine PW_iconst zd_B_solutions_9 ?_
      exact PW_iret zd_B_solutions_10 rfl h
def b_B_near_86 (G : zG) (rT : Nat) (X : zX) (K14 : Int → Int → Int → zPH → Prop) (x1 x2 x3 : Int) (σ : zPH) : Prop :=
  K14 x1 x2 (x3 + 1) σ
set_option maxHeartbeats 4000000 in
theorem kb_B_near_86 {G : zG} {rT : Nat} {X : zX} {K14 : Int → Int → Int → zPH → Prop} (hrT : zisT rT) (hK14 : ∀ (y0 y1 y2 : Int) (σ : zPH), K14 y0 y1 y2 σ → PW G zm_B_near 7 X 14 [some (zr G 0), some (iZ y0), some (iZ y1), some (iZ y2), none] [] σ) {x1 x2 x3 : Int} {σ : zPH} (h : b_B_near_86 G rT X K14 x1 x2 x3 σ) : PW G zm_B_near 7 X 86 [some (zr G 0), some (iZ x1), some (iZ x2), some (iZ x3), none] [] σ := by
  unfold b_B_near_86 at h
  refine PW_iinc zd_B_near_86 rfl rfl (by decide) (ls2 := [_, _, _, _, _]) rfl ?_
  refine PW_goto zd_B_near_89 ?_
  exact PW_sub (by exact ⟨rfl, rfl, rfl, rfl, trivial⟩) (hK14 _ _ _ _ h)
def b_B_near_14 (G : zG) (rT : Nat) (X : zX) (K14 : Int → Int → Int → zPH → Prop) (x1 x2 x3 : Int) (σ : zPH) : Prop :=
  MS G zm_B_stateCount 0 [zr G 0] σ (fun v σ16 =>
    ∃ z16 : Int, v = some (iZ z16) ∧
    (zI x3 ∧ zI z16) ∧
    (z16 ≤ x3 →
      X (some (iZ x1)) σ16) ∧
    (x3 < z16 →
      (0 ≤ x3 ∧ 0 ≤ (σ16 0 8)) ∧
      MS G zm_JI_bitCount 0 [iZ (zxor x3 (σ16 0 8))] σ16 (fun v σ28 =>
        ∃ z28 : Int, v = some (iZ z28) ∧
        (zI z28 ∧ zI x2) ∧
        (x2 ≤ z28 →
          b_B_near_86 G rT X K14 x1 x2 x3 σ28) ∧
        (z28 < x2 →
          σ28 0 3 = ((rT : Nat) : Int) ∧
          MS G zm_C_walk 6 [zr G 14, zr G rT, iZ (σ28 0 7), iZ x3] σ28 (fun v σ52 =>
            v = none ∧
            MS G zm_C_roundLength 0 [zr G 14] σ52 (fun v σ59 =>
              ∃ z59 : Int, v = some (iZ z59) ∧
              (zI z59) ∧
              (z59 ≠ 1 →
                b_B_near_86 G rT X K14 x1 x2 x3 σ59) ∧
              (z59 = 1 →
                MS G zm_C_eyesOfRound 0 [zr G 14, iZ 1] σ59 (fun v σ72 =>
                  ∃ z72 : Int, v = some (iZ z72) ∧
                  MS G zm_B_isAsWished 0 [zr G 0, iZ z72] σ72 (fun v σ75 =>
                    (v = some (iZ 0) ∧
                      b_B_near_86 G rT X K14 x1 x2 x3 σ75) ∨
                    (v = some (iZ 1) ∧
                      b_B_near_86 G rT X K14 x3 z28 x3 σ75))))))))))
set_option maxHeartbeats 4000000 in
theorem kb_B_near_14 {G : zG} {rT : Nat} {X : zX} {K14 : Int → Int → Int → zPH → Prop} (hrT : zisT rT) (hK14 : ∀ (y0 y1 y2 : Int) (σ : zPH), K14 y0 y1 y2 σ → PW G zm_B_near 7 X 14 [some (zr G 0), some (iZ y0), some (iZ y1), some (iZ y2), none] [] σ) {x1 x2 x3 : Int} {σ : zPH} (h : b_B_near_14 G rT X K14 x1 x2 x3 σ) : PW G zm_B_near 7 X 14 [some (zr G 0), some (iZ x1), some (iZ x2), some (iZ x3), none] [] σ := by
  unfold b_B_near_14 at h
  refine PW_iload_n zd_B_near_14 rfl ?_
  refine PW_aload_n zd_B_near_15 rfl ?_
  refine PW_callV0i zd_B_near_16 zl_B_186 zk_B_stateCount zv_B_stateCount (fr' := 0) (by decide) (zs_0 _) rfl rfl (Nat.le_of_ble_eq_true rfl) ?_
  refine ms_mono h ?_
  rintro v σ1 ⟨z, rfl, h⟩
  refine ⟨z, rfl, ?_⟩
  obtain ⟨h0, hT, hF⟩ := h
  refine PW_icmp_ge zd_B_near_19 h0 (fun q => ?_) (fun q => ?_)
  · have h := hT q
    refine PW_iload_n zd_B_near_92 rfl ?_
    exact PW_iret zd_B_near_93 rfl h
  · have h := hF q
    refine PW_iload_n zd_B_near_22 rfl ?_
    refine PW_aload_n zd_B_near_23 rfl ?_
    refine PW_getI zd_B_near_24 zf_B_73 (zs_0 _) rfl ?_
    obtain ⟨h0, h⟩ := h
    refine PW_ixor zd_B_near_27 h0 ?_
    refine PW_callS1i zd_B_near_28 zl_B_130 zk_JI_bitCount zv_JI_bitCount (fr' := 0) (by decide) (Nat.le_of_ble_eq_true rfl) ?_
    refine ms_mono h ?_
    rintro v σ1 ⟨z, rfl, h⟩
    refine ⟨z, rfl, ?_⟩
    refine PW_istore zd_B_near_31 rfl (by decide) (ls2 := [_, _, _, _, _]) rfl ?_
    refine PW_iload zd_B_near_33 rfl ?_
    refine PW_iload_n zd_B_near_35 rfl ?_
    obtain ⟨h0, hT, hF⟩ := h
    refine PW_icmp_ge zd_B_near_36 h0 (fun q => ?_) (fun q => ?_)
    · have h := hT q
      exact PW_sub (by exact ⟨rfl, rfl, rfl, rfl, trivial⟩) (kb_B_near_86 hrT hK14 h)
    · have h := hF q
      refine PW_aload_n zd_B_near_39 rfl ?_
      refine PW_getR zd_B_near_40 zf_B_30 (zs_0 _) rfl ?_
      refine PW_aload_n zd_B_near_43 rfl ?_
      obtain ⟨h0, h⟩ := h
      refine PW_getD zd_B_near_44 zf_B_23 (zs_0 _) rfl h0 ?_
      refine PW_aload_n zd_B_near_47 rfl ?_
      refine PW_getI zd_B_near_48 zf_B_70 (zs_0 _) rfl ?_
      refine PW_iload_n zd_B_near_51 rfl ?_
      refine PW_callV3v zd_B_near_52 zl_B_170 zk_C_walk zv_C_walk (fr' := 6) (by decide) (zs_14 _) rfl rfl (Nat.le_of_ble_eq_true rfl) ?_
      refine ms_mono h ?_
      rintro v σ1 ⟨rfl, h⟩
      refine ⟨rfl, ?_⟩
      refine PW_aload_n zd_B_near_55 rfl ?_
      refine PW_getR zd_B_near_56 zf_B_30 (zs_0 _) rfl ?_
      refine PW_callV0i zd_B_near_59 zl_B_177 zk_C_roundLength zv_C_roundLength (fr' := 0) (by decide) (zs_14 _) rfl rfl (Nat.le_of_ble_eq_true rfl) ?_
      refine ms_mono h ?_
      rintro v σ1 ⟨z, rfl, h⟩
      refine ⟨z, rfl, ?_⟩
      refine PW_iconst zd_B_near_62 ?_
      obtain ⟨h0, hT, hF⟩ := h
      refine PW_icmp_ne zd_B_near_63 ⟨h0, by decide⟩ (fun q => ?_) (fun q => ?_)
      · have h := hT q
        exact PW_sub (by exact ⟨rfl, rfl, rfl, rfl, trivial⟩) (kb_B_near_86 hrT hK14 h)
      · have h := hF q
        refine PW_aload_n zd_B_near_66 rfl ?_
        refine PW_aload_n zd_B_near_67 rfl ?_
        refine PW_getR zd_B_near_68 zf_B_30 (zs_0 _) rfl ?_
        refine PW_iconst zd_B_near_71 ?_
        refine PW_callV1i zd_B_near_72 zl_B_227 zk_C_eyesOfRound zv_C_eyesOfRound (fr' := 0) (by decide) (zs_14 _) rfl rfl (Nat.le_of_ble_eq_true rfl) ?_
        refine ms_mono h ?_
        rintro v σ1 ⟨z, rfl, h⟩
        refine ⟨z, rfl, ?_⟩
        refine PW_callV1i zd_B_near_75 zl_B_224 zk_B_isAsWished zv_B_isAsWished (fr' := 0) (by decide) (zs_0 _) rfl rfl (Nat.le_of_ble_eq_true rfl) ?_
        refine ms_mono h ?_
        rintro v σ1 (⟨rfl, h⟩ | ⟨rfl, h⟩)
        · refine ⟨0, rfl, ?_⟩
          refine PW_if_eq zd_B_near_78 (by decide) (fun _ => ?_) (fun q => absurd rfl q)
          exact PW_sub (by exact ⟨rfl, rfl, rfl, rfl, trivial⟩) (kb_B_near_86 hrT hK14 h)
        · refine ⟨1, rfl, ?_⟩
          refine PW_if_eq zd_B_near_78 (by decide) (fun q => absurd q (by decide)) (fun _ => ?_)
          refine PW_iload_n zd_B_near_81 rfl ?_
          refine PW_istore_n zd_B_near_82 rfl (by decide) (ls2 := [_, _, _, _, _]) rfl ?_
          refine PW_iload zd_B_near_83 rfl ?_
          refine PW_istore_n zd_B_near_85 rfl (by decide) (ls2 := [_, _, _, _, _]) rfl ?_
          exact PW_sub (by exact ⟨rfl, rfl, rfl, rfl, trivial⟩) (kb_B_near_86 hrT hK14 h)
theorem kl_B_near_14 {G : zG} {rT : Nat} {X : zX} (hrT : zisT rT) {x1 x2 x3 : Int} {σ : zPH} (h : zLP3 (b_B_near_14 G rT X ) x1 x2 x3 σ) : PW G zm_B_near 7 X 14 [some (zr G 0), some (iZ x1), some (iZ x2), some (iZ x3), none] [] σ := by
  obtain ⟨n, h⟩ := h
  induction n generalizing x1 x2 x3 σ with
  | zero => exact h.elim
  | succ n ih => exact kb_B_near_14 hrT  (fun _ _ _ _ h => ih h) h
def w_B_near (G : zG) (rT : Nat) (X : zX) (σ : zPH) : Prop :=
  MS G zm_C_forget 1 [zr G 14] σ (fun v σ4 =>
    v = none ∧
    zLP3 (b_B_near_14 G rT X ) (-1) 7 0 σ4)
set_option maxHeartbeats 4000000 in
theorem k_B_near {G : zG} {rT : Nat} {X : zX} (hrT : zisT rT) {σ : zPH} (h : w_B_near G rT X σ) : MS G zm_B_near 7 [zr G 0] σ X := by
  refine ms_of zk_B_near (Nat.le_of_ble_eq_true rfl) (ls := [some (zr G 0), none, none, none, none]) rfl ?_
  unfold w_B_near at h
  refine PW_aload_n zd_B_near_0 rfl ?_
  refine PW_getR zd_B_near_1 zf_B_30 (zs_0 _) rfl ?_
  refine PW_callV0v zd_B_near_4 zl_B_163 zk_C_forget zv_C_forget (fr' := 1) (by decide) (zs_14 _) rfl rfl (Nat.le_of_ble_eq_true rfl) ?_
  refine ms_mono h ?_
  rintro v σ1 ⟨rfl, h⟩
  refine ⟨rfl, ?_⟩
  refine PW_iconst zd_B_near_7 ?_
  refine PW_istore_n zd_B_near_8 rfl (by decide) (ls2 := [_, _, _, _, _]) rfl ?_
  refine PW_bipush zd_B_near_9 rfl ?_
  refine PW_istore_n zd_B_near_11 rfl (by decide) (ls2 := [_, _, _, _, _]) rfl ?_
  refine PW_iconst zd_B_near_12 ?_
  refine PW_istore_n zd_B_near_13 rfl (by decide) (ls2 := [_, _, _, _, _]) rfl ?_
  exact PW_sub (by exact ⟨rfl, rfl, rfl, rfl, trivial⟩) (kl_B_near_14 hrT  h)
def b_B_tint_116 (G : zG) (rT : Nat) (column row : Int) (X : zX) (x4 x5 x6 : Int) (σ : zPH) : Prop :=
  σ 0 3 = ((rT : Nat) : Int) ∧
  (0 ≤ x4 ∧ x4 < 60) ∧
  ∀ σ127 : zPH, σ127 = zupd σ (rT + 6) x4.toNat x5 →
  X (some (iZ x6)) σ127
set_option maxHeartbeats 4000000 in
theorem kb_B_tint_116 {G : zG} {rT : Nat} {column row : Int} {X : zX} (hrT : zisT rT) {x4 x5 x6 : Int} {σ : zPH} (h : b_B_tint_116 G rT column row X  x4 x5 x6 σ) : PW G zm_B_tint 7 X 116 [some (zr G 0), none, none, none, some (iZ x4), some (iZ x5), some (iZ x6), none] [] σ := by
  unfold b_B_tint_116 at h
  refine PW_aload_n zd_B_tint_116 rfl ?_
  obtain ⟨h0, h⟩ := h
  refine PW_getD zd_B_tint_117 zf_B_23 (zs_0 _) rfl h0 ?_
  refine PW_getR zd_B_tint_120 zf_B_231 (zsT_0 hrT) rfl ?_
  refine PW_iload zd_B_tint_123 rfl ?_
  refine PW_iload zd_B_tint_125 rfl ?_
  obtain ⟨h0, h⟩ := h
  refine PW_iastore zd_B_tint_127 (zsT_6 hrT) h0 ?_
  have h := h _ rfl
  refine PW_iload zd_B_tint_128 rfl ?_
  exact PW_iret zd_B_tint_130 rfl h
def b_B_tint_110 (G : zG) (rT : Nat) (column row : Int) (X : zX) (K70 : Int → Int → Int → Int → zPH → Prop) (x4 x5 x6 x7 : Int) (σ : zPH) : Prop :=
  K70 x4 x5 x6 (x7 + 1) σ
set_option maxHeartbeats 4000000 in
theorem kb_B_tint_110 {G : zG} {rT : Nat} {column row : Int} {X : zX} {K70 : Int → Int → Int → Int → zPH → Prop} (hrT : zisT rT) (hK70 : ∀ (y0 y1 y2 y3 : Int) (σ : zPH), K70 y0 y1 y2 y3 σ → PW G zm_B_tint 7 X 70 [some (zr G 0), none, none, none, some (iZ y0), some (iZ y1), some (iZ y2), some (iZ y3)] [] σ) {x4 x5 x6 x7 : Int} {σ : zPH} (h : b_B_tint_110 G rT column row X K70 x4 x5 x6 x7 σ) : PW G zm_B_tint 7 X 110 [some (zr G 0), none, none, none, some (iZ x4), some (iZ x5), some (iZ x6), some (iZ x7)] [] σ := by
  unfold b_B_tint_110 at h
  refine PW_iinc zd_B_tint_110 rfl rfl (by decide) (ls2 := [_, _, _, _, _, _, _, _]) rfl ?_
  refine PW_goto zd_B_tint_113 ?_
  exact PW_sub (by exact ⟨rfl, rfl, rfl, rfl, rfl, trivial⟩) (hK70 _ _ _ _ _ h)
def b_B_tint_70 (G : zG) (rT : Nat) (column row : Int) (X : zX) (K70 : Int → Int → Int → Int → zPH → Prop) (x4 x5 x6 x7 : Int) (σ : zPH) : Prop :=
  (zI x7) ∧
  (7 < x7 →
    b_B_tint_116 G rT column row X  x4 x5 x6 σ) ∧
  (x7 ≤ 7 →
    (zI x6) ∧
    (x6 ≠ (-1) →
      b_B_tint_116 G rT column row X  x4 x5 x6 σ) ∧
    (x6 = (-1) →
      σ 0 3 = ((rT : Nat) : Int) ∧
      (0 ≤ x4 ∧ x4 < 60) ∧
      ∀ σ94 : zPH, σ94 = zupd σ (rT + 6) x4.toNat x7 →
      MS G zm_B_areMet 6 [zr G 0, iZ (σ94 0 7)] σ94 (fun v σ100 =>
        (v = some (iZ 0) ∧
          b_B_tint_110 G rT column row X K70 x4 x5 x6 x7 σ100) ∨
        (v = some (iZ 1) ∧
          b_B_tint_110 G rT column row X K70 x4 x5 x7 x7 σ100))))
set_option maxHeartbeats 4000000 in
theorem kb_B_tint_70 {G : zG} {rT : Nat} {column row : Int} {X : zX} {K70 : Int → Int → Int → Int → zPH → Prop} (hrT : zisT rT) (hK70 : ∀ (y0 y1 y2 y3 : Int) (σ : zPH), K70 y0 y1 y2 y3 σ → PW G zm_B_tint 7 X 70 [some (zr G 0), none, none, none, some (iZ y0), some (iZ y1), some (iZ y2), some (iZ y3)] [] σ) {x4 x5 x6 x7 : Int} {σ : zPH} (h : b_B_tint_70 G rT column row X K70 x4 x5 x6 x7 σ) : PW G zm_B_tint 7 X 70 [some (zr G 0), none, none, none, some (iZ x4), some (iZ x5), some (iZ x6), some (iZ x7)] [] σ := by
  unfold b_B_tint_70 at h
  refine PW_iload zd_B_tint_70 rfl ?_
  refine PW_bipush zd_B_tint_72 rfl ?_
  obtain ⟨h0, hT, hF⟩ := h
  refine PW_icmp_gt zd_B_tint_74 ⟨h0, by decide⟩ (fun q => ?_) (fun q => ?_)
  · have h := hT q
    exact PW_sub (by exact ⟨rfl, rfl, rfl, rfl, trivial⟩) (kb_B_tint_116 hrT  h)
  · have h := hF q
    refine PW_iload zd_B_tint_77 rfl ?_
    refine PW_iconst zd_B_tint_79 ?_
    obtain ⟨h0, hT, hF⟩ := h
    refine PW_icmp_ne zd_B_tint_80 ⟨h0, by decide⟩ (fun q => ?_) (fun q => ?_)
    · have h := hT q
      exact PW_sub (by exact ⟨rfl, rfl, rfl, rfl, trivial⟩) (kb_B_tint_116 hrT  h)
    · have h := hF q
      refine PW_aload_n zd_B_tint_83 rfl ?_
      obtain ⟨h0, h⟩ := h
      refine PW_getD zd_B_tint_84 zf_B_23 (zs_0 _) rfl h0 ?_
      refine PW_getR zd_B_tint_87 zf_B_231 (zsT_0 hrT) rfl ?_
      refine PW_iload zd_B_tint_90 rfl ?_
      refine PW_iload zd_B_tint_92 rfl ?_
      obtain ⟨h0, h⟩ := h
      refine PW_iastore zd_B_tint_94 (zsT_6 hrT) h0 ?_
      have h := h _ rfl
      refine PW_aload_n zd_B_tint_95 rfl ?_
      refine PW_aload_n zd_B_tint_96 rfl ?_
      refine PW_getI zd_B_tint_97 zf_B_70 (zs_0 _) rfl ?_
      refine PW_callV1i zd_B_tint_100 zl_B_192 zk_B_areMet zv_B_areMet (fr' := 6) (by decide) (zs_0 _) rfl rfl (Nat.le_of_ble_eq_true rfl) ?_
      refine ms_mono h ?_
      rintro v σ1 (⟨rfl, h⟩ | ⟨rfl, h⟩)
      · refine ⟨0, rfl, ?_⟩
        refine PW_if_eq zd_B_tint_103 (by decide) (fun _ => ?_) (fun q => absurd rfl q)
        exact PW_sub (by exact ⟨rfl, rfl, rfl, rfl, rfl, trivial⟩) (kb_B_tint_110 hrT hK70 h)
      · refine ⟨1, rfl, ?_⟩
        refine PW_if_eq zd_B_tint_103 (by decide) (fun q => absurd q (by decide)) (fun _ => ?_)
        refine PW_iload zd_B_tint_106 rfl ?_
        refine PW_istore zd_B_tint_108 rfl (by decide) (ls2 := [_, _, _, _, _, _, _, _]) rfl ?_
        exact PW_sub (by exact ⟨rfl, rfl, rfl, rfl, rfl, trivial⟩) (kb_B_tint_110 hrT hK70 h)
theorem kl_B_tint_70 {G : zG} {rT : Nat} {column row : Int} {X : zX} (hrT : zisT rT) {x4 x5 x6 x7 : Int} {σ : zPH} (h : zLP4 (b_B_tint_70 G rT column row X ) x4 x5 x6 x7 σ) : PW G zm_B_tint 7 X 70 [some (zr G 0), none, none, none, some (iZ x4), some (iZ x5), some (iZ x6), some (iZ x7)] [] σ := by
  obtain ⟨n, h⟩ := h
  induction n generalizing x4 x5 x6 x7 σ with
  | zero => exact h.elim
  | succ n ih => exact kb_B_tint_70 hrT  (fun _ _ _ _ _ h => ih h) h
def b_B_tint_28 (G : zG) (rT : Nat) (column row : Int) (X : zX) (s0 : Int) (σ : zPH) : Prop :=
  (zI s0) ∧
  (s0 = (-1) →
    X (some (iZ (-1))) σ) ∧
  (s0 ≠ (-1) →
    σ 0 3 = ((rT : Nat) : Int) ∧
    (0 ≤ s0 ∧ s0 < 60) ∧
    (zI (σ (rT + 4) s0.toNat)) ∧
    ((σ (rT + 4) s0.toNat) = 4 →
      σ 0 3 = ((rT : Nat) : Int) ∧
      (0 ≤ s0 ∧ s0 < 60) ∧
      ∀ x5 : Int, x5 = (σ (rT + 6) s0.toNat) →
      zLP4 (b_B_tint_70 G rT column row X ) s0 x5 (-1) 0 σ) ∧
    ((σ (rT + 4) s0.toNat) ≠ 4 →
      X (some (iZ (-1))) σ))
set_option maxHeartbeats 4000000 in
theorem kb_B_tint_28 {G : zG} {rT : Nat} {column row : Int} {X : zX} (hrT : zisT rT) {s0 : Int} {σ : zPH} (h : b_B_tint_28 G rT column row X  s0 σ) : PW G zm_B_tint 7 X 28 [some (zr G 0), none, none, none, none, none, none, none] [iZ s0] σ := by
  unfold b_B_tint_28 at h
  refine PW_istore zd_B_tint_28 rfl (by decide) (ls2 := [_, _, _, _, _, _, _, _]) rfl ?_
  refine PW_iload zd_B_tint_30 rfl ?_
  refine PW_iconst zd_B_tint_32 ?_
  obtain ⟨h0, hT, hF⟩ := h
  refine PW_icmp_eq zd_B_tint_33 ⟨h0, by decide⟩ (fun q => ?_) (fun q => ?_)
  · have h := hT q
    refine PW_iconst zd_B_tint_50 ?_
    exact PW_iret zd_B_tint_51 rfl h
  · have h := hF q
    refine PW_aload_n zd_B_tint_36 rfl ?_
    obtain ⟨h0, h⟩ := h
    refine PW_getD zd_B_tint_37 zf_B_23 (zs_0 _) rfl h0 ?_
    refine PW_getR zd_B_tint_40 zf_B_116 (zsT_0 hrT) rfl ?_
    refine PW_iload zd_B_tint_43 rfl ?_
    obtain ⟨h0, h⟩ := h
    refine PW_iaload zd_B_tint_45 (zsT_4 hrT) h0 ?_
    refine PW_iconst zd_B_tint_46 ?_
    obtain ⟨h0, hT, hF⟩ := h
    refine PW_icmp_eq zd_B_tint_47 ⟨h0, by decide⟩ (fun q => ?_) (fun q => ?_)
    · have h := hT q
      refine PW_aload_n zd_B_tint_52 rfl ?_
      obtain ⟨h0, h⟩ := h
      refine PW_getD zd_B_tint_53 zf_B_23 (zs_0 _) rfl h0 ?_
      refine PW_getR zd_B_tint_56 zf_B_231 (zsT_0 hrT) rfl ?_
      refine PW_iload zd_B_tint_59 rfl ?_
      obtain ⟨h0, h⟩ := h
      refine PW_iaload zd_B_tint_61 (zsT_6 hrT) h0 ?_
      refine PW_istore zd_B_tint_62 rfl (by decide) (ls2 := [_, _, _, _, _, _, _, _]) rfl ?_
      have h := h _ rfl
      refine PW_iconst zd_B_tint_64 ?_
      refine PW_istore zd_B_tint_65 rfl (by decide) (ls2 := [_, _, _, _, _, _, _, _]) rfl ?_
      refine PW_iconst zd_B_tint_67 ?_
      refine PW_istore zd_B_tint_68 rfl (by decide) (ls2 := [_, _, _, _, _, _, _, _]) rfl ?_
      exact PW_sub (by exact ⟨rfl, rfl, rfl, rfl, rfl, trivial⟩) (kl_B_tint_70 hrT  h)
    · have h := hF q
      refine PW_iconst zd_B_tint_50 ?_
      exact PW_iret zd_B_tint_51 rfl h
def w_B_tint (G : zG) (rT : Nat) (column row : Int) (X : zX) (σ : zPH) : Prop :=
  σ 0 3 = ((rT : Nat) : Int) ∧
  MS G zm_T_squareAt 0 [zr G rT, iZ column, iZ row] σ (fun v σ6 =>
    ∃ z6 : Int, v = some (iZ z6) ∧
    (zI z6) ∧
    (z6 ≠ (-1) →
      σ6 0 3 = ((rT : Nat) : Int) ∧
      (0 ≤ z6 ∧ z6 < 144) ∧
      b_B_tint_28 G rT column row X  (σ6 (rT + 2) z6.toNat) σ6) ∧
    (z6 = (-1) →
      b_B_tint_28 G rT column row X  (-1) σ6))
set_option maxHeartbeats 4000000 in
theorem k_B_tint {G : zG} {rT : Nat} {column row : Int} {X : zX} (hrT : zisT rT) {σ : zPH} (h : w_B_tint G rT column row X σ) : MS G zm_B_tint 7 [zr G 0, iZ column, iZ row] σ X := by
  refine ms_of zk_B_tint (Nat.le_of_ble_eq_true rfl) (ls := [some (zr G 0), some (iZ column), some (iZ row), none, none, none, none, none]) rfl ?_
  unfold w_B_tint at h
  refine PW_aload_n zd_B_tint_0 rfl ?_
  obtain ⟨h0, h⟩ := h
  refine PW_getD zd_B_tint_1 zf_B_23 (zs_0 _) rfl h0 ?_
  refine PW_iload_n zd_B_tint_4 rfl ?_
  refine PW_iload_n zd_B_tint_5 rfl ?_
  refine PW_callV2i zd_B_tint_6 zl_B_110 zk_T_squareAt zv_T_squareAt (fr' := 0) (by decide) (zsT_0 hrT) rfl rfl (Nat.le_of_ble_eq_true rfl) ?_
  refine ms_mono h ?_
  rintro v σ1 ⟨z, rfl, h⟩
  refine ⟨z, rfl, ?_⟩
  refine PW_istore_n zd_B_tint_9 rfl (by decide) (ls2 := [_, _, _, _, _, _, _, _]) rfl ?_
  refine PW_iload_n zd_B_tint_10 rfl ?_
  refine PW_iconst zd_B_tint_11 ?_
  obtain ⟨h0, hT, hF⟩ := h
  refine PW_icmp_ne zd_B_tint_12 ⟨h0, by decide⟩ (fun q => ?_) (fun q => ?_)
  · have h := hT q
    refine PW_aload_n zd_B_tint_19 rfl ?_
    obtain ⟨h0, h⟩ := h
    refine PW_getD zd_B_tint_20 zf_B_23 (zs_0 _) rfl h0 ?_
    refine PW_getR zd_B_tint_23 zf_B_113 (zsT_0 hrT) rfl ?_
    refine PW_iload_n zd_B_tint_26 rfl ?_
    obtain ⟨h0, h⟩ := h
    refine PW_iaload zd_B_tint_27 (zsT_2 hrT) h0 ?_
    exact PW_sub (by exact ⟨rfl, trivial⟩) (kb_B_tint_28 hrT  h)
  · have h := hF q
    refine PW_iconst zd_B_tint_15 ?_
    refine PW_goto zd_B_tint_16 ?_
    exact PW_sub (by exact ⟨rfl, trivial⟩) (kb_B_tint_28 hrT  h)
def w_B_swapped (G : zG) (rT : Nat) (column row otherColumn otherRow : Int) (X : zX) (σ : zPH) : Prop :=
  σ 0 3 = ((rT : Nat) : Int) ∧
  MS G zm_T_squareAt 0 [zr G rT, iZ column, iZ row] σ (fun v σ6 =>
    ∃ z6 : Int, v = some (iZ z6) ∧
    σ6 0 3 = ((rT : Nat) : Int) ∧
    MS G zm_T_squareAt 0 [zr G rT, iZ otherColumn, iZ otherRow] σ6 (fun v σ18 =>
      ∃ z18 : Int, v = some (iZ z18) ∧
      (zI z6) ∧
      (z6 = (-1) →
        X (some (iZ (-1))) σ18) ∧
      (z6 ≠ (-1) →
        (zI z18) ∧
        (z18 = (-1) →
          X (some (iZ (-1))) σ18) ∧
        (z18 ≠ (-1) →
          (zI z6 ∧ zI z18) ∧
          (z6 ≠ z18 →
            σ18 0 3 = ((rT : Nat) : Int) ∧
            (0 ≤ z6 ∧ z6 < 144) ∧
            ∀ x7 : Int, x7 = (σ18 (rT + 2) z6.toNat) →
            σ18 0 3 = ((rT : Nat) : Int) ∧
            (0 ≤ z18 ∧ z18 < 144) ∧
            ∀ x8 : Int, x8 = (σ18 (rT + 2) z18.toNat) →
            σ18 0 3 = ((rT : Nat) : Int) ∧
            MS G zm_T_put 0 [zr G rT, iZ x8, iZ z6] σ18 (fun v σ76 =>
              v = none ∧
              σ76 0 3 = ((rT : Nat) : Int) ∧
              MS G zm_T_put 0 [zr G rT, iZ x7, iZ z18] σ76 (fun v σ87 =>
                v = none ∧
                MS G zm_B_areMet 6 [zr G 0, iZ (σ87 0 7)] σ87 (fun v σ95 =>
                  ∃ z95 : Int, (z95 = 0 ∨ z95 = 1) ∧ v = some (iZ z95) ∧
                  σ95 0 3 = ((rT : Nat) : Int) ∧
                  MS G zm_T_put 0 [zr G rT, iZ x7, iZ z6] σ95 (fun v σ108 =>
                    v = none ∧
                    σ108 0 3 = ((rT : Nat) : Int) ∧
                    MS G zm_T_put 0 [zr G rT, iZ x8, iZ z18] σ108 (fun v σ119 =>
                      v = none ∧
                      (zI z95) ∧
                      (z95 = 0 →
                        X (some (iZ 0)) σ119) ∧
                      (z95 ≠ 0 →
                        X (some (iZ 1)) σ119))))))) ∧
          (z6 = z18 →
            X (some (iZ (-1))) σ18)))))
set_option maxHeartbeats 4000000 in
theorem k_B_swapped {G : zG} {rT : Nat} {column row otherColumn otherRow : Int} {X : zX} (hrT : zisT rT) {σ : zPH} (h : w_B_swapped G rT column row otherColumn otherRow X σ) : MS G zm_B_swapped 7 [zr G 0, iZ column, iZ row, iZ otherColumn, iZ otherRow] σ X := by
  refine ms_of zk_B_swapped (Nat.le_of_ble_eq_true rfl) (ls := [some (zr G 0), some (iZ column), some (iZ row), some (iZ otherColumn), some (iZ otherRow), none, none, none, none, none]) rfl ?_
  unfold w_B_swapped at h
  refine PW_aload_n zd_B_swapped_0 rfl ?_
  obtain ⟨h0, h⟩ := h
  refine PW_getD zd_B_swapped_1 zf_B_23 (zs_0 _) rfl h0 ?_
  refine PW_iload_n zd_B_swapped_4 rfl ?_
  refine PW_iload_n zd_B_swapped_5 rfl ?_
  refine PW_callV2i zd_B_swapped_6 zl_B_110 zk_T_squareAt zv_T_squareAt (fr' := 0) (by decide) (zsT_0 hrT) rfl rfl (Nat.le_of_ble_eq_true rfl) ?_
  refine ms_mono h ?_
  rintro v σ1 ⟨z, rfl, h⟩
  refine ⟨z, rfl, ?_⟩
  refine PW_istore zd_B_swapped_9 rfl (by decide) (ls2 := [_, _, _, _, _, _, _, _, _, _]) rfl ?_
  refine PW_aload_n zd_B_swapped_11 rfl ?_
  obtain ⟨h0, h⟩ := h
  refine PW_getD zd_B_swapped_12 zf_B_23 (zs_0 _) rfl h0 ?_
  refine PW_iload_n zd_B_swapped_15 rfl ?_
  refine PW_iload zd_B_swapped_16 rfl ?_
  refine PW_callV2i zd_B_swapped_18 zl_B_110 zk_T_squareAt zv_T_squareAt (fr' := 0) (by decide) (zsT_0 hrT) rfl rfl (Nat.le_of_ble_eq_true rfl) ?_
  refine ms_mono h ?_
  rintro v σ1 ⟨z, rfl, h⟩
  refine ⟨z, rfl, ?_⟩
  refine PW_istore zd_B_swapped_21 rfl (by decide) (ls2 := [_, _, _, _, _, _, _, _, _, _]) rfl ?_
  refine PW_iload zd_B_swapped_23 rfl ?_
  refine PW_iconst zd_B_swapped_25 ?_
  obtain ⟨h0, hT, hF⟩ := h
  refine PW_icmp_eq zd_B_swapped_26 ⟨h0, by decide⟩ (fun q => ?_) (fun q => ?_)
  · have h := hT q
    refine PW_iconst zd_B_swapped_42 ?_
    exact PW_iret zd_B_swapped_43 rfl h
  · have h := hF q
    refine PW_iload zd_B_swapped_29 rfl ?_
    refine PW_iconst zd_B_swapped_31 ?_
    obtain ⟨h0, hT, hF⟩ := h
    refine PW_icmp_eq zd_B_swapped_32 ⟨h0, by decide⟩ (fun q => ?_) (fun q => ?_)
    · have h := hT q
      refine PW_iconst zd_B_swapped_42 ?_
      exact PW_iret zd_B_swapped_43 rfl h
    · have h := hF q
      refine PW_iload zd_B_swapped_35 rfl ?_
      refine PW_iload zd_B_swapped_37 rfl ?_
      obtain ⟨h0, hT, hF⟩ := h
      refine PW_icmp_ne zd_B_swapped_39 h0 (fun q => ?_) (fun q => ?_)
      · have h := hT q
        refine PW_aload_n zd_B_swapped_44 rfl ?_
        obtain ⟨h0, h⟩ := h
        refine PW_getD zd_B_swapped_45 zf_B_23 (zs_0 _) rfl h0 ?_
        refine PW_getR zd_B_swapped_48 zf_B_113 (zsT_0 hrT) rfl ?_
        refine PW_iload zd_B_swapped_51 rfl ?_
        obtain ⟨h0, h⟩ := h
        refine PW_iaload zd_B_swapped_53 (zsT_2 hrT) h0 ?_
        refine PW_istore zd_B_swapped_54 rfl (by decide) (ls2 := [_, _, _, _, _, _, _, _, _, _]) rfl ?_
        have h := h _ rfl
        refine PW_aload_n zd_B_swapped_56 rfl ?_
        obtain ⟨h0, h⟩ := h
        refine PW_getD zd_B_swapped_57 zf_B_23 (zs_0 _) rfl h0 ?_
        refine PW_getR zd_B_swapped_60 zf_B_113 (zsT_0 hrT) rfl ?_
        refine PW_iload zd_B_swapped_63 rfl ?_
        obtain ⟨h0, h⟩ := h
        refine PW_iaload zd_B_swapped_65 (zsT_2 hrT) h0 ?_
        refine PW_istore zd_B_swapped_66 rfl (by decide) (ls2 := [_, _, _, _, _, _, _, _, _, _]) rfl ?_
        have h := h _ rfl
        refine PW_aload_n zd_B_swapped_68 rfl ?_
        obtain ⟨h0, h⟩ := h
        refine PW_getD zd_B_swapped_69 zf_B_23 (zs_0 _) rfl h0 ?_
        refine PW_iload zd_B_swapped_72 rfl ?_
        refine PW_iload zd_B_swapped_74 rfl ?_
        refine PW_callV2v zd_B_swapped_76 zl_B_198 zk_T_put zv_T_put (fr' := 0) (by decide) (zsT_0 hrT) rfl rfl (Nat.le_of_ble_eq_true rfl) ?_
        refine ms_mono h ?_
        rintro v σ1 ⟨rfl, h⟩
        refine ⟨rfl, ?_⟩
        refine PW_aload_n zd_B_swapped_79 rfl ?_
        obtain ⟨h0, h⟩ := h
        refine PW_getD zd_B_swapped_80 zf_B_23 (zs_0 _) rfl h0 ?_
        refine PW_iload zd_B_swapped_83 rfl ?_
        refine PW_iload zd_B_swapped_85 rfl ?_
        refine PW_callV2v zd_B_swapped_87 zl_B_198 zk_T_put zv_T_put (fr' := 0) (by decide) (zsT_0 hrT) rfl rfl (Nat.le_of_ble_eq_true rfl) ?_
        refine ms_mono h ?_
        rintro v σ1 ⟨rfl, h⟩
        refine ⟨rfl, ?_⟩
        refine PW_aload_n zd_B_swapped_90 rfl ?_
        refine PW_aload_n zd_B_swapped_91 rfl ?_
        refine PW_getI zd_B_swapped_92 zf_B_70 (zs_0 _) rfl ?_
        refine PW_callV1i zd_B_swapped_95 zl_B_192 zk_B_areMet zv_B_areMet (fr' := 6) (by decide) (zs_0 _) rfl rfl (Nat.le_of_ble_eq_true rfl) ?_
        refine ms_mono h ?_
        rintro v σ1 ⟨z, hz, rfl, h⟩
        refine ⟨z, rfl, ?_⟩
        refine PW_istore zd_B_swapped_98 rfl (by decide) (ls2 := [_, _, _, _, _, _, _, _, _, _]) rfl ?_
        refine PW_aload_n zd_B_swapped_100 rfl ?_
        obtain ⟨h0, h⟩ := h
        refine PW_getD zd_B_swapped_101 zf_B_23 (zs_0 _) rfl h0 ?_
        refine PW_iload zd_B_swapped_104 rfl ?_
        refine PW_iload zd_B_swapped_106 rfl ?_
        refine PW_callV2v zd_B_swapped_108 zl_B_198 zk_T_put zv_T_put (fr' := 0) (by decide) (zsT_0 hrT) rfl rfl (Nat.le_of_ble_eq_true rfl) ?_
        refine ms_mono h ?_
        rintro v σ1 ⟨rfl, h⟩
        refine ⟨rfl, ?_⟩
        refine PW_aload_n zd_B_swapped_111 rfl ?_
        obtain ⟨h0, h⟩ := h
        refine PW_getD zd_B_swapped_112 zf_B_23 (zs_0 _) rfl h0 ?_
        refine PW_iload zd_B_swapped_115 rfl ?_
        refine PW_iload zd_B_swapped_117 rfl ?_
        refine PW_callV2v zd_B_swapped_119 zl_B_198 zk_T_put zv_T_put (fr' := 0) (by decide) (zsT_0 hrT) rfl rfl (Nat.le_of_ble_eq_true rfl) ?_
        refine ms_mono h ?_
        rintro v σ1 ⟨rfl, h⟩
        refine ⟨rfl, ?_⟩
        refine PW_iload zd_B_swapped_122 rfl ?_
        obtain ⟨h0, hT, hF⟩ := h
        refine PW_if_eq zd_B_swapped_124 h0 (fun q => ?_) (fun q => ?_)
        · have h := hT q
          refine PW_iconst zd_B_swapped_131 ?_
          exact PW_iret zd_B_swapped_132 rfl h
        · have h := hF q
          refine PW_iconst zd_B_swapped_127 ?_
          refine PW_goto zd_B_swapped_128 ?_
          exact PW_iret zd_B_swapped_132 rfl h
      · have h := hF q
        refine PW_iconst zd_B_swapped_42 ?_
        exact PW_iret zd_B_swapped_43 rfl h
def w_B_reach (G : zG) (rT : Nat) (lamp eye0 colour : Int) (X : zX) (σ : zPH) : Prop :=
  MS G zm_B_isNumber 0 [zr G 0, iZ lamp, iZ 0] σ (fun v σ3 =>
    (v = some (iZ 0) ∧
      X (some (iZ (-1))) σ3) ∨
    (v = some (iZ 1) ∧
      MS G zm_B_isNumber 0 [zr G 0, iZ eye0, iZ 3] σ3 (fun v σ12 =>
        (v = some (iZ 0) ∧
          X (some (iZ (-1))) σ12) ∨
        (v = some (iZ 1) ∧
          MS G zm_B_isOneColour 0 [iZ colour] σ12 (fun v σ19 =>
            (v = some (iZ 0) ∧
              X (some (iZ (-1))) σ19) ∨
            (v = some (iZ 1) ∧
              (0 ≤ lamp ∧ lamp < 32) ∧
              MS G zm_B_lightOf 4 [zr G 0, iZ ((1 : Int) * 2 ^ lamp.toNat), iZ colour] σ19 (fun v σ32 =>
                v = some (zr G 19) ∧
                σ32 0 3 = ((rT : Nat) : Int) ∧
                MS G zm_T_squareOf 1 [zr G rT, iZ 3, iZ eye0] σ32 (fun v σ41 =>
                  ∃ z41 : Int, v = some (iZ z41) ∧
                  MS G zm_L_leastTo 0 [zr G 19, iZ z41] σ41 (fun v σ44 =>
                    ∃ z44 : Int, v = some (iZ z44) ∧
                    X (some (iZ z44)) σ44)))))))))
set_option maxHeartbeats 4000000 in
theorem k_B_reach {G : zG} {rT : Nat} {lamp eye0 colour : Int} {X : zX} (hrT : zisT rT) {σ : zPH} (h : w_B_reach G rT lamp eye0 colour X σ) : MS G zm_B_reach 5 [zr G 0, iZ lamp, iZ eye0, iZ colour] σ X := by
  refine ms_of zk_B_reach (Nat.le_of_ble_eq_true rfl) (ls := [some (zr G 0), some (iZ lamp), some (iZ eye0), some (iZ colour)]) rfl ?_
  unfold w_B_reach at h
  refine PW_aload_n zd_B_reach_0 rfl ?_
  refine PW_iload_n zd_B_reach_1 rfl ?_
  refine PW_iconst zd_B_reach_2 ?_
  refine PW_callV2i zd_B_reach_3 zl_B_102 zk_B_isNumber zv_B_isNumber (fr' := 0) (by decide) (zs_0 _) rfl rfl (Nat.le_of_ble_eq_true rfl) ?_
  refine ms_mono h ?_
  rintro v σ1 (⟨rfl, h⟩ | ⟨rfl, h⟩)
  · refine ⟨0, rfl, ?_⟩
    refine PW_if_eq zd_B_reach_6 (by decide) (fun _ => ?_) (fun q => absurd rfl q)
    refine PW_iconst zd_B_reach_25 ?_
    exact PW_iret zd_B_reach_26 rfl h
  · refine ⟨1, rfl, ?_⟩
    refine PW_if_eq zd_B_reach_6 (by decide) (fun q => absurd q (by decide)) (fun _ => ?_)
    refine PW_aload_n zd_B_reach_9 rfl ?_
    refine PW_iload_n zd_B_reach_10 rfl ?_
    refine PW_iconst zd_B_reach_11 ?_
    refine PW_callV2i zd_B_reach_12 zl_B_102 zk_B_isNumber zv_B_isNumber (fr' := 0) (by decide) (zs_0 _) rfl rfl (Nat.le_of_ble_eq_true rfl) ?_
    refine ms_mono h ?_
    rintro v σ1 (⟨rfl, h⟩ | ⟨rfl, h⟩)
    · refine ⟨0, rfl, ?_⟩
      refine PW_if_eq zd_B_reach_15 (by decide) (fun _ => ?_) (fun q => absurd rfl q)
      refine PW_iconst zd_B_reach_25 ?_
      exact PW_iret zd_B_reach_26 rfl h
    · refine ⟨1, rfl, ?_⟩
      refine PW_if_eq zd_B_reach_15 (by decide) (fun q => absurd q (by decide)) (fun _ => ?_)
      refine PW_iload_n zd_B_reach_18 rfl ?_
      refine PW_callS1i zd_B_reach_19 zl_B_150 zk_B_isOneColour zv_B_isOneColour (fr' := 0) (by decide) (Nat.le_of_ble_eq_true rfl) ?_
      refine ms_mono h ?_
      rintro v σ1 (⟨rfl, h⟩ | ⟨rfl, h⟩)
      · refine ⟨0, rfl, ?_⟩
        refine PW_if_ne zd_B_reach_22 (by decide) (fun q => absurd rfl q) (fun _ => ?_)
        refine PW_iconst zd_B_reach_25 ?_
        exact PW_iret zd_B_reach_26 rfl h
      · refine ⟨1, rfl, ?_⟩
        refine PW_if_ne zd_B_reach_22 (by decide) (fun _ => ?_) (fun q => absurd q (by decide))
        refine PW_aload_n zd_B_reach_27 rfl ?_
        refine PW_iconst zd_B_reach_28 ?_
        refine PW_iload_n zd_B_reach_29 rfl ?_
        obtain ⟨h0, h⟩ := h
        refine PW_ishl zd_B_reach_30 h0 ?_
        refine PW_iload_n zd_B_reach_31 rfl ?_
        refine PW_callV2r zd_B_reach_32 zl_B_234 zk_B_lightOf zv_B_lightOf (fr' := 4) (by decide) (zs_0 _) rfl rfl (Nat.le_of_ble_eq_true rfl) ?_
        refine ms_mono h ?_
        rintro v σ1 ⟨rfl, h⟩
        refine ⟨_, rfl, ?_⟩
        refine PW_aload_n zd_B_reach_35 rfl ?_
        obtain ⟨h0, h⟩ := h
        refine PW_getD zd_B_reach_36 zf_B_23 (zs_0 _) rfl h0 ?_
        refine PW_iconst zd_B_reach_39 ?_
        refine PW_iload_n zd_B_reach_40 rfl ?_
        refine PW_callV2i zd_B_reach_41 zl_B_238 zk_T_squareOf zv_T_squareOf (fr' := 1) (by decide) (zsT_0 hrT) rfl rfl (Nat.le_of_ble_eq_true rfl) ?_
        refine ms_mono h ?_
        rintro v σ1 ⟨z, rfl, h⟩
        refine ⟨z, rfl, ?_⟩
        refine PW_callV1i zd_B_reach_44 zl_B_241 zk_L_leastTo zv_L_leastTo (fr' := 0) (by decide) (zs_19 _) rfl rfl (Nat.le_of_ble_eq_true rfl) ?_
        refine ms_mono h ?_
        rintro v σ1 ⟨z, rfl, h⟩
        refine ⟨z, rfl, ?_⟩
        exact PW_iret zd_B_reach_47 rfl h
def b_B_behind_51 (G : zG) (rT : Nat) (eye0 : Int) (X : zX) (K15 : Int → Int → zPH → Prop) (x2 x3 : Int) (σ : zPH) : Prop :=
  K15 x2 (x3 + 1) σ
set_option maxHeartbeats 4000000 in
theorem kb_B_behind_51 {G : zG} {rT : Nat} {eye0 : Int} {X : zX} {K15 : Int → Int → zPH → Prop} (hrT : zisT rT) (hK15 : ∀ (y0 y1 : Int) (σ : zPH), K15 y0 y1 σ → PW G zm_B_behind 5 X 15 [some (zr G 0), some (iZ eye0), some (iZ y0), some (iZ y1)] [] σ) {x2 x3 : Int} {σ : zPH} (h : b_B_behind_51 G rT eye0 X K15 x2 x3 σ) : PW G zm_B_behind 5 X 51 [some (zr G 0), some (iZ eye0), some (iZ x2), some (iZ x3)] [] σ := by
  unfold b_B_behind_51 at h
  refine PW_iinc zd_B_behind_51 rfl rfl (by decide) (ls2 := [_, _, _, _]) rfl ?_
  refine PW_goto zd_B_behind_54 ?_
  exact PW_sub (by exact ⟨rfl, rfl, rfl, rfl, trivial⟩) (hK15 _ _ _ h)
def b_B_behind_15 (G : zG) (rT : Nat) (eye0 : Int) (X : zX) (K15 : Int → Int → zPH → Prop) (x2 x3 : Int) (σ : zPH) : Prop :=
  σ 0 3 = ((rT : Nat) : Int) ∧
  (zI x3 ∧ zI (σ (rT + 8) 0)) ∧
  ((σ (rT + 8) 0) ≤ x3 →
    X (some (iZ x2)) σ) ∧
  (x3 < (σ (rT + 8) 0) →
    (0 ≤ x3 ∧ x3 < 32) ∧
    MS G zm_B_lightOf 4 [zr G 0, iZ ((1 : Int) * 2 ^ x3.toNat), iZ 7] σ (fun v σ34 =>
      v = some (zr G 19) ∧
      (0 ≤ eye0 ∧ eye0 < 8) ∧
      (zI (σ34 21 eye0.toNat)) ∧
      ((σ34 21 eye0.toNat) = 0 →
        b_B_behind_51 G rT eye0 X K15 x2 x3 σ34) ∧
      ((σ34 21 eye0.toNat) ≠ 0 →
        (0 ≤ x3 ∧ x3 < 32) ∧
        (0 ≤ x2 ∧ 0 ≤ ((1 : Int) * 2 ^ x3.toNat)) ∧
        ∀ x2_ : Int, x2_ = (zor x2 ((1 : Int) * 2 ^ x3.toNat)) →
        b_B_behind_51 G rT eye0 X K15 x2_ x3 σ34)))
set_option maxHeartbeats 4000000 in
theorem kb_B_behind_15 {G : zG} {rT : Nat} {eye0 : Int} {X : zX} {K15 : Int → Int → zPH → Prop} (hrT : zisT rT) (hK15 : ∀ (y0 y1 : Int) (σ : zPH), K15 y0 y1 σ → PW G zm_B_behind 5 X 15 [some (zr G 0), some (iZ eye0), some (iZ y0), some (iZ y1)] [] σ) {x2 x3 : Int} {σ : zPH} (h : b_B_behind_15 G rT eye0 X K15 x2 x3 σ) : PW G zm_B_behind 5 X 15 [some (zr G 0), some (iZ eye0), some (iZ x2), some (iZ x3)] [] σ := by
  unfold b_B_behind_15 at h
  refine PW_iload_n zd_B_behind_15 rfl ?_
  refine PW_aload_n zd_B_behind_16 rfl ?_
  obtain ⟨h0, h⟩ := h
  refine PW_getD zd_B_behind_17 zf_B_23 (zs_0 _) rfl h0 ?_
  refine PW_getR zd_B_behind_20 zf_B_97 (zsT_0 hrT) rfl ?_
  refine PW_iconst zd_B_behind_23 ?_
  refine PW_iaload zd_B_behind_24 (zsT_8 hrT) (by decide) ?_
  obtain ⟨h0, hT, hF⟩ := h
  refine PW_icmp_ge zd_B_behind_25 h0 (fun q => ?_) (fun q => ?_)
  · have h := hT q
    refine PW_iload_n zd_B_behind_57 rfl ?_
    exact PW_iret zd_B_behind_58 rfl h
  · have h := hF q
    refine PW_aload_n zd_B_behind_28 rfl ?_
    refine PW_iconst zd_B_behind_29 ?_
    refine PW_iload_n zd_B_behind_30 rfl ?_
    obtain ⟨h0, h⟩ := h
    refine PW_ishl zd_B_behind_31 h0 ?_
    refine PW_bipush zd_B_behind_32 rfl ?_
    refine PW_callV2r zd_B_behind_34 zl_B_234 zk_B_lightOf zv_B_lightOf (fr' := 4) (by decide) (zs_0 _) rfl rfl (Nat.le_of_ble_eq_true rfl) ?_
    refine ms_mono h ?_
    rintro v σ1 ⟨rfl, h⟩
    refine ⟨_, rfl, ?_⟩
    refine PW_getR zd_B_behind_37 zf_B_160 (zs_19 _) rfl ?_
    refine PW_iload_n zd_B_behind_40 rfl ?_
    obtain ⟨h0, h⟩ := h
    refine PW_iaload zd_B_behind_41 (zs_21 _) h0 ?_
    obtain ⟨h0, hT, hF⟩ := h
    refine PW_if_eq zd_B_behind_42 h0 (fun q => ?_) (fun q => ?_)
    · have h := hT q
      exact PW_sub (by exact ⟨rfl, rfl, rfl, rfl, trivial⟩) (kb_B_behind_51 hrT hK15 h)
    · have h := hF q
      refine PW_iload_n zd_B_behind_45 rfl ?_
      refine PW_iconst zd_B_behind_46 ?_
      refine PW_iload_n zd_B_behind_47 rfl ?_
      obtain ⟨h0, h⟩ := h
      refine PW_ishl zd_B_behind_48 h0 ?_
      obtain ⟨h0, h⟩ := h
      refine PW_ior zd_B_behind_49 h0 ?_
      refine PW_istore_n zd_B_behind_50 rfl (by decide) (ls2 := [_, _, _, _]) rfl ?_
      have h := h _ rfl
      exact PW_sub (by exact ⟨rfl, rfl, rfl, rfl, trivial⟩) (kb_B_behind_51 hrT hK15 h)
theorem kl_B_behind_15 {G : zG} {rT : Nat} {eye0 : Int} {X : zX} (hrT : zisT rT) {x2 x3 : Int} {σ : zPH} (h : zLP2 (b_B_behind_15 G rT eye0 X ) x2 x3 σ) : PW G zm_B_behind 5 X 15 [some (zr G 0), some (iZ eye0), some (iZ x2), some (iZ x3)] [] σ := by
  obtain ⟨n, h⟩ := h
  induction n generalizing x2 x3 σ with
  | zero => exact h.elim
  | succ n ih => exact kb_B_behind_15 hrT  (fun _ _ _ h => ih h) h
def w_B_behind (G : zG) (rT : Nat) (eye0 : Int) (X : zX) (σ : zPH) : Prop :=
  MS G zm_B_isNumber 0 [zr G 0, iZ eye0, iZ 3] σ (fun v σ3 =>
    (v = some (iZ 0) ∧
      X (some (iZ (-1))) σ3) ∨
    (v = some (iZ 1) ∧
      zLP2 (b_B_behind_15 G rT eye0 X ) 0 0 σ3))
set_option maxHeartbeats 4000000 in
theorem k_B_behind {G : zG} {rT : Nat} {eye0 : Int} {X : zX} (hrT : zisT rT) {σ : zPH} (h : w_B_behind G rT eye0 X σ) : MS G zm_B_behind 5 [zr G 0, iZ eye0] σ X := by
  refine ms_of zk_B_behind (Nat.le_of_ble_eq_true rfl) (ls := [some (zr G 0), some (iZ eye0), none, none]) rfl ?_
  unfold w_B_behind at h
  refine PW_aload_n zd_B_behind_0 rfl ?_
  refine PW_iload_n zd_B_behind_1 rfl ?_
  refine PW_iconst zd_B_behind_2 ?_
  refine PW_callV2i zd_B_behind_3 zl_B_102 zk_B_isNumber zv_B_isNumber (fr' := 0) (by decide) (zs_0 _) rfl rfl (Nat.le_of_ble_eq_true rfl) ?_
  refine ms_mono h ?_
  rintro v σ1 (⟨rfl, h⟩ | ⟨rfl, h⟩)
  · refine ⟨0, rfl, ?_⟩
    refine PW_if_ne zd_B_behind_6 (by decide) (fun q => absurd rfl q) (fun _ => ?_)
    refine PW_iconst zd_B_behind_9 ?_
    exact PW_iret zd_B_behind_10 rfl h
  · refine ⟨1, rfl, ?_⟩
    refine PW_if_ne zd_B_behind_6 (by decide) (fun _ => ?_) (fun q => absurd q (by decide))
    refine PW_iconst zd_B_behind_11 ?_
    refine PW_istore_n zd_B_behind_12 rfl (by decide) (ls2 := [_, _, _, _]) rfl ?_
    refine PW_iconst zd_B_behind_13 ?_
    refine PW_istore_n zd_B_behind_14 rfl (by decide) (ls2 := [_, _, _, _]) rfl ?_
    exact PW_sub (by exact ⟨rfl, rfl, rfl, rfl, trivial⟩) (kl_B_behind_15 hrT  h)
def b_B_rings_100 (G : zG) (rT : Nat) (colour : Int) (X : zX) (K31 : Int → Int → zPH → Prop) (x3 x4 : Int) (σ : zPH) : Prop :=
  K31 x3 (x4 + 1) σ
set_option maxHeartbeats 4000000 in
theorem kb_B_rings_100 {G : zG} {rT : Nat} {colour : Int} {X : zX} {K31 : Int → Int → zPH → Prop} (hrT : zisT rT) (hK31 : ∀ (y0 y1 : Int) (σ : zPH), K31 y0 y1 σ → PW G zm_B_rings 5 X 31 [some (zr G 0), some (iZ colour), some (zr G 19), some (iZ y0), some (iZ y1), none, none] [] σ) {x3 x4 : Int} {σ : zPH} (h : b_B_rings_100 G rT colour X K31 x3 x4 σ) : PW G zm_B_rings 5 X 100 [some (zr G 0), some (iZ colour), some (zr G 19), some (iZ x3), some (iZ x4), none, none] [] σ := by
  unfold b_B_rings_100 at h
  refine PW_iinc zd_B_rings_100 rfl rfl (by decide) (ls2 := [_, _, _, _, _, _, _]) rfl ?_
  refine PW_goto zd_B_rings_103 ?_
  exact PW_sub (by exact ⟨rfl, rfl, rfl, rfl, rfl, trivial⟩) (hK31 _ _ _ h)
def b_B_rings_31 (G : zG) (rT : Nat) (colour : Int) (X : zX) (K31 : Int → Int → zPH → Prop) (x3 x4 : Int) (σ : zPH) : Prop :=
  (zI x4 ∧ zI (σ 19 3)) ∧
  ((σ 19 3) ≤ x4 →
    X (some (iZ x3)) σ) ∧
  (x4 < (σ 19 3) →
    MS G zm_L_arrivedNode 0 [zr G 19, iZ x4] σ (fun v σ43 =>
      ∃ z43 : Int, v = some (iZ z43) ∧
      (0 ≤ z43 ∧ z43 < 2147483648) ∧
      ∀ x6 : Int, x6 = (z43 / 4) →
      (0 ≤ x6 ∧ x6 < 144) ∧
      (zI (σ43 2 x6.toNat)) ∧
      ((σ43 2 x6.toNat) ≠ 0 →
        b_B_rings_100 G rT colour X K31 x3 x4 σ43) ∧
      ((σ43 2 x6.toNat) = 0 →
        σ43 0 3 = ((rT : Nat) : Int) ∧
        MS G zm_L_comesAgain 3 [zr G 24, zr G rT, iZ (σ43 0 7), iZ (σ43 0 8), iZ z43, iZ colour] σ43 (fun v σ83 =>
          (v = some (iZ 0) ∧
            b_B_rings_100 G rT colour X K31 x3 x4 σ83) ∨
          (v = some (iZ 1) ∧
            (0 ≤ x6 ∧ x6 < 144) ∧
            ∀ σ96 : zPH, σ96 = zupd σ83 2 x6.toNat 1 →
            b_B_rings_100 G rT colour X K31 (x3 + 1) x4 σ96)))))
set_option maxHeartbeats 4000000 in
theorem kb_B_rings_31 {G : zG} {rT : Nat} {colour : Int} {X : zX} {K31 : Int → Int → zPH → Prop} (hrT : zisT rT) (hK31 : ∀ (y0 y1 : Int) (σ : zPH), K31 y0 y1 σ → PW G zm_B_rings 5 X 31 [some (zr G 0), some (iZ colour), some (zr G 19), some (iZ y0), some (iZ y1), none, none] [] σ) {x3 x4 : Int} {σ : zPH} (h : b_B_rings_31 G rT colour X K31 x3 x4 σ) : PW G zm_B_rings 5 X 31 [some (zr G 0), some (iZ colour), some (zr G 19), some (iZ x3), some (iZ x4), none, none] [] σ := by
  unfold b_B_rings_31 at h
  refine PW_iload zd_B_rings_31 rfl ?_
  refine PW_aload_n zd_B_rings_33 rfl ?_
  refine PW_getI zd_B_rings_34 zf_B_250 (zs_19 _) rfl ?_
  obtain ⟨h0, hT, hF⟩ := h
  refine PW_icmp_ge zd_B_rings_37 h0 (fun q => ?_) (fun q => ?_)
  · have h := hT q
    refine PW_iload_n zd_B_rings_106 rfl ?_
    exact PW_iret zd_B_rings_107 rfl h
  · have h := hF q
    refine PW_aload_n zd_B_rings_40 rfl ?_
    refine PW_iload zd_B_rings_41 rfl ?_
    refine PW_callV1i zd_B_rings_43 zl_B_253 zk_L_arrivedNode zv_L_arrivedNode (fr' := 0) (by decide) (zs_19 _) rfl rfl (Nat.le_of_ble_eq_true rfl) ?_
    refine ms_mono h ?_
    rintro v σ1 ⟨z, rfl, h⟩
    refine ⟨z, rfl, ?_⟩
    refine PW_istore zd_B_rings_46 rfl (by decide) (ls2 := [_, _, _, _, _, _, _]) rfl ?_
    refine PW_iload zd_B_rings_48 rfl ?_
    refine PW_iconst zd_B_rings_50 ?_
    obtain ⟨h0, h⟩ := h
    refine PW_idiv zd_B_rings_51 ⟨h0, by decide⟩ ?_
    refine PW_istore zd_B_rings_52 rfl (by decide) (ls2 := [_, _, _, _, _, _, _]) rfl ?_
    have h := h _ rfl
    refine PW_aload_n zd_B_rings_54 rfl ?_
    refine PW_getR zd_B_rings_55 zf_B_41 (zs_0 _) rfl ?_
    refine PW_iload zd_B_rings_58 rfl ?_
    obtain ⟨h0, h⟩ := h
    refine PW_iaload zd_B_rings_60 (zs_2 _) h0 ?_
    obtain ⟨h0, hT, hF⟩ := h
    refine PW_if_ne zd_B_rings_61 h0 (fun q => ?_) (fun q => ?_)
    · have h := hT q
      exact PW_sub (by exact ⟨rfl, rfl, rfl, rfl, rfl, trivial⟩) (kb_B_rings_100 hrT hK31 h)
    · have h := hF q
      refine PW_aload_n zd_B_rings_64 rfl ?_
      refine PW_getR zd_B_rings_65 zf_B_37 (zs_0 _) rfl ?_
      refine PW_aload_n zd_B_rings_68 rfl ?_
      obtain ⟨h0, h⟩ := h
      refine PW_getD zd_B_rings_69 zf_B_23 (zs_0 _) rfl h0 ?_
      refine PW_aload_n zd_B_rings_72 rfl ?_
      refine PW_getI zd_B_rings_73 zf_B_70 (zs_0 _) rfl ?_
      refine PW_aload_n zd_B_rings_76 rfl ?_
      refine PW_getI zd_B_rings_77 zf_B_73 (zs_0 _) rfl ?_
      refine PW_iload zd_B_rings_80 rfl ?_
      refine PW_iload_n zd_B_rings_82 rfl ?_
      refine PW_callV5i zd_B_rings_83 zl_B_256 zk_L_comesAgain zv_L_comesAgain (fr' := 3) (by decide) (zs_24 _) rfl rfl (Nat.le_of_ble_eq_true rfl) ?_
      refine ms_mono h ?_
      rintro v σ1 (⟨rfl, h⟩ | ⟨rfl, h⟩)
      · refine ⟨0, rfl, ?_⟩
        refine PW_if_eq zd_B_rings_86 (by decide) (fun _ => ?_) (fun q => absurd rfl q)
        exact PW_sub (by exact ⟨rfl, rfl, rfl, rfl, rfl, trivial⟩) (kb_B_rings_100 hrT hK31 h)
      · refine ⟨1, rfl, ?_⟩
        refine PW_if_eq zd_B_rings_86 (by decide) (fun q => absurd q (by decide)) (fun _ => ?_)
        refine PW_aload_n zd_B_rings_89 rfl ?_
        refine PW_getR zd_B_rings_90 zf_B_41 (zs_0 _) rfl ?_
        refine PW_iload zd_B_rings_93 rfl ?_
        refine PW_iconst zd_B_rings_95 ?_
        obtain ⟨h0, h⟩ := h
        refine PW_iastore zd_B_rings_96 (zs_2 _) h0 ?_
        have h := h _ rfl
        refine PW_iinc zd_B_rings_97 rfl rfl (by decide) (ls2 := [_, _, _, _, _, _, _]) rfl ?_
        exact PW_sub (by exact ⟨rfl, rfl, rfl, rfl, rfl, trivial⟩) (kb_B_rings_100 hrT hK31 h)
theorem kl_B_rings_31 {G : zG} {rT : Nat} {colour : Int} {X : zX} (hrT : zisT rT) {x3 x4 : Int} {σ : zPH} (h : zLP2 (b_B_rings_31 G rT colour X ) x3 x4 σ) : PW G zm_B_rings 5 X 31 [some (zr G 0), some (iZ colour), some (zr G 19), some (iZ x3), some (iZ x4), none, none] [] σ := by
  obtain ⟨n, h⟩ := h
  induction n generalizing x3 x4 σ with
  | zero => exact h.elim
  | succ n ih => exact kb_B_rings_31 hrT  (fun _ _ _ h => ih h) h
def w_B_rings (G : zG) (rT : Nat) (colour : Int) (X : zX) (σ : zPH) : Prop :=
  MS G zm_B_isOneColour 0 [iZ colour] σ (fun v σ1 =>
    (v = some (iZ 0) ∧
      X (some (iZ (-1))) σ1) ∨
    (v = some (iZ 1) ∧
      MS G zm_B_lightOf 4 [zr G 0, iZ 255, iZ colour] σ1 (fun v σ14 =>
        v = some (zr G 19) ∧
        MS G zm_JA_fill 0 [zr G 2, iZ 0] σ14 (fun v σ23 =>
          v = none ∧
          zLP2 (b_B_rings_31 G rT colour X ) 0 0 σ23))))
set_option maxHeartbeats 4000000 in
theorem k_B_rings {G : zG} {rT : Nat} {colour : Int} {X : zX} (hrT : zisT rT) {σ : zPH} (h : w_B_rings G rT colour X σ) : MS G zm_B_rings 5 [zr G 0, iZ colour] σ X := by
  refine ms_of zk_B_rings (Nat.le_of_ble_eq_true rfl) (ls := [some (zr G 0), some (iZ colour), none, none, none, none, none]) rfl ?_
  unfold w_B_rings at h
  refine PW_iload_n zd_B_rings_0 rfl ?_
  refine PW_callS1i zd_B_rings_1 zl_B_150 zk_B_isOneColour zv_B_isOneColour (fr' := 0) (by decide) (Nat.le_of_ble_eq_true rfl) ?_
  refine ms_mono h ?_
  rintro v σ1 (⟨rfl, h⟩ | ⟨rfl, h⟩)
  · refine ⟨0, rfl, ?_⟩
    refine PW_if_ne zd_B_rings_4 (by decide) (fun q => absurd rfl q) (fun _ => ?_)
    refine PW_iconst zd_B_rings_7 ?_
    exact PW_iret zd_B_rings_8 rfl h
  · refine ⟨1, rfl, ?_⟩
    refine PW_if_ne zd_B_rings_4 (by decide) (fun _ => ?_) (fun q => absurd q (by decide))
    refine PW_aload_n zd_B_rings_9 rfl ?_
    refine PW_sipush zd_B_rings_10 rfl ?_
    refine PW_iload_n zd_B_rings_13 rfl ?_
    refine PW_callV2r zd_B_rings_14 zl_B_234 zk_B_lightOf zv_B_lightOf (fr' := 4) (by decide) (zs_0 _) rfl rfl (Nat.le_of_ble_eq_true rfl) ?_
    refine ms_mono h ?_
    rintro v σ1 ⟨rfl, h⟩
    refine ⟨_, rfl, ?_⟩
    refine PW_astore_n zd_B_rings_17 rfl (by decide) (ls2 := [_, _, _, _, _, _, _]) rfl ?_
    refine PW_aload_n zd_B_rings_18 rfl ?_
    refine PW_getR zd_B_rings_19 zf_B_41 (zs_0 _) rfl ?_
    refine PW_iconst zd_B_rings_22 ?_
    refine PW_callS2v zd_B_rings_23 zl_B_244 zk_JA_fill zv_JA_fill (fr' := 0) (by decide) (Nat.le_of_ble_eq_true rfl) ?_
    refine ms_mono h ?_
    rintro v σ1 ⟨rfl, h⟩
    refine ⟨rfl, ?_⟩
    refine PW_iconst zd_B_rings_26 ?_
    refine PW_istore_n zd_B_rings_27 rfl (by decide) (ls2 := [_, _, _, _, _, _, _]) rfl ?_
    refine PW_iconst zd_B_rings_28 ?_
    refine PW_istore zd_B_rings_29 rfl (by decide) (ls2 := [_, _, _, _, _, _, _]) rfl ?_
    exact PW_sub (by exact ⟨rfl, rfl, rfl, rfl, rfl, trivial⟩) (kl_B_rings_31 hrT  h)
def w_B_steady (G : zG) (rT : Nat) (all : Int) (X : zX) (σ : zPH) : Prop :=
  MS G zm_C_forget 1 [zr G 14] σ (fun v σ4 =>
    v = none ∧
    σ4 0 3 = ((rT : Nat) : Int) ∧
    MS G zm_C_walk 6 [zr G 14, zr G rT, iZ (σ4 0 7), iZ (σ4 0 8)] σ4 (fun v σ23 =>
      v = none ∧
      MS G zm_C_eyesOfRound 0 [zr G 14, iZ all] σ23 (fun v σ31 =>
        ∃ z31 : Int, v = some (iZ z31) ∧
        X (some (iZ z31)) σ31)))
set_option maxHeartbeats 4000000 in
theorem k_B_steady {G : zG} {rT : Nat} {all : Int} {X : zX} (hrT : zisT rT) {σ : zPH} (h : w_B_steady G rT all X σ) : MS G zm_B_steady 7 [zr G 0, iZ all] σ X := by
  refine ms_of zk_B_steady (Nat.le_of_ble_eq_true rfl) (ls := [some (zr G 0), some (iZ all)]) rfl ?_
  unfold w_B_steady at h
  refine PW_aload_n zd_B_steady_0 rfl ?_
  refine PW_getR zd_B_steady_1 zf_B_30 (zs_0 _) rfl ?_
  refine PW_callV0v zd_B_steady_4 zl_B_163 zk_C_forget zv_C_forget (fr' := 1) (by decide) (zs_14 _) rfl rfl (Nat.le_of_ble_eq_true rfl) ?_
  refine ms_mono h ?_
  rintro v σ1 ⟨rfl, h⟩
  refine ⟨rfl, ?_⟩
  refine PW_aload_n zd_B_steady_7 rfl ?_
  refine PW_getR zd_B_steady_8 zf_B_30 (zs_0 _) rfl ?_
  refine PW_aload_n zd_B_steady_11 rfl ?_
  obtain ⟨h0, h⟩ := h
  refine PW_getD zd_B_steady_12 zf_B_23 (zs_0 _) rfl h0 ?_
  refine PW_aload_n zd_B_steady_15 rfl ?_
  refine PW_getI zd_B_steady_16 zf_B_70 (zs_0 _) rfl ?_
  refine PW_aload_n zd_B_steady_19 rfl ?_
  refine PW_getI zd_B_steady_20 zf_B_73 (zs_0 _) rfl ?_
  refine PW_callV3v zd_B_steady_23 zl_B_170 zk_C_walk zv_C_walk (fr' := 6) (by decide) (zs_14 _) rfl rfl (Nat.le_of_ble_eq_true rfl) ?_
  refine ms_mono h ?_
  rintro v σ1 ⟨rfl, h⟩
  refine ⟨rfl, ?_⟩
  refine PW_aload_n zd_B_steady_26 rfl ?_
  refine PW_getR zd_B_steady_27 zf_B_30 (zs_0 _) rfl ?_
  refine PW_iload_n zd_B_steady_30 rfl ?_
  refine PW_callV1i zd_B_steady_31 zl_B_227 zk_C_eyesOfRound zv_C_eyesOfRound (fr' := 0) (by decide) (zs_14 _) rfl rfl (Nat.le_of_ble_eq_true rfl) ?_
  refine ms_mono h ?_
  rintro v σ1 ⟨z, rfl, h⟩
  refine ⟨z, rfl, ?_⟩
  exact PW_iret zd_B_steady_34 rfl h
def b_B_slow_73 (G : zG) (rT : Nat) (what : Int) (X : zX) (K25 : Int → Int → Int → zPH → Prop) (x2 x3 x4 : Int) (σ : zPH) : Prop :=
  K25 x2 x3 (x4 + 1) σ
set_option maxHeartbeats 4000000 in
theorem kb_B_slow_73 {G : zG} {rT : Nat} {what : Int} {X : zX} {K25 : Int → Int → Int → zPH → Prop} (hrT : zisT rT) (hK25 : ∀ (y0 y1 y2 : Int) (σ : zPH), K25 y0 y1 y2 σ → PW G zm_B_slow 7 X 25 [some (zr G 0), some (iZ what), some (iZ y0), some (iZ y1), some (iZ y2)] [] σ) {x2 x3 x4 : Int} {σ : zPH} (h : b_B_slow_73 G rT what X K25 x2 x3 x4 σ) : PW G zm_B_slow 7 X 73 [some (zr G 0), some (iZ what), some (iZ x2), some (iZ x3), some (iZ x4)] [] σ := by
  unfold b_B_slow_73 at h
  refine PW_iinc zd_B_slow_73 rfl rfl (by decide) (ls2 := [_, _, _, _, _]) rfl ?_
  refine PW_goto zd_B_slow_76 ?_
  exact PW_sub (by exact ⟨rfl, rfl, rfl, rfl, rfl, trivial⟩) (hK25 _ _ _ _ h)
def b_B_slow_25 (G : zG) (rT : Nat) (what : Int) (X : zX) (K25 : Int → Int → Int → zPH → Prop) (x2 x3 x4 : Int) (σ : zPH) : Prop :=
  MS G zm_B_stateCount 0 [zr G 0] σ (fun v σ28 =>
    ∃ z28 : Int, v = some (iZ z28) ∧
    (zI x4 ∧ zI z28) ∧
    (z28 ≤ x4 →
      (zI what) ∧
      (what ≠ 0 →
        X (some (iZ x3)) σ28) ∧
      (what = 0 →
        X (some (iZ x2)) σ28)) ∧
    (x4 < z28 →
      σ28 0 3 = ((rT : Nat) : Int) ∧
      MS G zm_C_walk 6 [zr G 14, zr G rT, iZ (σ28 0 7), iZ x4] σ28 (fun v σ48 =>
        v = none ∧
        (zI (σ48 14 6) ∧ zI x3) ∧
        ((σ48 14 6) ≤ x3 →
          b_B_slow_73 G rT what X K25 x2 x3 x4 σ48) ∧
        (x3 < (σ48 14 6) →
          ∀ x3_ : Int, x3_ = (σ48 14 6) →
          b_B_slow_73 G rT what X K25 x4 x3_ x4 σ48))))
set_option maxHeartbeats 4000000 in
theorem kb_B_slow_25 {G : zG} {rT : Nat} {what : Int} {X : zX} {K25 : Int → Int → Int → zPH → Prop} (hrT : zisT rT) (hK25 : ∀ (y0 y1 y2 : Int) (σ : zPH), K25 y0 y1 y2 σ → PW G zm_B_slow 7 X 25 [some (zr G 0), some (iZ what), some (iZ y0), some (iZ y1), some (iZ y2)] [] σ) {x2 x3 x4 : Int} {σ : zPH} (h : b_B_slow_25 G rT what X K25 x2 x3 x4 σ) : PW G zm_B_slow 7 X 25 [some (zr G 0), some (iZ what), some (iZ x2), some (iZ x3), some (iZ x4)] [] σ := by
  unfold b_B_slow_25 at h
  refine PW_iload zd_B_slow_25 rfl ?_
  refine PW_aload_n zd_B_slow_27 rfl ?_
  refine PW_callV0i zd_B_slow_28 zl_B_186 zk_B_stateCount zv_B_stateCount (fr' := 0) (by decide) (zs_0 _) rfl rfl (Nat.le_of_ble_eq_true rfl) ?_
  refine ms_mono h ?_
  rintro v σ1 ⟨z, rfl, h⟩
  refine ⟨z, rfl, ?_⟩
  obtain ⟨h0, hT, hF⟩ := h
  refine PW_icmp_ge zd_B_slow_31 h0 (fun q => ?_) (fun q => ?_)
  · have h := hT q
    refine PW_iload_n zd_B_slow_79 rfl ?_
    obtain ⟨h0, hT, hF⟩ := h
    refine PW_if_ne zd_B_slow_80 h0 (fun q => ?_) (fun q => ?_)
    · have h := hT q
      refine PW_iload_n zd_B_slow_87 rfl ?_
      exact PW_iret zd_B_slow_88 rfl h
    · have h := hF q
      refine PW_iload_n zd_B_slow_83 rfl ?_
      refine PW_goto zd_B_slow_84 ?_
      exact PW_iret zd_B_slow_88 rfl h
  · have h := hF q
    refine PW_aload_n zd_B_slow_34 rfl ?_
    refine PW_getR zd_B_slow_35 zf_B_30 (zs_0 _) rfl ?_
    refine PW_aload_n zd_B_slow_38 rfl ?_
    obtain ⟨h0, h⟩ := h
    refine PW_getD zd_B_slow_39 zf_B_23 (zs_0 _) rfl h0 ?_
    refine PW_aload_n zd_B_slow_42 rfl ?_
    refine PW_getI zd_B_slow_43 zf_B_70 (zs_0 _) rfl ?_
    refine PW_iload zd_B_slow_46 rfl ?_
    refine PW_callV3v zd_B_slow_48 zl_B_170 zk_C_walk zv_C_walk (fr' := 6) (by decide) (zs_14 _) rfl rfl (Nat.le_of_ble_eq_true rfl) ?_
    refine ms_mono h ?_
    rintro v σ1 ⟨rfl, h⟩
    refine ⟨rfl, ?_⟩
    refine PW_aload_n zd_B_slow_51 rfl ?_
    refine PW_getR zd_B_slow_52 zf_B_30 (zs_0 _) rfl ?_
    refine PW_getI zd_B_slow_55 zf_B_174 (zs_14 _) rfl ?_
    refine PW_iload_n zd_B_slow_58 rfl ?_
    obtain ⟨h0, hT, hF⟩ := h
    refine PW_icmp_le zd_B_slow_59 h0 (fun q => ?_) (fun q => ?_)
    · have h := hT q
      exact PW_sub (by exact ⟨rfl, rfl, rfl, rfl, rfl, trivial⟩) (kb_B_slow_73 hrT hK25 h)
    · have h := hF q
      refine PW_aload_n zd_B_slow_62 rfl ?_
      refine PW_getR zd_B_slow_63 zf_B_30 (zs_0 _) rfl ?_
      refine PW_getI zd_B_slow_66 zf_B_174 (zs_14 _) rfl ?_
      refine PW_istore_n zd_B_slow_69 rfl (by decide) (ls2 := [_, _, _, _, _]) rfl ?_
      have h := h _ rfl
      refine PW_iload zd_B_slow_70 rfl ?_
      refine PW_istore_n zd_B_slow_72 rfl (by decide) (ls2 := [_, _, _, _, _]) rfl ?_
      exact PW_sub (by exact ⟨rfl, rfl, rfl, rfl, rfl, trivial⟩) (kb_B_slow_73 hrT hK25 h)
theorem kl_B_slow_25 {G : zG} {rT : Nat} {what : Int} {X : zX} (hrT : zisT rT) {x2 x3 x4 : Int} {σ : zPH} (h : zLP3 (b_B_slow_25 G rT what X ) x2 x3 x4 σ) : PW G zm_B_slow 7 X 25 [some (zr G 0), some (iZ what), some (iZ x2), some (iZ x3), some (iZ x4)] [] σ := by
  obtain ⟨n, h⟩ := h
  induction n generalizing x2 x3 x4 σ with
  | zero => exact h.elim
  | succ n ih => exact kb_B_slow_25 hrT  (fun _ _ _ _ h => ih h) h
def b_B_slow_11 (G : zG) (rT : Nat) (what : Int) (X : zX) (σ : zPH) : Prop :=
  MS G zm_C_forget 1 [zr G 14] σ (fun v σ15 =>
    v = none ∧
    zLP3 (b_B_slow_25 G rT what X ) 0 (-1) 0 σ15)
set_option maxHeartbeats 4000000 in
theorem kb_B_slow_11 {G : zG} {rT : Nat} {what : Int} {X : zX} (hrT : zisT rT) {σ : zPH} (h : b_B_slow_11 G rT what X   σ) : PW G zm_B_slow 7 X 11 [some (zr G 0), some (iZ what), none, none, none] [] σ := by
  unfold b_B_slow_11 at h
  refine PW_aload_n zd_B_slow_11 rfl ?_
  refine PW_getR zd_B_slow_12 zf_B_30 (zs_0 _) rfl ?_
  refine PW_callV0v zd_B_slow_15 zl_B_163 zk_C_forget zv_C_forget (fr' := 1) (by decide) (zs_14 _) rfl rfl (Nat.le_of_ble_eq_true rfl) ?_
  refine ms_mono h ?_
  rintro v σ1 ⟨rfl, h⟩
  refine ⟨rfl, ?_⟩
  refine PW_iconst zd_B_slow_18 ?_
  refine PW_istore_n zd_B_slow_19 rfl (by decide) (ls2 := [_, _, _, _, _]) rfl ?_
  refine PW_iconst zd_B_slow_20 ?_
  refine PW_istore_n zd_B_slow_21 rfl (by decide) (ls2 := [_, _, _, _, _]) rfl ?_
  refine PW_iconst zd_B_slow_22 ?_
  refine PW_istore zd_B_slow_23 rfl (by decide) (ls2 := [_, _, _, _, _]) rfl ?_
  exact PW_sub (by exact ⟨rfl, rfl, rfl, rfl, rfl, trivial⟩) (kl_B_slow_25 hrT  h)
def w_B_slow (G : zG) (rT : Nat) (what : Int) (X : zX) (σ : zPH) : Prop :=
  (zI what) ∧
  (what = 0 →
    b_B_slow_11 G rT what X  σ) ∧
  (what ≠ 0 →
    (zI what) ∧
    (what = 1 →
      b_B_slow_11 G rT what X  σ) ∧
    (what ≠ 1 →
      X (some (iZ (-1))) σ))
set_option maxHeartbeats 4000000 in
theorem k_B_slow {G : zG} {rT : Nat} {what : Int} {X : zX} (hrT : zisT rT) {σ : zPH} (h : w_B_slow G rT what X σ) : MS G zm_B_slow 7 [zr G 0, iZ what] σ X := by
  refine ms_of zk_B_slow (Nat.le_of_ble_eq_true rfl) (ls := [some (zr G 0), some (iZ what), none, none, none]) rfl ?_
  unfold w_B_slow at h
  refine PW_iload_n zd_B_slow_0 rfl ?_
  obtain ⟨h0, hT, hF⟩ := h
  refine PW_if_eq zd_B_slow_1 h0 (fun q => ?_) (fun q => ?_)
  · have h := hT q
    exact PW_sub (by exact ⟨rfl, rfl, trivial⟩) (kb_B_slow_11 hrT  h)
  · have h := hF q
    refine PW_iload_n zd_B_slow_4 rfl ?_
    refine PW_iconst zd_B_slow_5 ?_
    obtain ⟨h0, hT, hF⟩ := h
    refine PW_icmp_eq zd_B_slow_6 ⟨h0, by decide⟩ (fun q => ?_) (fun q => ?_)
    · have h := hT q
      exact PW_sub (by exact ⟨rfl, rfl, trivial⟩) (kb_B_slow_11 hrT  h)
    · have h := hF q
      refine PW_iconst zd_B_slow_9 ?_
      exact PW_iret zd_B_slow_10 rfl h
def w_B_back (G : zG) (X : zX) (σ : zPH) : Prop :=
  (zI (σ 29 2)) ∧
  ((σ 29 2) ≠ 0 →
    ∀ σ22 : zPH, σ22 = zupd σ 29 2 ((σ 29 2) - 1) →
    (0 ≤ (σ22 29 2) ∧ (σ22 29 2) < 16) ∧
    ∀ σ41 : zPH, σ41 = zupd σ22 0 7 (σ22 30 (σ22 29 2).toNat) →
    (0 ≤ (σ41 29 2) ∧ (σ41 29 2) < 16) ∧
    ∀ σ60 : zPH, σ60 = zupd σ41 0 8 (σ41 31 (σ41 29 2).toNat) →
    X (some (iZ (σ60 29 2))) σ60) ∧
  ((σ 29 2) = 0 →
    X (some (iZ (-1))) σ)
set_option maxHeartbeats 4000000 in
theorem k_B_back {G : zG} {X : zX} {σ : zPH} (h : w_B_back G  X σ) : MS G zm_B_back 0 [zr G 0] σ X := by
  refine ms_of zk_B_back (Nat.le_of_ble_eq_true rfl) (ls := [some (zr G 0)]) rfl ?_
  unfold w_B_back at h
  refine PW_aload_n zd_B_back_0 rfl ?_
  refine PW_getR zd_B_back_1 zf_B_47 (zs_0 _) rfl ?_
  refine PW_getI zd_B_back_4 zf_B_82 (zs_29 _) rfl ?_
  obtain ⟨h0, hT, hF⟩ := h
  refine PW_if_ne zd_B_back_7 h0 (fun q => ?_) (fun q => ?_)
  · have h := hT q
    refine PW_aload_n zd_B_back_12 rfl ?_
    refine PW_getR zd_B_back_13 zf_B_47 (zs_0 _) rfl ?_
    refine PW_dup zd_B_back_16 rfl ?_
    refine PW_getI zd_B_back_17 zf_B_82 (zs_29 _) rfl ?_
    refine PW_iconst zd_B_back_20 ?_
    refine PW_isub zd_B_back_21 ?_
    refine PW_putI zd_B_back_22 zp_B_82 (zs_29 _) rfl ?_
    have h := h _ rfl
    refine PW_aload_n zd_B_back_25 rfl ?_
    refine PW_aload_n zd_B_back_26 rfl ?_
    refine PW_getR zd_B_back_27 zf_B_47 (zs_0 _) rfl ?_
    refine PW_getR zd_B_back_30 zf_B_260 (zs_29 _) rfl ?_
    refine PW_aload_n zd_B_back_33 rfl ?_
    refine PW_getR zd_B_back_34 zf_B_47 (zs_0 _) rfl ?_
    refine PW_getI zd_B_back_37 zf_B_82 (zs_29 _) rfl ?_
    obtain ⟨h0, h⟩ := h
    refine PW_iaload zd_B_back_40 (zs_30 _) h0 ?_
    refine PW_putI zd_B_back_41 zp_B_70 (zs_0 _) rfl ?_
    have h := h _ rfl
    refine PW_aload_n zd_B_back_44 rfl ?_
    refine PW_aload_n zd_B_back_45 rfl ?_
    refine PW_getR zd_B_back_46 zf_B_47 (zs_0 _) rfl ?_
    refine PW_getR zd_B_back_49 zf_B_262 (zs_29 _) rfl ?_
    refine PW_aload_n zd_B_back_52 rfl ?_
    refine PW_getR zd_B_back_53 zf_B_47 (zs_0 _) rfl ?_
    refine PW_getI zd_B_back_56 zf_B_82 (zs_29 _) rfl ?_
    obtain ⟨h0, h⟩ := h
    refine PW_iaload zd_B_back_59 (zs_31 _) h0 ?_
    refine PW_putI zd_B_back_60 zp_B_73 (zs_0 _) rfl ?_
    have h := h _ rfl
    refine PW_aload_n zd_B_back_63 rfl ?_
    refine PW_getR zd_B_back_64 zf_B_47 (zs_0 _) rfl ?_
    refine PW_getI zd_B_back_67 zf_B_82 (zs_29 _) rfl ?_
    exact PW_iret zd_B_back_70 rfl h
  · have h := hF q
    refine PW_iconst zd_B_back_10 ?_
    exact PW_iret zd_B_back_11 rfl h
def b_B_image_69 (G : zG) (rT : Nat) (X : zX) (K69 : Int → Int → zPH → Prop) (x1 x2 : Int) (σ : zPH) : Prop :=
  σ 0 3 = ((rT : Nat) : Int) ∧
  (zI x2 ∧ zI (σ (rT + 8) 3)) ∧
  ((σ (rT + 8) 3) ≤ x2 →
    MS G zm_B_checkByte 0 [zr G 3, iZ x1] σ (fun v σ126 =>
      ∃ z126 : Int, v = some (iZ z126) ∧
      (0 ≤ x1 ∧ x1 < 14) ∧
      ∀ σ129 : zPH, σ129 = zupd σ126 3 x1.toNat z126 →
      ∀ σ134 : zPH, σ134 = zupd σ129 0 13 (x1 + 1) →
      X (some (iZ (σ134 0 13))) σ134)) ∧
  (x2 < (σ (rT + 8) 3) →
    (zI (σ 0 9) ∧ 0 ≤ x2 ∧ x2 < 32) ∧
    (zI (σ 0 10) ∧ 0 ≤ x2 ∧ x2 < 32) ∧
    (0 ≤ x1 ∧ x1 < 14) ∧
    ∀ σ106 : zPH, σ106 = zupd σ 3 x1.toNat ((((σ 0 9) / 2 ^ x2.toNat) % 2) + (2 * (((σ 0 10) / 2 ^ x2.toNat) % 2))) →
    K69 (x1 + 1) (x2 + 1) σ106)
set_option maxHeartbeats 4000000 in
theorem kb_B_image_69 {G : zG} {rT : Nat} {X : zX} {K69 : Int → Int → zPH → Prop} (hrT : zisT rT) (hK69 : ∀ (y0 y1 : Int) (σ : zPH), K69 y0 y1 σ → PW G zm_B_image 1 X 69 [some (zr G 0), some (iZ y0), some (iZ y1)] [] σ) {x1 x2 : Int} {σ : zPH} (h : b_B_image_69 G rT X K69 x1 x2 σ) : PW G zm_B_image 1 X 69 [some (zr G 0), some (iZ x1), some (iZ x2)] [] σ := by
  unfold b_B_image_69 at h
  refine PW_iload_n zd_B_image_69 rfl ?_
  refine PW_aload_n zd_B_image_70 rfl ?_
  obtain ⟨h0, h⟩ := h
  refine PW_getD zd_B_image_71 zf_B_23 (zs_0 _) rfl h0 ?_
  refine PW_getR zd_B_image_74 zf_B_97 (zsT_0 hrT) rfl ?_
  refine PW_iconst zd_B_image_77 ?_
  refine PW_iaload zd_B_image_78 (zsT_8 hrT) (by decide) ?_
  obtain ⟨h0, hT, hF⟩ := h
  refine PW_icmp_ge zd_B_image_79 h0 (fun q => ?_) (fun q => ?_)
  · have h := hT q
    refine PW_aload_n zd_B_image_116 rfl ?_
    refine PW_getR zd_B_image_117 zf_B_51 (zs_0 _) rfl ?_
    refine PW_iload_n zd_B_image_120 rfl ?_
    refine PW_aload_n zd_B_image_121 rfl ?_
    refine PW_getR zd_B_image_122 zf_B_51 (zs_0 _) rfl ?_
    refine PW_iload_n zd_B_image_125 rfl ?_
    refine PW_callS2i zd_B_image_126 zl_B_264 zk_B_checkByte zv_B_checkByte (fr' := 0) (by decide) (Nat.le_of_ble_eq_true rfl) ?_
    refine ms_mono h ?_
    rintro v σ1 ⟨z, rfl, h⟩
    refine ⟨z, rfl, ?_⟩
    obtain ⟨h0, h⟩ := h
    refine PW_iastore zd_B_image_129 (zs_3 _) h0 ?_
    have h := h _ rfl
    refine PW_aload_n zd_B_image_130 rfl ?_
    refine PW_iload_n zd_B_image_131 rfl ?_
    refine PW_iconst zd_B_image_132 ?_
    refine PW_iadd zd_B_image_133 ?_
    refine PW_putI zd_B_image_134 zp_B_267 (zs_0 _) rfl ?_
    have h := h _ rfl
    refine PW_aload_n zd_B_image_137 rfl ?_
    refine PW_getI zd_B_image_138 zf_B_267 (zs_0 _) rfl ?_
    exact PW_iret zd_B_image_141 rfl h
  · have h := hF q
    refine PW_aload_n zd_B_image_82 rfl ?_
    refine PW_getR zd_B_image_83 zf_B_51 (zs_0 _) rfl ?_
    refine PW_iload_n zd_B_image_86 rfl ?_
    refine PW_aload_n zd_B_image_87 rfl ?_
    refine PW_getI zd_B_image_88 zf_B_76 (zs_0 _) rfl ?_
    refine PW_iload_n zd_B_image_91 rfl ?_
    obtain ⟨h0, h⟩ := h
    refine PW_ishr zd_B_image_92 h0 ?_
    refine PW_iconst zd_B_image_93 ?_
    refine PW_iandm1 zd_B_image_94 ?_
    refine PW_iconst zd_B_image_95 ?_
    refine PW_aload_n zd_B_image_96 rfl ?_
    refine PW_getI zd_B_image_97 zf_B_79 (zs_0 _) rfl ?_
    refine PW_iload_n zd_B_image_100 rfl ?_
    obtain ⟨h0, h⟩ := h
    refine PW_ishr zd_B_image_101 h0 ?_
    refine PW_iconst zd_B_image_102 ?_
    refine PW_iandm1 zd_B_image_103 ?_
    refine PW_imul zd_B_image_104 ?_
    refine PW_iadd zd_B_image_105 ?_
    obtain ⟨h0, h⟩ := h
    refine PW_iastore zd_B_image_106 (zs_3 _) h0 ?_
    have h := h _ rfl
    refine PW_iinc zd_B_image_107 rfl rfl (by decide) (ls2 := [_, _, _]) rfl ?_
    refine PW_iinc zd_B_image_110 rfl rfl (by decide) (ls2 := [_, _, _]) rfl ?_
    refine PW_goto zd_B_image_113 ?_
    exact PW_sub (by exact ⟨rfl, rfl, rfl, trivial⟩) (hK69 _ _ _ h)
theorem kl_B_image_69 {G : zG} {rT : Nat} {X : zX} (hrT : zisT rT) {x1 x2 : Int} {σ : zPH} (h : zLP2 (b_B_image_69 G rT X ) x1 x2 σ) : PW G zm_B_image 1 X 69 [some (zr G 0), some (iZ x1), some (iZ x2)] [] σ := by
  obtain ⟨n, h⟩ := h
  induction n generalizing x1 x2 σ with
  | zero => exact h.elim
  | succ n ih => exact kb_B_image_69 hrT  (fun _ _ _ h => ih h) h
def w_B_image (G : zG) (rT : Nat) (X : zX) (σ : zPH) : Prop :=
  σ 0 3 = ((rT : Nat) : Int) ∧
  ∀ σ14 : zPH, σ14 = zupd σ 3 0 (σ (rT + 8) 1) →
  σ14 0 3 = ((rT : Nat) : Int) ∧
  ∀ σ29 : zPH, σ29 = zupd σ14 3 1 (σ14 (rT + 8) 2) →
  σ29 0 3 = ((rT : Nat) : Int) ∧
  ∀ σ44 : zPH, σ44 = zupd σ29 3 2 (σ29 (rT + 8) 3) →
  ∀ σ54 : zPH, σ54 = zupd σ44 3 3 (σ44 0 7) →
  ∀ σ64 : zPH, σ64 = zupd σ54 3 4 (σ54 0 8) →
  zLP2 (b_B_image_69 G rT X ) 5 0 σ64
set_option maxHeartbeats 4000000 in
theorem k_B_image {G : zG} {rT : Nat} {X : zX} (hrT : zisT rT) {σ : zPH} (h : w_B_image G rT X σ) : MS G zm_B_image 1 [zr G 0] σ X := by
  refine ms_of zk_B_image (Nat.le_of_ble_eq_true rfl) (ls := [some (zr G 0), none, none]) rfl ?_
  unfold w_B_image at h
  refine PW_aload_n zd_B_image_0 rfl ?_
  refine PW_getR zd_B_image_1 zf_B_51 (zs_0 _) rfl ?_
  refine PW_iconst zd_B_image_4 ?_
  refine PW_aload_n zd_B_image_5 rfl ?_
  obtain ⟨h0, h⟩ := h
  refine PW_getD zd_B_image_6 zf_B_23 (zs_0 _) rfl h0 ?_
  refine PW_getR zd_B_image_9 zf_B_97 (zsT_0 hrT) rfl ?_
  refine PW_iconst zd_B_image_12 ?_
  refine PW_iaload zd_B_image_13 (zsT_8 hrT) (by decide) ?_
  refine PW_iastore zd_B_image_14 (zs_3 _) (by decide) ?_
  have h := h _ rfl
  refine PW_aload_n zd_B_image_15 rfl ?_
  refine PW_getR zd_B_image_16 zf_B_51 (zs_0 _) rfl ?_
  refine PW_iconst zd_B_image_19 ?_
  refine PW_aload_n zd_B_image_20 rfl ?_
  obtain ⟨h0, h⟩ := h
  refine PW_getD zd_B_image_21 zf_B_23 (zs_0 _) rfl h0 ?_
  refine PW_getR zd_B_image_24 zf_B_97 (zsT_0 hrT) rfl ?_
  refine PW_iconst zd_B_image_27 ?_
  refine PW_iaload zd_B_image_28 (zsT_8 hrT) (by decide) ?_
  refine PW_iastore zd_B_image_29 (zs_3 _) (by decide) ?_
  have h := h _ rfl
  refine PW_aload_n zd_B_image_30 rfl ?_
  refine PW_getR zd_B_image_31 zf_B_51 (zs_0 _) rfl ?_
  refine PW_iconst zd_B_image_34 ?_
  refine PW_aload_n zd_B_image_35 rfl ?_
  obtain ⟨h0, h⟩ := h
  refine PW_getD zd_B_image_36 zf_B_23 (zs_0 _) rfl h0 ?_
  refine PW_getR zd_B_image_39 zf_B_97 (zsT_0 hrT) rfl ?_
  refine PW_iconst zd_B_image_42 ?_
  refine PW_iaload zd_B_image_43 (zsT_8 hrT) (by decide) ?_
  refine PW_iastore zd_B_image_44 (zs_3 _) (by decide) ?_
  have h := h _ rfl
  refine PW_aload_n zd_B_image_45 rfl ?_
  refine PW_getR zd_B_image_46 zf_B_51 (zs_0 _) rfl ?_
  refine PW_iconst zd_B_image_49 ?_
  refine PW_aload_n zd_B_image_50 rfl ?_
  refine PW_getI zd_B_image_51 zf_B_70 (zs_0 _) rfl ?_
  refine PW_iastore zd_B_image_54 (zs_3 _) (by decide) ?_
  have h := h _ rfl
  refine PW_aload_n zd_B_image_55 rfl ?_
  refine PW_getR zd_B_image_56 zf_B_51 (zs_0 _) rfl ?_
  refine PW_iconst zd_B_image_59 ?_
  refine PW_aload_n zd_B_image_60 rfl ?_
  refine PW_getI zd_B_image_61 zf_B_73 (zs_0 _) rfl ?_
  refine PW_iastore zd_B_image_64 (zs_3 _) (by decide) ?_
  have h := h _ rfl
  refine PW_iconst zd_B_image_65 ?_
  refine PW_istore_n zd_B_image_66 rfl (by decide) (ls2 := [_, _, _]) rfl ?_
  refine PW_iconst zd_B_image_67 ?_
  refine PW_istore_n zd_B_image_68 rfl (by decide) (ls2 := [_, _, _]) rfl ?_
  exact PW_sub (by exact ⟨rfl, rfl, rfl, trivial⟩) (kl_B_image_69 hrT  h)
def w_B_octet (G : zG) (k : Int) (X : zX) (σ : zPH) : Prop :=
  (zI k) ∧
  (k < 0 →
    X (some (iZ (-1))) σ) ∧
  (0 ≤ k →
    (zI k ∧ zI (σ 0 13)) ∧
    (k < (σ 0 13) →
      (0 ≤ k ∧ k < 14) ∧
      X (some (iZ (σ 3 k.toNat))) σ) ∧
    ((σ 0 13) ≤ k →
      X (some (iZ (-1))) σ))
set_option maxHeartbeats 4000000 in
theorem k_B_octet {G : zG} {k : Int} {X : zX} {σ : zPH} (h : w_B_octet G k X σ) : MS G zm_B_octet 0 [zr G 0, iZ k] σ X := by
  refine ms_of zk_B_octet (Nat.le_of_ble_eq_true rfl) (ls := [some (zr G 0), some (iZ k)]) rfl ?_
  unfold w_B_octet at h
  refine PW_iload_n zd_B_octet_0 rfl ?_
  obtain ⟨h0, hT, hF⟩ := h
  refine PW_if_lt zd_B_octet_1 h0 (fun q => ?_) (fun q => ?_)
  · have h := hT q
    refine PW_iconst zd_B_octet_12 ?_
    refine PW_goto zd_B_octet_13 ?_
    exact PW_iret zd_B_octet_22 rfl h
  · have h := hF q
    refine PW_iload_n zd_B_octet_4 rfl ?_
    refine PW_aload_n zd_B_octet_5 rfl ?_
    refine PW_getI zd_B_octet_6 zf_B_267 (zs_0 _) rfl ?_
    obtain ⟨h0, hT, hF⟩ := h
    refine PW_icmp_lt zd_B_octet_9 h0 (fun q => ?_) (fun q => ?_)
    · have h := hT q
      refine PW_aload_n zd_B_octet_16 rfl ?_
      refine PW_getR zd_B_octet_17 zf_B_51 (zs_0 _) rfl ?_
      refine PW_iload_n zd_B_octet_20 rfl ?_
      obtain ⟨h0, h⟩ := h
      refine PW_iaload zd_B_octet_21 (zs_3 _) h0 ?_
      exact PW_iret zd_B_octet_22 rfl h
    · have h := hF q
      refine PW_iconst zd_B_octet_12 ?_
      refine PW_goto zd_B_octet_13 ?_
      exact PW_iret zd_B_octet_22 rfl h
def b_B_on_42 (G : zG) (rT : Nat) (X : zX) (K42 : Int → zPH → Prop) (x2 : Int) (σ : zPH) : Prop :=
  σ 0 3 = ((rT : Nat) : Int) ∧
  (zI x2 ∧ zI (σ (rT + 8) 3)) ∧
  ((σ (rT + 8) 3) ≤ x2 →
    ∀ σ80 : zPH, σ80 = zupd σ 29 2 0 →
    X (some (iZ 1)) σ80) ∧
  (x2 < (σ (rT + 8) 3) →
    (0 ≤ (5 + x2) ∧ (5 + x2) < 1600) ∧
    MS G zm_B_wish 1 [zr G 0, iZ x2, iZ (σ 1 (5 + x2).toNat)] σ (fun v σ65 =>
      ∃ z65 : Int, (z65 = 0 ∨ z65 = 1) ∧ v = some (iZ z65) ∧
      K42 (x2 + 1) σ65))
set_option maxHeartbeats 4000000 in
theorem kb_B_on_42 {G : zG} {rT : Nat} {X : zX} {K42 : Int → zPH → Prop} (hrT : zisT rT) (hK42 : ∀ (y0 : Int) (σ : zPH), K42 y0 σ → PW G zm_B_on 2 X 42 [some (zr G 0), none, some (iZ y0)] [] σ) {x2 : Int} {σ : zPH} (h : b_B_on_42 G rT X K42 x2 σ) : PW G zm_B_on 2 X 42 [some (zr G 0), none, some (iZ x2)] [] σ := by
  unfold b_B_on_42 at h
  refine PW_iload_n zd_B_on_42 rfl ?_
  refine PW_aload_n zd_B_on_43 rfl ?_
  obtain ⟨h0, h⟩ := h
  refine PW_getD zd_B_on_44 zf_B_23 (zs_0 _) rfl h0 ?_
  refine PW_getR zd_B_on_47 zf_B_97 (zsT_0 hrT) rfl ?_
  refine PW_iconst zd_B_on_50 ?_
  refine PW_iaload zd_B_on_51 (zsT_8 hrT) (by decide) ?_
  obtain ⟨h0, hT, hF⟩ := h
  refine PW_icmp_ge zd_B_on_52 h0 (fun q => ?_) (fun q => ?_)
  · have h := hT q
    refine PW_aload_n zd_B_on_75 rfl ?_
    refine PW_getR zd_B_on_76 zf_B_47 (zs_0 _) rfl ?_
    refine PW_iconst zd_B_on_79 ?_
    refine PW_putI zd_B_on_80 zp_B_82 (zs_29 _) rfl ?_
    have h := h _ rfl
    refine PW_iconst zd_B_on_83 ?_
    exact PW_zret zd_B_on_84 rfl (by decide) h
  · have h := hF q
    refine PW_aload_n zd_B_on_55 rfl ?_
    refine PW_iload_n zd_B_on_56 rfl ?_
    refine PW_aload_n zd_B_on_57 rfl ?_
    refine PW_getR zd_B_on_58 zf_B_9 (zs_0 _) rfl ?_
    refine PW_iconst zd_B_on_61 ?_
    refine PW_iload_n zd_B_on_62 rfl ?_
    refine PW_iadd zd_B_on_63 ?_
    obtain ⟨h0, h⟩ := h
    refine PW_iaload zd_B_on_64 (zs_1 _) h0 ?_
    refine PW_callV2i zd_B_on_65 zl_B_273 zk_B_wish zv_B_wish (fr' := 1) (by decide) (zs_0 _) rfl rfl (Nat.le_of_ble_eq_true rfl) ?_
    refine ms_mono h ?_
    rintro v σ1 ⟨z, hz, rfl, h⟩
    refine ⟨z, rfl, ?_⟩
    refine PW_pop zd_B_on_68 rfl ?_
    refine PW_iinc zd_B_on_69 rfl rfl (by decide) (ls2 := [_, _, _]) rfl ?_
    refine PW_goto zd_B_on_72 ?_
    exact PW_sub (by exact ⟨rfl, rfl, trivial⟩) (hK42 _ _ h)
theorem kl_B_on_42 {G : zG} {rT : Nat} {X : zX} (hrT : zisT rT) {x2 : Int} {σ : zPH} (h : zLP1 (b_B_on_42 G rT X ) x2 σ) : PW G zm_B_on 2 X 42 [some (zr G 0), none, some (iZ x2)] [] σ := by
  obtain ⟨n, h⟩ := h
  induction n generalizing x2 σ with
  | zero => exact h.elim
  | succ n ih => exact kb_B_on_42 hrT  (fun _ _ h => ih h) h
def w_B_on (G : zG) (rT : Nat) (X : zX) (σ : zPH) : Prop :=
  ∀ x1 : Int, x1 = (σ 0 1) →
  ∀ σ7 : zPH, σ7 = zupd σ 0 1 0 →
  MS G zm_B_isImage 1 [zr G 0, iZ x1] σ7 (fun v σ12 =>
    (v = some (iZ 0) ∧
      X (some (iZ 0)) σ12) ∨
    (v = some (iZ 1) ∧
      ∀ σ27 : zPH, σ27 = zupd σ12 0 7 (σ12 1 3) →
      ∀ σ37 : zPH, σ37 = zupd σ27 0 8 (σ27 1 4) →
      zLP1 (b_B_on_42 G rT X ) 0 σ37))
set_option maxHeartbeats 4000000 in
theorem k_B_on {G : zG} {rT : Nat} {X : zX} (hrT : zisT rT) {σ : zPH} (h : w_B_on G rT X σ) : MS G zm_B_on 2 [zr G 0] σ X := by
  refine ms_of zk_B_on (Nat.le_of_ble_eq_true rfl) (ls := [some (zr G 0), none, none]) rfl ?_
  unfold w_B_on at h
  refine PW_aload_n zd_B_on_0 rfl ?_
  refine PW_getI zd_B_on_1 zf_B_54 (zs_0 _) rfl ?_
  refine PW_istore_n zd_B_on_4 rfl (by decide) (ls2 := [_, _, _]) rfl ?_
  have h := h _ rfl
  refine PW_aload_n zd_B_on_5 rfl ?_
  refine PW_iconst zd_B_on_6 ?_
  refine PW_putI zd_B_on_7 zp_B_54 (zs_0 _) rfl ?_
  have h := h _ rfl
  refine PW_aload_n zd_B_on_10 rfl ?_
  refine PW_iload_n zd_B_on_11 rfl ?_
  refine PW_callV1i zd_B_on_12 zl_B_270 zk_B_isImage zv_B_isImage (fr' := 1) (by decide) (zs_0 _) rfl rfl (Nat.le_of_ble_eq_true rfl) ?_
  refine ms_mono h ?_
  rintro v σ1 (⟨rfl, h⟩ | ⟨rfl, h⟩)
  · refine ⟨0, rfl, ?_⟩
    refine PW_if_ne zd_B_on_15 (by decide) (fun q => absurd rfl q) (fun _ => ?_)
    refine PW_iconst zd_B_on_18 ?_
    exact PW_zret zd_B_on_19 rfl (by decide) h
  · refine ⟨1, rfl, ?_⟩
    refine PW_if_ne zd_B_on_15 (by decide) (fun _ => ?_) (fun q => absurd q (by decide))
    refine PW_aload_n zd_B_on_20 rfl ?_
    refine PW_aload_n zd_B_on_21 rfl ?_
    refine PW_getR zd_B_on_22 zf_B_9 (zs_0 _) rfl ?_
    refine PW_iconst zd_B_on_25 ?_
    refine PW_iaload zd_B_on_26 (zs_1 _) (by decide) ?_
    refine PW_putI zd_B_on_27 zp_B_70 (zs_0 _) rfl ?_
    have h := h _ rfl
    refine PW_aload_n zd_B_on_30 rfl ?_
    refine PW_aload_n zd_B_on_31 rfl ?_
    refine PW_getR zd_B_on_32 zf_B_9 (zs_0 _) rfl ?_
    refine PW_iconst zd_B_on_35 ?_
    refine PW_iaload zd_B_on_36 (zs_1 _) (by decide) ?_
    refine PW_putI zd_B_on_37 zp_B_73 (zs_0 _) rfl ?_
    have h := h _ rfl
    refine PW_iconst zd_B_on_40 ?_
    refine PW_istore_n zd_B_on_41 rfl (by decide) (ls2 := [_, _, _]) rfl ?_
    exact PW_sub (by exact ⟨rfl, rfl, trivial⟩) (kl_B_on_42 hrT  h)
def b_B_isImage_101 (G : zG) (rT : Nat) (length : Int) (X : zX) (K101 : Int → Int → zPH → Prop) (x2 x3 : Int) (σ : zPH) : Prop :=
  (zI x3 ∧ zI x2) ∧
  (x2 ≤ x3 →
    (0 ≤ (length - 1) ∧ (length - 1) < 1600) ∧
    MS G zm_B_checkByte 0 [zr G 1, iZ (length - 1)] σ (fun v σ141 =>
      ∃ z141 : Int, v = some (iZ z141) ∧
      (zI (σ 1 (length - 1).toNat) ∧ zI z141) ∧
      ((σ 1 (length - 1).toNat) ≠ z141 →
        X (some (iZ 0)) σ141) ∧
      ((σ 1 (length - 1).toNat) = z141 →
        X (some (iZ 1)) σ141))) ∧
  (x3 < x2 →
    (0 ≤ (5 + x3) ∧ (5 + x3) < 1600) ∧
    (zI (σ 1 (5 + x3).toNat)) ∧
    ((σ 1 (5 + x3).toNat) ≤ 2 →
      K101 x2 (x3 + 1) σ) ∧
    (2 < (σ 1 (5 + x3).toNat) →
      X (some (iZ 0)) σ))
set_option maxHeartbeats 4000000 in
theorem kb_B_isImage_101 {G : zG} {rT : Nat} {length : Int} {X : zX} {K101 : Int → Int → zPH → Prop} (hrT : zisT rT) (hK101 : ∀ (y0 y1 : Int) (σ : zPH), K101 y0 y1 σ → PW G zm_B_isImage 1 X 101 [some (zr G 0), some (iZ length), some (iZ y0), some (iZ y1)] [] σ) {x2 x3 : Int} {σ : zPH} (h : b_B_isImage_101 G rT length X K101 x2 x3 σ) : PW G zm_B_isImage 1 X 101 [some (zr G 0), some (iZ length), some (iZ x2), some (iZ x3)] [] σ := by
  unfold b_B_isImage_101 at h
  refine PW_iload_n zd_B_isImage_101 rfl ?_
  refine PW_iload_n zd_B_isImage_102 rfl ?_
  obtain ⟨h0, hT, hF⟩ := h
  refine PW_icmp_ge zd_B_isImage_103 h0 (fun q => ?_) (fun q => ?_)
  · have h := hT q
    refine PW_aload_n zd_B_isImage_126 rfl ?_
    refine PW_getR zd_B_isImage_127 zf_B_9 (zs_0 _) rfl ?_
    refine PW_iload_n zd_B_isImage_130 rfl ?_
    refine PW_iconst zd_B_isImage_131 ?_
    refine PW_isub zd_B_isImage_132 ?_
    obtain ⟨h0, h⟩ := h
    refine PW_iaload zd_B_isImage_133 (zs_1 _) h0 ?_
    refine PW_aload_n zd_B_isImage_134 rfl ?_
    refine PW_getR zd_B_isImage_135 zf_B_9 (zs_0 _) rfl ?_
    refine PW_iload_n zd_B_isImage_138 rfl ?_
    refine PW_iconst zd_B_isImage_139 ?_
    refine PW_isub zd_B_isImage_140 ?_
    refine PW_callS2i zd_B_isImage_141 zl_B_264 zk_B_checkByte zv_B_checkByte (fr' := 0) (by decide) (Nat.le_of_ble_eq_true rfl) ?_
    refine ms_mono h ?_
    rintro v σ1 ⟨z, rfl, h⟩
    refine ⟨z, rfl, ?_⟩
    obtain ⟨h0, hT, hF⟩ := h
    refine PW_icmp_ne zd_B_isImage_144 h0 (fun q => ?_) (fun q => ?_)
    · have h := hT q
      refine PW_iconst zd_B_isImage_151 ?_
      exact PW_zret zd_B_isImage_152 rfl (by decide) h
    · have h := hF q
      refine PW_iconst zd_B_isImage_147 ?_
      refine PW_goto zd_B_isImage_148 ?_
      exact PW_zret zd_B_isImage_152 rfl (by decide) h
  · have h := hF q
    refine PW_aload_n zd_B_isImage_106 rfl ?_
    refine PW_getR zd_B_isImage_107 zf_B_9 (zs_0 _) rfl ?_
    refine PW_iconst zd_B_isImage_110 ?_
    refine PW_iload_n zd_B_isImage_111 rfl ?_
    refine PW_iadd zd_B_isImage_112 ?_
    obtain ⟨h0, h⟩ := h
    refine PW_iaload zd_B_isImage_113 (zs_1 _) h0 ?_
    refine PW_iconst zd_B_isImage_114 ?_
    obtain ⟨h0, hT, hF⟩ := h
    refine PW_icmp_le zd_B_isImage_115 ⟨h0, by decide⟩ (fun q => ?_) (fun q => ?_)
    · have h := hT q
      refine PW_iinc zd_B_isImage_120 rfl rfl (by decide) (ls2 := [_, _, _, _]) rfl ?_
      refine PW_goto zd_B_isImage_123 ?_
      exact PW_sub (by exact ⟨rfl, rfl, rfl, rfl, trivial⟩) (hK101 _ _ _ h)
    · have h := hF q
      refine PW_iconst zd_B_isImage_118 ?_
      exact PW_zret zd_B_isImage_119 rfl (by decide) h
theorem kl_B_isImage_101 {G : zG} {rT : Nat} {length : Int} {X : zX} (hrT : zisT rT) {x2 x3 : Int} {σ : zPH} (h : zLP2 (b_B_isImage_101 G rT length X ) x2 x3 σ) : PW G zm_B_isImage 1 X 101 [some (zr G 0), some (iZ length), some (iZ x2), some (iZ x3)] [] σ := by
  obtain ⟨n, h⟩ := h
  induction n generalizing x2 x3 σ with
  | zero => exact h.elim
  | succ n ih => exact kb_B_isImage_101 hrT  (fun _ _ _ h => ih h) h
def w_B_isImage (G : zG) (rT : Nat) (length : Int) (X : zX) (σ : zPH) : Prop :=
  σ 0 3 = ((rT : Nat) : Int) ∧
  ∀ x2 : Int, x2 = (σ (rT + 8) 3) →
  (zI length ∧ zI ((5 + x2) + 1)) ∧
  (length = ((5 + x2) + 1) →
    σ 0 3 = ((rT : Nat) : Int) ∧
    (zI (σ 1 0) ∧ zI (σ (rT + 8) 1)) ∧
    ((σ 1 0) ≠ (σ (rT + 8) 1) →
      X (some (iZ 0)) σ) ∧
    ((σ 1 0) = (σ (rT + 8) 1) →
      σ 0 3 = ((rT : Nat) : Int) ∧
      (zI (σ 1 1) ∧ zI (σ (rT + 8) 2)) ∧
      ((σ 1 1) ≠ (σ (rT + 8) 2) →
        X (some (iZ 0)) σ) ∧
      ((σ 1 1) = (σ (rT + 8) 2) →
        (zI (σ 1 2) ∧ zI x2) ∧
        ((σ 1 2) = x2 →
          MS G zm_B_allOf 0 [zr G 0, iZ 1] σ (fun v σ77 =>
            ∃ z77 : Int, v = some (iZ z77) ∧
            (zI (σ 1 3) ∧ zI z77) ∧
            (z77 < (σ 1 3) →
              X (some (iZ 0)) σ77) ∧
            ((σ 1 3) ≤ z77 →
              MS G zm_B_allOf 0 [zr G 0, iZ 2] σ77 (fun v σ91 =>
                ∃ z91 : Int, v = some (iZ z91) ∧
                (zI (σ77 1 4) ∧ zI z91) ∧
                ((σ77 1 4) ≤ z91 →
                  zLP2 (b_B_isImage_101 G rT length X ) x2 0 σ91) ∧
                (z91 < (σ77 1 4) →
                  X (some (iZ 0)) σ91))))) ∧
        ((σ 1 2) ≠ x2 →
          X (some (iZ 0)) σ)))) ∧
  (length ≠ ((5 + x2) + 1) →
    X (some (iZ 0)) σ)
set_option maxHeartbeats 4000000 in
theorem k_B_isImage {G : zG} {rT : Nat} {length : Int} {X : zX} (hrT : zisT rT) {σ : zPH} (h : w_B_isImage G rT length X σ) : MS G zm_B_isImage 1 [zr G 0, iZ length] σ X := by
  refine ms_of zk_B_isImage (Nat.le_of_ble_eq_true rfl) (ls := [some (zr G 0), some (iZ length), none, none]) rfl ?_
  unfold w_B_isImage at h
  refine PW_aload_n zd_B_isImage_0 rfl ?_
  obtain ⟨h0, h⟩ := h
  refine PW_getD zd_B_isImage_1 zf_B_23 (zs_0 _) rfl h0 ?_
  refine PW_getR zd_B_isImage_4 zf_B_97 (zsT_0 hrT) rfl ?_
  refine PW_iconst zd_B_isImage_7 ?_
  refine PW_iaload zd_B_isImage_8 (zsT_8 hrT) (by decide) ?_
  refine PW_istore_n zd_B_isImage_9 rfl (by decide) (ls2 := [_, _, _, _]) rfl ?_
  have h := h _ rfl
  refine PW_iload_n zd_B_isImage_10 rfl ?_
  refine PW_iconst zd_B_isImage_11 ?_
  refine PW_iload_n zd_B_isImage_12 rfl ?_
  refine PW_iadd zd_B_isImage_13 ?_
  refine PW_iconst zd_B_isImage_14 ?_
  refine PW_iadd zd_B_isImage_15 ?_
  obtain ⟨h0, hT, hF⟩ := h
  refine PW_icmp_eq zd_B_isImage_16 h0 (fun q => ?_) (fun q => ?_)
  · have h := hT q
    refine PW_aload_n zd_B_isImage_21 rfl ?_
    refine PW_getR zd_B_isImage_22 zf_B_9 (zs_0 _) rfl ?_
    refine PW_iconst zd_B_isImage_25 ?_
    refine PW_iaload zd_B_isImage_26 (zs_1 _) (by decide) ?_
    refine PW_aload_n zd_B_isImage_27 rfl ?_
    obtain ⟨h0, h⟩ := h
    refine PW_getD zd_B_isImage_28 zf_B_23 (zs_0 _) rfl h0 ?_
    refine PW_getR zd_B_isImage_31 zf_B_97 (zsT_0 hrT) rfl ?_
    refine PW_iconst zd_B_isImage_34 ?_
    refine PW_iaload zd_B_isImage_35 (zsT_8 hrT) (by decide) ?_
    obtain ⟨h0, hT, hF⟩ := h
    refine PW_icmp_ne zd_B_isImage_36 h0 (fun q => ?_) (fun q => ?_)
    · have h := hT q
      refine PW_iconst zd_B_isImage_67 ?_
      exact PW_zret zd_B_isImage_68 rfl (by decide) h
    · have h := hF q
      refine PW_aload_n zd_B_isImage_39 rfl ?_
      refine PW_getR zd_B_isImage_40 zf_B_9 (zs_0 _) rfl ?_
      refine PW_iconst zd_B_isImage_43 ?_
      refine PW_iaload zd_B_isImage_44 (zs_1 _) (by decide) ?_
      refine PW_aload_n zd_B_isImage_45 rfl ?_
      obtain ⟨h0, h⟩ := h
      refine PW_getD zd_B_isImage_46 zf_B_23 (zs_0 _) rfl h0 ?_
      refine PW_getR zd_B_isImage_49 zf_B_97 (zsT_0 hrT) rfl ?_
      refine PW_iconst zd_B_isImage_52 ?_
      refine PW_iaload zd_B_isImage_53 (zsT_8 hrT) (by decide) ?_
      obtain ⟨h0, hT, hF⟩ := h
      refine PW_icmp_ne zd_B_isImage_54 h0 (fun q => ?_) (fun q => ?_)
      · have h := hT q
        refine PW_iconst zd_B_isImage_67 ?_
        exact PW_zret zd_B_isImage_68 rfl (by decide) h
      · have h := hF q
        refine PW_aload_n zd_B_isImage_57 rfl ?_
        refine PW_getR zd_B_isImage_58 zf_B_9 (zs_0 _) rfl ?_
        refine PW_iconst zd_B_isImage_61 ?_
        refine PW_iaload zd_B_isImage_62 (zs_1 _) (by decide) ?_
        refine PW_iload_n zd_B_isImage_63 rfl ?_
        obtain ⟨h0, hT, hF⟩ := h
        refine PW_icmp_eq zd_B_isImage_64 h0 (fun q => ?_) (fun q => ?_)
        · have h := hT q
          refine PW_aload_n zd_B_isImage_69 rfl ?_
          refine PW_getR zd_B_isImage_70 zf_B_9 (zs_0 _) rfl ?_
          refine PW_iconst zd_B_isImage_73 ?_
          refine PW_iaload zd_B_isImage_74 (zs_1 _) (by decide) ?_
          refine PW_aload_n zd_B_isImage_75 rfl ?_
          refine PW_iconst zd_B_isImage_76 ?_
          refine PW_callV1i zd_B_isImage_77 zl_B_201 zk_B_allOf zv_B_allOf (fr' := 0) (by decide) (zs_0 _) rfl rfl (Nat.le_of_ble_eq_true rfl) ?_
          refine ms_mono h ?_
          rintro v σ1 ⟨z, rfl, h⟩
          refine ⟨z, rfl, ?_⟩
          obtain ⟨h0, hT, hF⟩ := h
          refine PW_icmp_gt zd_B_isImage_80 h0 (fun q => ?_) (fun q => ?_)
          · have h := hT q
            refine PW_iconst zd_B_isImage_97 ?_
            exact PW_zret zd_B_isImage_98 rfl (by decide) h
          · have h := hF q
            refine PW_aload_n zd_B_isImage_83 rfl ?_
            refine PW_getR zd_B_isImage_84 zf_B_9 (zs_0 _) rfl ?_
            refine PW_iconst zd_B_isImage_87 ?_
            refine PW_iaload zd_B_isImage_88 (zs_1 _) (by decide) ?_
            refine PW_aload_n zd_B_isImage_89 rfl ?_
            refine PW_iconst zd_B_isImage_90 ?_
            refine PW_callV1i zd_B_isImage_91 zl_B_201 zk_B_allOf zv_B_allOf (fr' := 0) (by decide) (zs_0 _) rfl rfl (Nat.le_of_ble_eq_true rfl) ?_
            refine ms_mono h ?_
            rintro v σ1 ⟨z, rfl, h⟩
            refine ⟨z, rfl, ?_⟩
            obtain ⟨h0, hT, hF⟩ := h
            refine PW_icmp_le zd_B_isImage_94 h0 (fun q => ?_) (fun q => ?_)
            · have h := hT q
              refine PW_iconst zd_B_isImage_99 ?_
              refine PW_istore_n zd_B_isImage_100 rfl (by decide) (ls2 := [_, _, _, _]) rfl ?_
              exact PW_sub (by exact ⟨rfl, rfl, rfl, rfl, trivial⟩) (kl_B_isImage_101 hrT  h)
            · have h := hF q
              refine PW_iconst zd_B_isImage_97 ?_
              exact PW_zret zd_B_isImage_98 rfl (by decide) h
        · have h := hF q
          refine PW_iconst zd_B_isImage_67 ?_
          exact PW_zret zd_B_isImage_68 rfl (by decide) h
  · have h := hF q
    refine PW_iconst zd_B_isImage_19 ?_
    exact PW_zret zd_B_isImage_20 rfl (by decide) h
def b_B_checkByte_5 (G : zG) (qA : Nat) (nA : Nat) (length : Int) (X : zX) (K5 : Int → Int → zPH → Prop) (x2 x3 : Int) (σ : zPH) : Prop :=
  (zI x3 ∧ zI length) ∧
  (length ≤ x3 →
    X (some (iZ x2)) σ) ∧
  (x3 < length →
    (zI x3 ∧ zI ((nA : Nat) : Int)) ∧
    (((nA : Nat) : Int) ≤ x3 →
      X (some (iZ x2)) σ) ∧
    (x3 < ((nA : Nat) : Int) →
      (0 ≤ x3 ∧ x3 < nA) ∧
      (0 ≤ ((3 * x2) + (σ qA x3.toNat)) ∧ ((3 * x2) + (σ qA x3.toNat)) < 2147483648) ∧
      ∀ x2_ : Int, x2_ = (((3 * x2) + (σ qA x3.toNat)) % 227) →
      K5 x2_ (x3 + 1) σ))
set_option maxHeartbeats 4000000 in
theorem kb_B_checkByte_5 {G : zG} {qA : Nat} {nA : Nat} {length : Int} {X : zX} {K5 : Int → Int → zPH → Prop} (hsA : zsh G.2.2.2 qA = .inr (0, nA)) (hnA : nA ≤ 2147483648) (hqA : qA < 93) (hK5 : ∀ (y0 y1 : Int) (σ : zPH), K5 y0 y1 σ → PW G zm_B_checkByte 0 X 5 [some (zr G qA), some (iZ length), some (iZ y0), some (iZ y1)] [] σ) {x2 x3 : Int} {σ : zPH} (h : b_B_checkByte_5 G qA nA length X K5 x2 x3 σ) : PW G zm_B_checkByte 0 X 5 [some (zr G qA), some (iZ length), some (iZ x2), some (iZ x3)] [] σ := by
  unfold b_B_checkByte_5 at h
  refine PW_iload_n zd_B_checkByte_5 rfl ?_
  refine PW_iload_n zd_B_checkByte_6 rfl ?_
  obtain ⟨h0, hT, hF⟩ := h
  refine PW_icmp_ge zd_B_checkByte_7 h0 (fun q => ?_) (fun q => ?_)
  · have h := hT q
    refine PW_iload_n zd_B_checkByte_34 rfl ?_
    exact PW_iret zd_B_checkByte_35 rfl h
  · have h := hF q
    refine PW_iload_n zd_B_checkByte_10 rfl ?_
    refine PW_aload_n zd_B_checkByte_11 rfl ?_
    refine PW_alen zd_B_checkByte_12 hsA (by decide) hqA ?_
    obtain ⟨h0, hT, hF⟩ := h
    refine PW_icmp_ge zd_B_checkByte_13 h0 (fun q => ?_) (fun q => ?_)
    · have h := hT q
      refine PW_iload_n zd_B_checkByte_34 rfl ?_
      exact PW_iret zd_B_checkByte_35 rfl h
    · have h := hF q
      refine PW_iconst zd_B_checkByte_16 ?_
      refine PW_iload_n zd_B_checkByte_17 rfl ?_
      refine PW_imul zd_B_checkByte_18 ?_
      refine PW_aload_n zd_B_checkByte_19 rfl ?_
      refine PW_iload_n zd_B_checkByte_20 rfl ?_
      obtain ⟨h0, h⟩ := h
      refine PW_iaload zd_B_checkByte_21 hsA h0 ?_ hnA
      refine PW_iadd zd_B_checkByte_22 ?_
      refine PW_sipush zd_B_checkByte_23 rfl ?_
      obtain ⟨h0, h⟩ := h
      refine PW_irem zd_B_checkByte_26 ⟨h0, by decide⟩ ?_
      refine PW_istore_n zd_B_checkByte_27 rfl (by decide) (ls2 := [_, _, _, _]) rfl ?_
      have h := h _ rfl
      refine PW_iinc zd_B_checkByte_28 rfl rfl (by decide) (ls2 := [_, _, _, _]) rfl ?_
      refine PW_goto zd_B_checkByte_31 ?_
      exact PW_sub (by exact ⟨rfl, rfl, rfl, rfl, trivial⟩) (hK5 _ _ _ h)
theorem kl_B_checkByte_5 {G : zG} {qA : Nat} {nA : Nat} {length : Int} {X : zX} (hsA : zsh G.2.2.2 qA = .inr (0, nA)) (hnA : nA ≤ 2147483648) (hqA : qA < 93) {x2 x3 : Int} {σ : zPH} (h : zLP2 (b_B_checkByte_5 G qA nA length X ) x2 x3 σ) : PW G zm_B_checkByte 0 X 5 [some (zr G qA), some (iZ length), some (iZ x2), some (iZ x3)] [] σ := by
  obtain ⟨n, h⟩ := h
  induction n generalizing x2 x3 σ with
  | zero => exact h.elim
  | succ n ih => exact kb_B_checkByte_5 hsA hnA hqA  (fun _ _ _ h => ih h) h
def w_B_checkByte (G : zG) (qA : Nat) (nA : Nat) (length : Int) (X : zX) (σ : zPH) : Prop :=
  zLP2 (b_B_checkByte_5 G qA nA length X ) 13 0 σ
set_option maxHeartbeats 4000000 in
theorem k_B_checkByte {G : zG} {qA : Nat} {nA : Nat} {length : Int} {X : zX} (hsA : zsh G.2.2.2 qA = .inr (0, nA)) (hnA : nA ≤ 2147483648) (hqA : qA < 93) {σ : zPH} (h : w_B_checkByte G qA nA length X σ) : MS G zm_B_checkByte 0 [zr G qA, iZ length] σ X := by
  refine ms_of zk_B_checkByte (Nat.le_of_ble_eq_true rfl) (ls := [some (zr G qA), some (iZ length), none, none]) rfl ?_
  unfold w_B_checkByte at h
  refine PW_bipush zd_B_checkByte_0 rfl ?_
  refine PW_istore_n zd_B_checkByte_2 rfl (by decide) (ls2 := [_, _, _, _]) rfl ?_
  refine PW_iconst zd_B_checkByte_3 ?_
  refine PW_istore_n zd_B_checkByte_4 rfl (by decide) (ls2 := [_, _, _, _]) rfl ?_
  exact PW_sub (by exact ⟨rfl, rfl, rfl, rfl, trivial⟩) (kl_B_checkByte_5 hsA hnA hqA  h)
def w_B_isNumber (G : zG) (rT : Nat) (number group : Int) (X : zX) (σ : zPH) : Prop :=
  (zI number) ∧
  (number < 0 →
    X (some (iZ 0)) σ) ∧
  (0 ≤ number →
    σ 0 3 = ((rT : Nat) : Int) ∧
    (0 ≤ group ∧ group < 4) ∧
    (zI number ∧ zI (σ (rT + 8) group.toNat)) ∧
    ((σ (rT + 8) group.toNat) ≤ number →
      X (some (iZ 0)) σ) ∧
    (number < (σ (rT + 8) group.toNat) →
      X (some (iZ 1)) σ))
set_option maxHeartbeats 4000000 in
theorem k_B_isNumber {G : zG} {rT : Nat} {number group : Int} {X : zX} (hrT : zisT rT) {σ : zPH} (h : w_B_isNumber G rT number group X σ) : MS G zm_B_isNumber 0 [zr G 0, iZ number, iZ group] σ X := by
  refine ms_of zk_B_isNumber (Nat.le_of_ble_eq_true rfl) (ls := [some (zr G 0), some (iZ number), some (iZ group)]) rfl ?_
  unfold w_B_isNumber at h
  refine PW_iload_n zd_B_isNumber_0 rfl ?_
  obtain ⟨h0, hT, hF⟩ := h
  refine PW_if_lt zd_B_isNumber_1 h0 (fun q => ?_) (fun q => ?_)
  · have h := hT q
    refine PW_iconst zd_B_isNumber_21 ?_
    exact PW_zret zd_B_isNumber_22 rfl (by decide) h
  · have h := hF q
    refine PW_iload_n zd_B_isNumber_4 rfl ?_
    refine PW_aload_n zd_B_isNumber_5 rfl ?_
    obtain ⟨h0, h⟩ := h
    refine PW_getD zd_B_isNumber_6 zf_B_23 (zs_0 _) rfl h0 ?_
    refine PW_getR zd_B_isNumber_9 zf_B_97 (zsT_0 hrT) rfl ?_
    refine PW_iload_n zd_B_isNumber_12 rfl ?_
    obtain ⟨h0, h⟩ := h
    refine PW_iaload zd_B_isNumber_13 (zsT_8 hrT) h0 ?_
    obtain ⟨h0, hT, hF⟩ := h
    refine PW_icmp_ge zd_B_isNumber_14 h0 (fun q => ?_) (fun q => ?_)
    · have h := hT q
      refine PW_iconst zd_B_isNumber_21 ?_
      exact PW_zret zd_B_isNumber_22 rfl (by decide) h
    · have h := hF q
      refine PW_iconst zd_B_isNumber_17 ?_
      refine PW_goto zd_B_isNumber_18 ?_
      exact PW_zret zd_B_isNumber_22 rfl (by decide) h
def w_B_allOf (G : zG) (rT : Nat) (group : Int) (X : zX) (σ : zPH) : Prop :=
  σ 0 3 = ((rT : Nat) : Int) ∧
  (0 ≤ group ∧ group < 4) ∧
  (0 ≤ (σ (rT + 8) group.toNat) ∧ (σ (rT + 8) group.toNat) < 32) ∧
  X (some (iZ (((1 : Int) * 2 ^ (σ (rT + 8) group.toNat).toNat) - 1))) σ
set_option maxHeartbeats 4000000 in
theorem k_B_allOf {G : zG} {rT : Nat} {group : Int} {X : zX} (hrT : zisT rT) {σ : zPH} (h : w_B_allOf G rT group X σ) : MS G zm_B_allOf 0 [zr G 0, iZ group] σ X := by
  refine ms_of zk_B_allOf (Nat.le_of_ble_eq_true rfl) (ls := [some (zr G 0), some (iZ group)]) rfl ?_
  unfold w_B_allOf at h
  refine PW_iconst zd_B_allOf_0 ?_
  refine PW_aload_n zd_B_allOf_1 rfl ?_
  obtain ⟨h0, h⟩ := h
  refine PW_getD zd_B_allOf_2 zf_B_23 (zs_0 _) rfl h0 ?_
  refine PW_getR zd_B_allOf_5 zf_B_97 (zsT_0 hrT) rfl ?_
  refine PW_iload_n zd_B_allOf_8 rfl ?_
  obtain ⟨h0, h⟩ := h
  refine PW_iaload zd_B_allOf_9 (zsT_8 hrT) h0 ?_
  obtain ⟨h0, h⟩ := h
  refine PW_ishl zd_B_allOf_10 h0 ?_
  refine PW_iconst zd_B_allOf_11 ?_
  refine PW_isub zd_B_allOf_12 ?_
  exact PW_iret zd_B_allOf_13 rfl h
def w_B_stateCount (G : zG) (rT : Nat) (X : zX) (σ : zPH) : Prop :=
  σ 0 3 = ((rT : Nat) : Int) ∧
  (0 ≤ (σ (rT + 8) 2) ∧ (σ (rT + 8) 2) < 32) ∧
  X (some (iZ ((1 : Int) * 2 ^ (σ (rT + 8) 2).toNat))) σ
set_option maxHeartbeats 4000000 in
theorem k_B_stateCount {G : zG} {rT : Nat} {X : zX} (hrT : zisT rT) {σ : zPH} (h : w_B_stateCount G rT X σ) : MS G zm_B_stateCount 0 [zr G 0] σ X := by
  refine ms_of zk_B_stateCount (Nat.le_of_ble_eq_true rfl) (ls := [some (zr G 0)]) rfl ?_
  unfold w_B_stateCount at h
  refine PW_iconst zd_B_stateCount_0 ?_
  refine PW_aload_n zd_B_stateCount_1 rfl ?_
  obtain ⟨h0, h⟩ := h
  refine PW_getD zd_B_stateCount_2 zf_B_23 (zs_0 _) rfl h0 ?_
  refine PW_getR zd_B_stateCount_5 zf_B_97 (zsT_0 hrT) rfl ?_
  refine PW_iconst zd_B_stateCount_8 ?_
  refine PW_iaload zd_B_stateCount_9 (zsT_8 hrT) (by decide) ?_
  obtain ⟨h0, h⟩ := h
  refine PW_ishl zd_B_stateCount_10 h0 ?_
  exact PW_iret zd_B_stateCount_11 rfl h
def w_B_isState (G : zG) (bits : Int) (X : zX) (σ : zPH) : Prop :=
  (zI bits) ∧
  (bits < 0 →
    X (some (iZ 0)) σ) ∧
  (0 ≤ bits →
    MS G zm_B_stateCount 0 [zr G 0] σ (fun v σ6 =>
      ∃ z6 : Int, v = some (iZ z6) ∧
      (zI bits ∧ zI z6) ∧
      (z6 ≤ bits →
        X (some (iZ 0)) σ6) ∧
      (bits < z6 →
        X (some (iZ 1)) σ6)))
set_option maxHeartbeats 4000000 in
theorem k_B_isState {G : zG} {bits : Int} {X : zX} {σ : zPH} (h : w_B_isState G bits X σ) : MS G zm_B_isState 1 [zr G 0, iZ bits] σ X := by
  refine ms_of zk_B_isState (Nat.le_of_ble_eq_true rfl) (ls := [some (zr G 0), some (iZ bits)]) rfl ?_
  unfold w_B_isState at h
  refine PW_iload_n zd_B_isState_0 rfl ?_
  obtain ⟨h0, hT, hF⟩ := h
  refine PW_if_lt zd_B_isState_1 h0 (fun q => ?_) (fun q => ?_)
  · have h := hT q
    refine PW_iconst zd_B_isState_16 ?_
    exact PW_zret zd_B_isState_17 rfl (by decide) h
  · have h := hF q
    refine PW_iload_n zd_B_isState_4 rfl ?_
    refine PW_aload_n zd_B_isState_5 rfl ?_
    refine PW_callV0i zd_B_isState_6 zl_B_186 zk_B_stateCount zv_B_stateCount (fr' := 0) (by decide) (zs_0 _) rfl rfl (Nat.le_of_ble_eq_true rfl) ?_
    refine ms_mono h ?_
    rintro v σ1 ⟨z, rfl, h⟩
    refine ⟨z, rfl, ?_⟩
    obtain ⟨h0, hT, hF⟩ := h
    refine PW_icmp_ge zd_B_isState_9 h0 (fun q => ?_) (fun q => ?_)
    · have h := hT q
      refine PW_iconst zd_B_isState_16 ?_
      exact PW_zret zd_B_isState_17 rfl (by decide) h
    · have h := hF q
      refine PW_iconst zd_B_isState_12 ?_
      refine PW_goto zd_B_isState_13 ?_
      exact PW_zret zd_B_isState_17 rfl (by decide) h
def w_B_isOneColour (G : zG) (colour : Int) (X : zX) (σ : zPH) : Prop :=
  (zI colour) ∧
  (colour = 1 →
    X (some (iZ 1)) σ) ∧
  (colour ≠ 1 →
    (zI colour) ∧
    (colour = 2 →
      X (some (iZ 1)) σ) ∧
    (colour ≠ 2 →
      (zI colour) ∧
      (colour ≠ 4 →
        X (some (iZ 0)) σ) ∧
      (colour = 4 →
        X (some (iZ 1)) σ)))
set_option maxHeartbeats 4000000 in
theorem k_B_isOneColour {G : zG} {colour : Int} {X : zX} {σ : zPH} (h : w_B_isOneColour G colour X σ) : MS G zm_B_isOneColour 0 [iZ colour] σ X := by
  refine ms_of zk_B_isOneColour (Nat.le_of_ble_eq_true rfl) (ls := [some (iZ colour)]) rfl ?_
  unfold w_B_isOneColour at h
  refine PW_iload_n zd_B_isOneColour_0 rfl ?_
  refine PW_iconst zd_B_isOneColour_1 ?_
  obtain ⟨h0, hT, hF⟩ := h
  refine PW_icmp_eq zd_B_isOneColour_2 ⟨h0, by decide⟩ (fun q => ?_) (fun q => ?_)
  · have h := hT q
    refine PW_iconst zd_B_isOneColour_15 ?_
    refine PW_goto zd_B_isOneColour_16 ?_
    exact PW_zret zd_B_isOneColour_20 rfl (by decide) h
  · have h := hF q
    refine PW_iload_n zd_B_isOneColour_5 rfl ?_
    refine PW_iconst zd_B_isOneColour_6 ?_
    obtain ⟨h0, hT, hF⟩ := h
    refine PW_icmp_eq zd_B_isOneColour_7 ⟨h0, by decide⟩ (fun q => ?_) (fun q => ?_)
    · have h := hT q
      refine PW_iconst zd_B_isOneColour_15 ?_
      refine PW_goto zd_B_isOneColour_16 ?_
      exact PW_zret zd_B_isOneColour_20 rfl (by decide) h
    · have h := hF q
      refine PW_iload_n zd_B_isOneColour_10 rfl ?_
      refine PW_iconst zd_B_isOneColour_11 ?_
      obtain ⟨h0, hT, hF⟩ := h
      refine PW_icmp_ne zd_B_isOneColour_12 ⟨h0, by decide⟩ (fun q => ?_) (fun q => ?_)
      · have h := hT q
        refine PW_iconst zd_B_isOneColour_19 ?_
        exact PW_zret zd_B_isOneColour_20 rfl (by decide) h
      · have h := hF q
        refine PW_iconst zd_B_isOneColour_15 ?_
        refine PW_goto zd_B_isOneColour_16 ?_
        exact PW_zret zd_B_isOneColour_20 rfl (by decide) h
def w_B_moveTo (G : zG) (then0 : Int) (X : zX) (σ : zPH) : Prop :=
  (zI then0 ∧ zI (σ 0 8)) ∧
  (then0 = (σ 0 8) →
    X none σ) ∧
  (then0 ≠ (σ 0 8) →
    MS G zm_S_add 6 [zr G 29, iZ (σ 0 7), iZ (σ 0 8)] σ (fun v σ20 =>
      v = none ∧
      ∀ σ25 : zPH, σ25 = zupd σ20 0 8 then0 →
      X none σ25))
set_option maxHeartbeats 4000000 in
theorem k_B_moveTo {G : zG} {then0 : Int} {X : zX} {σ : zPH} (h : w_B_moveTo G then0 X σ) : MS G zm_B_moveTo 7 [zr G 0, iZ then0] σ X := by
  refine ms_of zk_B_moveTo (Nat.le_of_ble_eq_true rfl) (ls := [some (zr G 0), some (iZ then0)]) rfl ?_
  unfold w_B_moveTo at h
  refine PW_iload_n zd_B_moveTo_0 rfl ?_
  refine PW_aload_n zd_B_moveTo_1 rfl ?_
  refine PW_getI zd_B_moveTo_2 zf_B_73 (zs_0 _) rfl ?_
  obtain ⟨h0, hT, hF⟩ := h
  refine PW_icmp_eq zd_B_moveTo_5 h0 (fun q => ?_) (fun q => ?_)
  · have h := hT q
    exact PW_vret zd_B_moveTo_28 rfl h
  · have h := hF q
    refine PW_aload_n zd_B_moveTo_8 rfl ?_
    refine PW_getR zd_B_moveTo_9 zf_B_47 (zs_0 _) rfl ?_
    refine PW_aload_n zd_B_moveTo_12 rfl ?_
    refine PW_getI zd_B_moveTo_13 zf_B_70 (zs_0 _) rfl ?_
    refine PW_aload_n zd_B_moveTo_16 rfl ?_
    refine PW_getI zd_B_moveTo_17 zf_B_73 (zs_0 _) rfl ?_
    refine PW_callV2v zd_B_moveTo_20 zl_B_126 zk_S_add zv_S_add (fr' := 6) (by decide) (zs_29 _) rfl rfl (Nat.le_of_ble_eq_true rfl) ?_
    refine ms_mono h ?_
    rintro v σ1 ⟨rfl, h⟩
    refine ⟨rfl, ?_⟩
    refine PW_aload_n zd_B_moveTo_23 rfl ?_
    refine PW_iload_n zd_B_moveTo_24 rfl ?_
    refine PW_putI zd_B_moveTo_25 zp_B_73 (zs_0 _) rfl ?_
    have h := h _ rfl
    exact PW_vret zd_B_moveTo_28 rfl h
def w_B_lightNow (G : zG) (X : zX) (σ : zPH) : Prop :=
  MS G zm_B_lightOf 4 [zr G 0, iZ 255, iZ 7] σ (fun v σ6 =>
    v = some (zr G 19) ∧
    X (some (zr G 19)) σ6)
set_option maxHeartbeats 4000000 in
theorem k_B_lightNow {G : zG} {X : zX} {σ : zPH} (h : w_B_lightNow G  X σ) : MS G zm_B_lightNow 5 [zr G 0] σ X := by
  refine ms_of zk_B_lightNow (Nat.le_of_ble_eq_true rfl) (ls := [some (zr G 0)]) rfl ?_
  unfold w_B_lightNow at h
  refine PW_aload_n zd_B_lightNow_0 rfl ?_
  refine PW_sipush zd_B_lightNow_1 rfl ?_
  refine PW_bipush zd_B_lightNow_4 rfl ?_
  refine PW_callV2r zd_B_lightNow_6 zl_B_234 zk_B_lightOf zv_B_lightOf (fr' := 4) (by decide) (zs_0 _) rfl rfl (Nat.le_of_ble_eq_true rfl) ?_
  refine ms_mono h ?_
  rintro v σ1 ⟨rfl, h⟩
  refine ⟨_, rfl, ?_⟩
  exact PW_aret zd_B_lightNow_9 rfl h
def w_B_lightOf (G : zG) (rT : Nat) (lamps colours : Int) (X : zX) (σ : zPH) : Prop :=
  σ 0 3 = ((rT : Nat) : Int) ∧
  MS G zm_L_shine 3 [zr G 19, zr G rT, iZ (σ 0 7), iZ (σ 0 8), iZ lamps, iZ colours] σ (fun v σ21 =>
    v = none ∧
    X (some (zr G 19)) σ21)
set_option maxHeartbeats 4000000 in
theorem k_B_lightOf {G : zG} {rT : Nat} {lamps colours : Int} {X : zX} (hrT : zisT rT) {σ : zPH} (h : w_B_lightOf G rT lamps colours X σ) : MS G zm_B_lightOf 4 [zr G 0, iZ lamps, iZ colours] σ X := by
  refine ms_of zk_B_lightOf (Nat.le_of_ble_eq_true rfl) (ls := [some (zr G 0), some (iZ lamps), some (iZ colours)]) rfl ?_
  unfold w_B_lightOf at h
  refine PW_aload_n zd_B_lightOf_0 rfl ?_
  refine PW_getR zd_B_lightOf_1 zf_B_30 (zs_0 _) rfl ?_
  refine PW_getR zd_B_lightOf_4 zf_B_276 (zs_14 _) rfl ?_
  refine PW_aload_n zd_B_lightOf_7 rfl ?_
  obtain ⟨h0, h⟩ := h
  refine PW_getD zd_B_lightOf_8 zf_B_23 (zs_0 _) rfl h0 ?_
  refine PW_aload_n zd_B_lightOf_11 rfl ?_
  refine PW_getI zd_B_lightOf_12 zf_B_70 (zs_0 _) rfl ?_
  refine PW_aload_n zd_B_lightOf_15 rfl ?_
  refine PW_getI zd_B_lightOf_16 zf_B_73 (zs_0 _) rfl ?_
  refine PW_iload_n zd_B_lightOf_19 rfl ?_
  refine PW_iload_n zd_B_lightOf_20 rfl ?_
  refine PW_callV5v zd_B_lightOf_21 zl_B_279 zk_L_shine zv_L_shine (fr' := 3) (by decide) (zs_19 _) rfl rfl (Nat.le_of_ble_eq_true rfl) ?_
  refine ms_mono h ?_
  rintro v σ1 ⟨rfl, h⟩
  refine ⟨rfl, ?_⟩
  refine PW_aload_n zd_B_lightOf_24 rfl ?_
  refine PW_getR zd_B_lightOf_25 zf_B_30 (zs_0 _) rfl ?_
  refine PW_getR zd_B_lightOf_28 zf_B_276 (zs_14 _) rfl ?_
  exact PW_aret zd_B_lightOf_31 rfl h
def w_B_areMet (G : zG) (rT : Nat) (mirrorsTurned : Int) (X : zX) (σ : zPH) : Prop :=
  σ 0 3 = ((rT : Nat) : Int) ∧
  MS G zm_C_eyesInEnd 5 [zr G 14, zr G rT, iZ mirrorsTurned, iZ (σ 0 8)] σ (fun v σ14 =>
    ∃ z14 : Int, v = some (iZ z14) ∧
    MS G zm_B_isAsWished 0 [zr G 0, iZ z14] σ14 (fun v σ17 =>
      ∃ z17 : Int, (z17 = 0 ∨ z17 = 1) ∧ v = some (iZ z17) ∧
      (z17 = 0 ∨ z17 = 1) ∧
      X (some (iZ z17)) σ17))
set_option maxHeartbeats 4000000 in
theorem k_B_areMet {G : zG} {rT : Nat} {mirrorsTurned : Int} {X : zX} (hrT : zisT rT) {σ : zPH} (h : w_B_areMet G rT mirrorsTurned X σ) : MS G zm_B_areMet 6 [zr G 0, iZ mirrorsTurned] σ X := by
  refine ms_of zk_B_areMet (Nat.le_of_ble_eq_true rfl) (ls := [some (zr G 0), some (iZ mirrorsTurned)]) rfl ?_
  unfold w_B_areMet at h
  refine PW_aload_n zd_B_areMet_0 rfl ?_
  refine PW_aload_n zd_B_areMet_1 rfl ?_
  refine PW_getR zd_B_areMet_2 zf_B_30 (zs_0 _) rfl ?_
  refine PW_aload_n zd_B_areMet_5 rfl ?_
  obtain ⟨h0, h⟩ := h
  refine PW_getD zd_B_areMet_6 zf_B_23 (zs_0 _) rfl h0 ?_
  refine PW_iload_n zd_B_areMet_9 rfl ?_
  refine PW_aload_n zd_B_areMet_10 rfl ?_
  refine PW_getI zd_B_areMet_11 zf_B_73 (zs_0 _) rfl ?_
  refine PW_callV3i zd_B_areMet_14 zl_B_195 zk_C_eyesInEnd zv_C_eyesInEnd (fr' := 5) (by decide) (zs_14 _) rfl rfl (Nat.le_of_ble_eq_true rfl) ?_
  refine ms_mono h ?_
  rintro v σ1 ⟨z, rfl, h⟩
  refine ⟨z, rfl, ?_⟩
  refine PW_callV1i zd_B_areMet_17 zl_B_224 zk_B_isAsWished zv_B_isAsWished (fr' := 0) (by decide) (zs_0 _) rfl rfl (Nat.le_of_ble_eq_true rfl) ?_
  refine ms_mono h ?_
  rintro v σ1 ⟨z, hz, rfl, h⟩
  refine ⟨z, rfl, ?_⟩
  exact PW_zret zd_B_areMet_20 rfl h.1 h.2
def w_B_isAsWished (G : zG) (eyesLit : Int) (X : zX) (σ : zPH) : Prop :=
  (zI eyesLit) ∧
  (eyesLit = (-1) →
    X (some (iZ 0)) σ) ∧
  (eyesLit ≠ (-1) →
    (0 ≤ eyesLit ∧ 0 ≤ (σ 0 9)) ∧
    (zI (zand eyesLit (σ 0 9)) ∧ zI (σ 0 9)) ∧
    ((zand eyesLit (σ 0 9)) ≠ (σ 0 9) →
      X (some (iZ 0)) σ) ∧
    ((zand eyesLit (σ 0 9)) = (σ 0 9) →
      (0 ≤ eyesLit ∧ 0 ≤ (σ 0 10)) ∧
      (zI (zand eyesLit (σ 0 10))) ∧
      ((zand eyesLit (σ 0 10)) ≠ 0 →
        X (some (iZ 0)) σ) ∧
      ((zand eyesLit (σ 0 10)) = 0 →
        X (some (iZ 1)) σ)))
set_option maxHeartbeats 4000000 in
theorem k_B_isAsWished {G : zG} {eyesLit : Int} {X : zX} {σ : zPH} (h : w_B_isAsWished G eyesLit X σ) : MS G zm_B_isAsWished 0 [zr G 0, iZ eyesLit] σ X := by
  refine ms_of zk_B_isAsWished (Nat.le_of_ble_eq_true rfl) (ls := [some (zr G 0), some (iZ eyesLit)]) rfl ?_
  unfold w_B_isAsWished at h
  refine PW_iload_n zd_B_isAsWished_0 rfl ?_
  refine PW_iconst zd_B_isAsWished_1 ?_
  obtain ⟨h0, hT, hF⟩ := h
  refine PW_icmp_eq zd_B_isAsWished_2 ⟨h0, by decide⟩ (fun q => ?_) (fun q => ?_)
  · have h := hT q
    refine PW_iconst zd_B_isAsWished_31 ?_
    exact PW_zret zd_B_isAsWished_32 rfl (by decide) h
  · have h := hF q
    refine PW_iload_n zd_B_isAsWished_5 rfl ?_
    refine PW_aload_n zd_B_isAsWished_6 rfl ?_
    refine PW_getI zd_B_isAsWished_7 zf_B_76 (zs_0 _) rfl ?_
    obtain ⟨h0, h⟩ := h
    refine PW_iand zd_B_isAsWished_10 h0 ?_
    refine PW_aload_n zd_B_isAsWished_11 rfl ?_
    refine PW_getI zd_B_isAsWished_12 zf_B_76 (zs_0 _) rfl ?_
    obtain ⟨h0, hT, hF⟩ := h
    refine PW_icmp_ne zd_B_isAsWished_15 h0 (fun q => ?_) (fun q => ?_)
    · have h := hT q
      refine PW_iconst zd_B_isAsWished_31 ?_
      exact PW_zret zd_B_isAsWished_32 rfl (by decide) h
    · have h := hF q
      refine PW_iload_n zd_B_isAsWished_18 rfl ?_
      refine PW_aload_n zd_B_isAsWished_19 rfl ?_
      refine PW_getI zd_B_isAsWished_20 zf_B_79 (zs_0 _) rfl ?_
      obtain ⟨h0, h⟩ := h
      refine PW_iand zd_B_isAsWished_23 h0 ?_
      obtain ⟨h0, hT, hF⟩ := h
      refine PW_if_ne zd_B_isAsWished_24 h0 (fun q => ?_) (fun q => ?_)
      · have h := hT q
        refine PW_iconst zd_B_isAsWished_31 ?_
        exact PW_zret zd_B_isAsWished_32 rfl (by decide) h
      · have h := hF q
        refine PW_iconst zd_B_isAsWished_27 ?_
        refine PW_goto zd_B_isAsWished_28 ?_
        exact PW_zret zd_B_isAsWished_32 rfl (by decide) h
