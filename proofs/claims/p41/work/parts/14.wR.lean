def w_R_giveTable (G : zG) (rT : Nat) (rU : Nat) (X : zX) (σ : zPH) : Prop :=
  σ 4 4 = ((rU : Nat) : Int) ∧
  ∀ σ7 : zPH, σ7 = zupd σ 4 4 ((rT : Nat) : Int) →
  X (some (zr G rU)) σ7
set_option maxHeartbeats 4000000 in
theorem k_R_giveTable {G : zG} {rT : Nat} {rU : Nat} {X : zX} (hrT : zisT rT) (hrU : zisT rU) {σ : zPH} (h : w_R_giveTable G rT rU X σ) : MS G zm_R_giveTable 0 [zr G 4, zr G rT] σ X := by
  refine ms_of zk_R_giveTable (Nat.le_of_ble_eq_true rfl) (ls := [some (zr G 4), some (zr G rT), none]) rfl ?_
  unfold w_R_giveTable at h
  refine PW_aload_n zd_R_giveTable_0 rfl ?_
  obtain ⟨h0, h⟩ := h
  refine PW_getD zd_R_giveTable_1 zf_R_25 (zs_4 _) rfl h0 ?_
  refine PW_astore_n zd_R_giveTable_4 rfl (by decide) (ls2 := [_, _, _]) rfl ?_
  refine PW_aload_n zd_R_giveTable_5 rfl ?_
  refine PW_aload_n zd_R_giveTable_6 rfl ?_
  refine PW_putD (r := rT) (fty := .object "BeamBoard$Table") zd_R_giveTable_7 zp_R_25 (zs_4 _) rfl (by decide +kernel) (by simp) ?_
  have h := h _ rfl
  refine PW_aload_n zd_R_giveTable_10 rfl ?_
  exact PW_aret zd_R_giveTable_11 rfl h
def b_R_read_128 (G : zG) (rU : Nat) (length : Int) (X : zX) (x3 : Int) (σ : zPH) : Prop :=
  MS G zm_R_findSeenEyes 1 [zr G 4] σ (fun v σ129 =>
    v = none ∧
    (zI (σ129 4 0)) ∧
    ((σ129 4 0) ≠ 0 →
      X (some (iZ (-1))) σ129) ∧
    ((σ129 4 0) = 0 →
      X (some (iZ x3)) σ129))
set_option maxHeartbeats 4000000 in
theorem kb_R_read_128 {G : zG} {rU : Nat} {length : Int} {X : zX} (hrU : zisT rU) {x3 : Int} {σ : zPH} (h : b_R_read_128 G rU length X  x3 σ) : PW G zm_R_read 42 X 128 [some (zr G 4), none, none, some (iZ x3)] [] σ := by
  unfold b_R_read_128 at h
  refine PW_aload_n zd_R_read_128 rfl ?_
  refine PW_callV0v zd_R_read_129 zl_R_78 zk_R_findSeenEyes zv_R_findSeenEyes (fr' := 1) (by decide) (zs_4 _) rfl rfl (Nat.le_of_ble_eq_true rfl) ?_
  refine ms_mono h ?_
  rintro v σ1 ⟨rfl, h⟩
  refine ⟨rfl, ?_⟩
  refine PW_aload_n zd_R_read_132 rfl ?_
  refine PW_getI zd_R_read_133 zf_R_39 (zs_4 _) rfl ?_
  obtain ⟨h0, hT, hF⟩ := h
  refine PW_if_ne zd_R_read_136 h0 (fun q => ?_) (fun q => ?_)
  · have h := hT q
    refine PW_iconst zd_R_read_143 ?_
    exact PW_iret zd_R_read_144 rfl h
  · have h := hF q
    refine PW_iload_n zd_R_read_139 rfl ?_
    refine PW_goto zd_R_read_140 ?_
    exact PW_iret zd_R_read_144 rfl h
def b_R_read_120 (G : zG) (rU : Nat) (length : Int) (X : zX) (x3 : Int) (σ : zPH) : Prop :=
  (zI x3) ∧
  (x3 ≠ 0 →
    b_R_read_128 G rU length X  x3 σ) ∧
  (x3 = 0 →
    MS G zm_R_refuseToken 1 [zr G 4] σ (fun v σ125 =>
      v = none ∧
      b_R_read_128 G rU length X  x3 σ125))
set_option maxHeartbeats 4000000 in
theorem kb_R_read_120 {G : zG} {rU : Nat} {length : Int} {X : zX} (hrU : zisT rU) {x3 : Int} {σ : zPH} (h : b_R_read_120 G rU length X  x3 σ) : PW G zm_R_read 42 X 120 [some (zr G 4), none, none, some (iZ x3)] [] σ := by
  unfold b_R_read_120 at h
  refine PW_iload_n zd_R_read_120 rfl ?_
  obtain ⟨h0, hT, hF⟩ := h
  refine PW_if_ne zd_R_read_121 h0 (fun q => ?_) (fun q => ?_)
  · have h := hT q
    exact PW_sub (by exact ⟨rfl, rfl, trivial⟩) (kb_R_read_128 hrU  h)
  · have h := hF q
    refine PW_aload_n zd_R_read_124 rfl ?_
    refine PW_callV0v zd_R_read_125 zl_R_75 zk_R_refuseToken zv_R_refuseToken (fr' := 1) (by decide) (zs_4 _) rfl rfl (Nat.le_of_ble_eq_true rfl) ?_
    refine ms_mono h ?_
    rintro v σ1 ⟨rfl, h⟩
    refine ⟨rfl, ?_⟩
    exact PW_sub (by exact ⟨rfl, rfl, trivial⟩) (kb_R_read_128 hrU  h)
def b_R_read_108 (G : zG) (rU : Nat) (length : Int) (X : zX) (K38 : Int → zPH → Prop) (x3 : Int) (σ : zPH) : Prop :=
  MS G zm_R_expectSign 2 [zr G 4, iZ 59] σ (fun v σ111 =>
    v = none ∧
    K38 (x3 + 1) σ111)
set_option maxHeartbeats 4000000 in
theorem kb_R_read_108 {G : zG} {rU : Nat} {length : Int} {X : zX} {K38 : Int → zPH → Prop} (hrU : zisT rU) (hK38 : ∀ (y0 : Int) (σ : zPH), K38 y0 σ → PW G zm_R_read 42 X 38 [some (zr G 4), none, none, some (iZ y0)] [] σ) {x3 : Int} {σ : zPH} (h : b_R_read_108 G rU length X K38 x3 σ) : PW G zm_R_read 42 X 108 [some (zr G 4), none, none, some (iZ x3)] [] σ := by
  unfold b_R_read_108 at h
  refine PW_aload_n zd_R_read_108 rfl ?_
  refine PW_bipush zd_R_read_109 rfl ?_
  refine PW_callV1v zd_R_read_111 zl_R_71 zk_R_expectSign zv_R_expectSign (fr' := 2) (by decide) (zs_4 _) rfl rfl (Nat.le_of_ble_eq_true rfl) ?_
  refine ms_mono h ?_
  rintro v σ1 ⟨rfl, h⟩
  refine ⟨rfl, ?_⟩
  refine PW_iinc zd_R_read_114 rfl rfl (by decide) (ls2 := [_, _, _, _]) rfl ?_
  refine PW_goto zd_R_read_117 ?_
  exact PW_sub (by exact ⟨rfl, rfl, trivial⟩) (hK38 _ _ h)
def b_R_read_38 (G : zG) (rU : Nat) (length : Int) (X : zX) (K38 : Int → zPH → Prop) (x3 : Int) (σ : zPH) : Prop :=
  (zI x3) ∧
  (60 < x3 →
    b_R_read_120 G rU length X  x3 σ) ∧
  (x3 ≤ 60 →
    (zI (σ 4 0)) ∧
    ((σ 4 0) ≠ 0 →
      b_R_read_120 G rU length X  x3 σ) ∧
    ((σ 4 0) = 0 →
      (0 ≤ (σ 4 3) ∧ (σ 4 3) < 1601) ∧
      (zI (σ 9 (σ 4 3).toNat)) ∧
      ((σ 9 (σ 4 3).toNat) = 4 →
        b_R_read_120 G rU length X  x3 σ) ∧
      ((σ 9 (σ 4 3).toNat) ≠ 4 →
        (zI x3) ∧
        (x3 ≠ 0 →
          (zI x3) ∧
          (x3 ≠ 60 →
            MS G zm_R_readPiece 41 [zr G 4] σ (fun v σ105 =>
              v = none ∧
              b_R_read_108 G rU length X K38 x3 σ105)) ∧
          (x3 = 60 →
            (0 ≤ (σ 4 3) ∧ (σ 4 3) < 1601) ∧
            MS G zm_R_refuse 0 [zr G 4, iZ 5, iZ (σ 11 (σ 4 3).toNat)] σ (fun v σ98 =>
              v = none ∧
              b_R_read_108 G rU length X K38 x3 σ98))) ∧
        (x3 = 0 →
          MS G zm_R_readSize 3 [zr G 4] σ (fun v σ72 =>
            v = none ∧
            b_R_read_108 G rU length X K38 x3 σ72)))))
set_option maxHeartbeats 4000000 in
theorem kb_R_read_38 {G : zG} {rU : Nat} {length : Int} {X : zX} {K38 : Int → zPH → Prop} (hrU : zisT rU) (hK38 : ∀ (y0 : Int) (σ : zPH), K38 y0 σ → PW G zm_R_read 42 X 38 [some (zr G 4), none, none, some (iZ y0)] [] σ) {x3 : Int} {σ : zPH} (h : b_R_read_38 G rU length X K38 x3 σ) : PW G zm_R_read 42 X 38 [some (zr G 4), none, none, some (iZ x3)] [] σ := by
  unfold b_R_read_38 at h
  refine PW_iload_n zd_R_read_38 rfl ?_
  refine PW_bipush zd_R_read_39 rfl ?_
  obtain ⟨h0, hT, hF⟩ := h
  refine PW_icmp_gt zd_R_read_41 ⟨h0, by decide⟩ (fun q => ?_) (fun q => ?_)
  · have h := hT q
    exact PW_sub (by exact ⟨rfl, rfl, trivial⟩) (kb_R_read_120 hrU  h)
  · have h := hF q
    refine PW_aload_n zd_R_read_44 rfl ?_
    refine PW_getI zd_R_read_45 zf_R_39 (zs_4 _) rfl ?_
    obtain ⟨h0, hT, hF⟩ := h
    refine PW_if_ne zd_R_read_48 h0 (fun q => ?_) (fun q => ?_)
    · have h := hT q
      exact PW_sub (by exact ⟨rfl, rfl, trivial⟩) (kb_R_read_120 hrU  h)
    · have h := hF q
      refine PW_aload_n zd_R_read_51 rfl ?_
      refine PW_getR zd_R_read_52 zf_R_18 (zs_4 _) rfl ?_
      refine PW_getR zd_R_read_55 zf_R_55 (zs_8 _) rfl ?_
      refine PW_aload_n zd_R_read_58 rfl ?_
      refine PW_getI zd_R_read_59 zf_R_46 (zs_4 _) rfl ?_
      obtain ⟨h0, h⟩ := h
      refine PW_iaload zd_R_read_62 (zs_9 _) h0 ?_
      refine PW_iconst zd_R_read_63 ?_
      obtain ⟨h0, hT, hF⟩ := h
      refine PW_icmp_eq zd_R_read_64 ⟨h0, by decide⟩ (fun q => ?_) (fun q => ?_)
      · have h := hT q
        exact PW_sub (by exact ⟨rfl, rfl, trivial⟩) (kb_R_read_120 hrU  h)
      · have h := hF q
        refine PW_iload_n zd_R_read_67 rfl ?_
        obtain ⟨h0, hT, hF⟩ := h
        refine PW_if_ne zd_R_read_68 h0 (fun q => ?_) (fun q => ?_)
        · have h := hT q
          refine PW_iload_n zd_R_read_78 rfl ?_
          refine PW_bipush zd_R_read_79 rfl ?_
          obtain ⟨h0, hT, hF⟩ := h
          refine PW_icmp_ne zd_R_read_81 ⟨h0, by decide⟩ (fun q => ?_) (fun q => ?_)
          · have h := hT q
            refine PW_aload_n zd_R_read_104 rfl ?_
            refine PW_callV0v zd_R_read_105 zl_R_68 zk_R_readPiece zv_R_readPiece (fr' := 41) (by decide) (zs_4 _) rfl rfl (Nat.le_of_ble_eq_true rfl) ?_
            refine ms_mono h ?_
            rintro v σ1 ⟨rfl, h⟩
            refine ⟨rfl, ?_⟩
            exact PW_sub (by exact ⟨rfl, rfl, trivial⟩) (kb_R_read_108 hrU hK38 h)
          · have h := hF q
            refine PW_aload_n zd_R_read_84 rfl ?_
            refine PW_iconst zd_R_read_85 ?_
            refine PW_aload_n zd_R_read_86 rfl ?_
            refine PW_getR zd_R_read_87 zf_R_18 (zs_4 _) rfl ?_
            refine PW_getR zd_R_read_90 zf_R_61 (zs_8 _) rfl ?_
            refine PW_aload_n zd_R_read_93 rfl ?_
            refine PW_getI zd_R_read_94 zf_R_46 (zs_4 _) rfl ?_
            obtain ⟨h0, h⟩ := h
            refine PW_iaload zd_R_read_97 (zs_11 _) h0 ?_
            refine PW_callV2v zd_R_read_98 zl_R_64 zk_R_refuse zv_R_refuse (fr' := 0) (by decide) (zs_4 _) rfl rfl (Nat.le_of_ble_eq_true rfl) ?_
            refine ms_mono h ?_
            rintro v σ1 ⟨rfl, h⟩
            refine ⟨rfl, ?_⟩
            refine PW_goto zd_R_read_101 ?_
            exact PW_sub (by exact ⟨rfl, rfl, trivial⟩) (kb_R_read_108 hrU hK38 h)
        · have h := hF q
          refine PW_aload_n zd_R_read_71 rfl ?_
          refine PW_callV0v zd_R_read_72 zl_R_58 zk_R_readSize zv_R_readSize (fr' := 3) (by decide) (zs_4 _) rfl rfl (Nat.le_of_ble_eq_true rfl) ?_
          refine ms_mono h ?_
          rintro v σ1 ⟨rfl, h⟩
          refine ⟨rfl, ?_⟩
          refine PW_goto zd_R_read_75 ?_
          exact PW_sub (by exact ⟨rfl, rfl, trivial⟩) (kb_R_read_108 hrU hK38 h)
theorem kl_R_read_38 {G : zG} {rU : Nat} {length : Int} {X : zX} (hrU : zisT rU) {x3 : Int} {σ : zPH} (h : zLP1 (b_R_read_38 G rU length X ) x3 σ) : PW G zm_R_read 42 X 38 [some (zr G 4), none, none, some (iZ x3)] [] σ := by
  obtain ⟨n, h⟩ := h
  induction n generalizing x3 σ with
  | zero => exact h.elim
  | succ n ih => exact kb_R_read_38 hrU  (fun _ _ h => ih h) h
def w_R_read (G : zG) (rU : Nat) (length : Int) (X : zX) (σ : zPH) : Prop :=
  ∀ σ2 : zPH, σ2 = zupd σ 4 0 0 →
  ∀ σ7 : zPH, σ7 = zupd σ2 4 1 (-1) →
  MS G zm_K_split 8 [zr G 8, zr G 1, iZ length] σ7 (fun v σ16 =>
    v = none ∧
    ∀ σ21 : zPH, σ21 = zupd σ16 4 3 0 →
    ∀ σ26 : zPH, σ26 = zupd σ21 4 8 0 →
    σ26 4 4 = ((rU : Nat) : Int) ∧
    MS G zm_T_clear 1 [zr G rU] σ26 (fun v σ33 =>
      v = none ∧
      zLP1 (b_R_read_38 G rU length X ) 0 σ33))
set_option maxHeartbeats 4000000 in
theorem k_R_read {G : zG} {rU : Nat} {length : Int} {X : zX} (hrU : zisT rU) {σ : zPH} (h : w_R_read G rU length X σ) : MS G zm_R_read 42 [zr G 4, zr G 1, iZ length] σ X := by
  refine ms_of zk_R_read (Nat.le_of_ble_eq_true rfl) (ls := [some (zr G 4), some (zr G 1), some (iZ length), none]) rfl ?_
  unfold w_R_read at h
  refine PW_aload_n zd_R_read_0 rfl ?_
  refine PW_iconst zd_R_read_1 ?_
  refine PW_putI zd_R_read_2 zp_R_39 (zs_4 _) rfl ?_
  have h := h _ rfl
  refine PW_aload_n zd_R_read_5 rfl ?_
  refine PW_iconst zd_R_read_6 ?_
  refine PW_putI zd_R_read_7 zp_R_9 (zs_4 _) rfl ?_
  have h := h _ rfl
  refine PW_aload_n zd_R_read_10 rfl ?_
  refine PW_getR zd_R_read_11 zf_R_18 (zs_4 _) rfl ?_
  refine PW_aload_n zd_R_read_14 rfl ?_
  refine PW_iload_n zd_R_read_15 rfl ?_
  refine PW_callV2v zd_R_read_16 zl_R_42 zk_K_split zv_K_split (fr' := 8) (by decide) (zs_8 _) rfl rfl (Nat.le_of_ble_eq_true rfl) ?_
  refine ms_mono h ?_
  rintro v σ1 ⟨rfl, h⟩
  refine ⟨rfl, ?_⟩
  refine PW_aload_n zd_R_read_19 rfl ?_
  refine PW_iconst zd_R_read_20 ?_
  refine PW_putI zd_R_read_21 zp_R_46 (zs_4 _) rfl ?_
  have h := h _ rfl
  refine PW_aload_n zd_R_read_24 rfl ?_
  refine PW_iconst zd_R_read_25 ?_
  refine PW_putI zd_R_read_26 zp_R_49 (zs_4 _) rfl ?_
  have h := h _ rfl
  refine PW_aload_n zd_R_read_29 rfl ?_
  obtain ⟨h0, h⟩ := h
  refine PW_getD zd_R_read_30 zf_R_25 (zs_4 _) rfl h0 ?_
  refine PW_callV0v zd_R_read_33 zl_R_52 zk_T_clear zv_T_clear (fr' := 1) (by decide) (zsT_0 hrU) rfl rfl (Nat.le_of_ble_eq_true rfl) ?_
  refine ms_mono h ?_
  rintro v σ1 ⟨rfl, h⟩
  refine ⟨rfl, ?_⟩
  refine PW_iconst zd_R_read_36 ?_
  refine PW_istore_n zd_R_read_37 rfl (by decide) (ls2 := [_, _, _, _]) rfl ?_
  exact PW_sub (by exact ⟨rfl, rfl, trivial⟩) (kl_R_read_38 hrU  h)
def w_R_readSize (G : zG) (rU : Nat) (X : zX) (σ : zPH) : Prop :=
  MS G zm_R_expect 2 [zr G 4, iZ 0] σ (fun v σ2 =>
    v = none ∧
    MS G zm_R_readNumber 2 [zr G 4, iZ 2, iZ 12] σ2 (fun v σ9 =>
      ∃ z9 : Int, v = some (iZ z9) ∧
      MS G zm_R_advance 0 [zr G 4] σ9 (fun v σ14 =>
        v = none ∧
        MS G zm_R_readNumber 2 [zr G 4, iZ 2, iZ 12] σ14 (fun v σ21 =>
          ∃ z21 : Int, v = some (iZ z21) ∧
          MS G zm_R_advance 0 [zr G 4] σ21 (fun v σ26 =>
            v = none ∧
            (zI (σ26 4 0)) ∧
            ((σ26 4 0) ≠ 0 →
              X none σ26) ∧
            ((σ26 4 0) = 0 →
              σ26 4 4 = ((rU : Nat) : Int) ∧
              MS G zm_T_resize 0 [zr G rU, iZ z9, iZ z21] σ26 (fun v σ42 =>
                v = none ∧
                X none σ42)))))))
set_option maxHeartbeats 4000000 in
theorem k_R_readSize {G : zG} {rU : Nat} {X : zX} (hrU : zisT rU) {σ : zPH} (h : w_R_readSize G rU X σ) : MS G zm_R_readSize 3 [zr G 4] σ X := by
  refine ms_of zk_R_readSize (Nat.le_of_ble_eq_true rfl) (ls := [some (zr G 4), none, none]) rfl ?_
  unfold w_R_readSize at h
  refine PW_aload_n zd_R_readSize_0 rfl ?_
  refine PW_iconst zd_R_readSize_1 ?_
  refine PW_callV1v zd_R_readSize_2 zl_R_81 zk_R_expect zv_R_expect (fr' := 2) (by decide) (zs_4 _) rfl rfl (Nat.le_of_ble_eq_true rfl) ?_
  refine ms_mono h ?_
  rintro v σ1 ⟨rfl, h⟩
  refine ⟨rfl, ?_⟩
  refine PW_aload_n zd_R_readSize_5 rfl ?_
  refine PW_iconst zd_R_readSize_6 ?_
  refine PW_bipush zd_R_readSize_7 rfl ?_
  refine PW_callV2i zd_R_readSize_9 zl_R_84 zk_R_readNumber zv_R_readNumber (fr' := 2) (by decide) (zs_4 _) rfl rfl (Nat.le_of_ble_eq_true rfl) ?_
  refine ms_mono h ?_
  rintro v σ1 ⟨z, rfl, h⟩
  refine ⟨z, rfl, ?_⟩
  refine PW_istore_n zd_R_readSize_12 rfl (by decide) (ls2 := [_, _, _]) rfl ?_
  refine PW_aload_n zd_R_readSize_13 rfl ?_
  refine PW_callV0v zd_R_readSize_14 zl_R_88 zk_R_advance zv_R_advance (fr' := 0) (by decide) (zs_4 _) rfl rfl (Nat.le_of_ble_eq_true rfl) ?_
  refine ms_mono h ?_
  rintro v σ1 ⟨rfl, h⟩
  refine ⟨rfl, ?_⟩
  refine PW_aload_n zd_R_readSize_17 rfl ?_
  refine PW_iconst zd_R_readSize_18 ?_
  refine PW_bipush zd_R_readSize_19 rfl ?_
  refine PW_callV2i zd_R_readSize_21 zl_R_84 zk_R_readNumber zv_R_readNumber (fr' := 2) (by decide) (zs_4 _) rfl rfl (Nat.le_of_ble_eq_true rfl) ?_
  refine ms_mono h ?_
  rintro v σ1 ⟨z, rfl, h⟩
  refine ⟨z, rfl, ?_⟩
  refine PW_istore_n zd_R_readSize_24 rfl (by decide) (ls2 := [_, _, _]) rfl ?_
  refine PW_aload_n zd_R_readSize_25 rfl ?_
  refine PW_callV0v zd_R_readSize_26 zl_R_88 zk_R_advance zv_R_advance (fr' := 0) (by decide) (zs_4 _) rfl rfl (Nat.le_of_ble_eq_true rfl) ?_
  refine ms_mono h ?_
  rintro v σ1 ⟨rfl, h⟩
  refine ⟨rfl, ?_⟩
  refine PW_aload_n zd_R_readSize_29 rfl ?_
  refine PW_getI zd_R_readSize_30 zf_R_39 (zs_4 _) rfl ?_
  obtain ⟨h0, hT, hF⟩ := h
  refine PW_if_ne zd_R_readSize_33 h0 (fun q => ?_) (fun q => ?_)
  · have h := hT q
    exact PW_vret zd_R_readSize_45 rfl h
  · have h := hF q
    refine PW_aload_n zd_R_readSize_36 rfl ?_
    obtain ⟨h0, h⟩ := h
    refine PW_getD zd_R_readSize_37 zf_R_25 (zs_4 _) rfl h0 ?_
    refine PW_iload_n zd_R_readSize_40 rfl ?_
    refine PW_iload_n zd_R_readSize_41 rfl ?_
    refine PW_callV2v zd_R_readSize_42 zl_R_91 zk_T_resize zv_T_resize (fr' := 0) (by decide) (zsT_0 hrU) rfl rfl (Nat.le_of_ble_eq_true rfl) ?_
    refine ms_mono h ?_
    rintro v σ1 ⟨rfl, h⟩
    refine ⟨rfl, ?_⟩
    exact PW_vret zd_R_readSize_45 rfl h
def b_R_readPiece_237 (G : zG) (rU : Nat) (X : zX) (x1 x2 x3 : Int) (σ : zPH) : Prop :=
  MS G zm_R_readSquare 3 [zr G 4] σ (fun v σ238 =>
    ∃ z238 : Int, v = some (iZ z238) ∧
    (zI (σ238 4 0)) ∧
    ((σ238 4 0) ≠ 0 →
      X none σ238) ∧
    ((σ238 4 0) = 0 →
      σ238 4 4 = ((rU : Nat) : Int) ∧
      MS G zm_T_add 1 [zr G rU, iZ x1, iZ x2, iZ x3, iZ z238] σ238 (fun v σ259 =>
        v = none ∧
        X none σ259)))
set_option maxHeartbeats 4000000 in
theorem kb_R_readPiece_237 {G : zG} {rU : Nat} {X : zX} (hrU : zisT rU) {x1 x2 x3 : Int} {σ : zPH} (h : b_R_readPiece_237 G rU X  x1 x2 x3 σ) : PW G zm_R_readPiece 41 X 237 [some (zr G 4), some (iZ x1), some (iZ x2), some (iZ x3), none] [] σ := by
  unfold b_R_readPiece_237 at h
  refine PW_aload_n zd_R_readPiece_237 rfl ?_
  refine PW_callV0i zd_R_readPiece_238 zl_R_117 zk_R_readSquare zv_R_readSquare (fr' := 3) (by decide) (zs_4 _) rfl rfl (Nat.le_of_ble_eq_true rfl) ?_
  refine ms_mono h ?_
  rintro v σ1 ⟨z, rfl, h⟩
  refine ⟨z, rfl, ?_⟩
  refine PW_istore zd_R_readPiece_241 rfl (by decide) (ls2 := [_, _, _, _, _]) rfl ?_
  refine PW_aload_n zd_R_readPiece_243 rfl ?_
  refine PW_getI zd_R_readPiece_244 zf_R_39 (zs_4 _) rfl ?_
  obtain ⟨h0, hT, hF⟩ := h
  refine PW_if_ne zd_R_readPiece_247 h0 (fun q => ?_) (fun q => ?_)
  · have h := hT q
    exact PW_vret zd_R_readPiece_262 rfl h
  · have h := hF q
    refine PW_aload_n zd_R_readPiece_250 rfl ?_
    obtain ⟨h0, h⟩ := h
    refine PW_getD zd_R_readPiece_251 zf_R_25 (zs_4 _) rfl h0 ?_
    refine PW_iload_n zd_R_readPiece_254 rfl ?_
    refine PW_iload_n zd_R_readPiece_255 rfl ?_
    refine PW_iload_n zd_R_readPiece_256 rfl ?_
    refine PW_iload zd_R_readPiece_257 rfl ?_
    refine PW_callV4v zd_R_readPiece_259 zl_R_121 zk_T_add zv_T_add (fr' := 1) (by decide) (zsT_0 hrU) rfl rfl (Nat.le_of_ble_eq_true rfl) ?_
    refine ms_mono h ?_
    rintro v σ1 ⟨rfl, h⟩
    refine ⟨rfl, ?_⟩
    exact PW_vret zd_R_readPiece_262 rfl h
def b_R_readPiece_81 (G : zG) (rU : Nat) (X : zX) (x1 : Int) (σ : zPH) : Prop :=
  MS G zm_R_advance 0 [zr G 4] σ (fun v σ82 =>
    v = none ∧
    zI x1 ∧
    (x1 = 1 →
      MS G zm_R_choose 1 [zr G 4, iZ 12, iZ 15] σ82 (fun v σ145 =>
        ∃ z145 : Int, v = some (iZ z145) ∧
        MS G zm_R_colourOf 0 [iZ z145] σ145 (fun v σ148 =>
          ∃ z148 : Int, v = some (iZ z148) ∧
          MS G zm_R_choose 1 [zr G 4, iZ 16, iZ 19] σ148 (fun v σ157 =>
            ∃ z157 : Int, v = some (iZ z157) ∧
            b_R_readPiece_237 G rU X  x1 z148 z157 σ157)))) ∧
    (x1 = 2 ∨ x1 = 3 →
      MS G zm_R_choose 1 [zr G 4, iZ 20, iZ 21] σ82 (fun v σ184 =>
        ∃ z184 : Int, v = some (iZ z184) ∧
        b_R_readPiece_237 G rU X  x1 z184 (-1) σ184)) ∧
    (x1 = 4 →
      MS G zm_R_choose 1 [zr G 4, iZ 12, iZ 15] σ82 (fun v σ169 =>
        ∃ z169 : Int, v = some (iZ z169) ∧
        MS G zm_R_colourOf 0 [iZ z169] σ169 (fun v σ172 =>
          ∃ z172 : Int, v = some (iZ z172) ∧
          b_R_readPiece_237 G rU X  x1 z172 (-1) σ172))) ∧
    (x1 = 7 →
      MS G zm_R_readNewName 2 [zr G 4] σ82 (fun v σ192 =>
        v = none ∧
        b_R_readPiece_237 G rU X  x1 (-1) (-1) σ192)) ∧
    (x1 = 8 →
      MS G zm_R_expect 2 [zr G 4, iZ 11] σ82 (fun v σ203 =>
        v = none ∧
        MS G zm_R_readTest 40 [zr G 4, iZ 0] σ203 (fun v σ208 =>
          v = none ∧
          b_R_readPiece_237 G rU X  x1 0 (-1) σ208))) ∧
    (x1 = 9 →
      MS G zm_R_choose 1 [zr G 4, iZ 20, iZ 21] σ82 (fun v σ219 =>
        ∃ z219 : Int, v = some (iZ z219) ∧
        MS G zm_R_expect 2 [zr G 4, iZ 11] σ219 (fun v σ226 =>
          v = none ∧
          MS G zm_R_readTest 40 [zr G 4, iZ 0] σ226 (fun v σ231 =>
            v = none ∧
            b_R_readPiece_237 G rU X  x1 z219 (-1) σ231)))) ∧
    ((x1 < 1 ∨ 9 < x1 ∨ x1 = 5 ∨ x1 = 6) →
      b_R_readPiece_237 G rU X  x1 (-1) (-1) σ82))
set_option maxHeartbeats 4000000 in
theorem kb_R_readPiece_81 {G : zG} {rU : Nat} {X : zX} (hrU : zisT rU) {x1 : Int} {σ : zPH} (h : b_R_readPiece_81 G rU X  x1 σ) : PW G zm_R_readPiece 41 X 81 [some (zr G 4), some (iZ x1), none, none, none] [] σ := by
  unfold b_R_readPiece_81 at h
  refine PW_aload_n zd_R_readPiece_81 rfl ?_
  refine PW_callV0v zd_R_readPiece_82 zl_R_88 zk_R_advance zv_R_advance (fr' := 0) (by decide) (zs_4 _) rfl rfl (Nat.le_of_ble_eq_true rfl) ?_
  refine ms_mono h ?_
  rintro v σ1 ⟨rfl, h⟩
  refine ⟨rfl, ?_⟩
  refine PW_iconst zd_R_readPiece_85 ?_
  refine PW_istore_n zd_R_readPiece_86 rfl (by decide) (ls2 := [_, _, _, _, _]) rfl ?_
  refine PW_iconst zd_R_readPiece_87 ?_
  refine PW_istore_n zd_R_readPiece_88 rfl (by decide) (ls2 := [_, _, _, _, _]) rfl ?_
  refine PW_iload_n zd_R_readPiece_89 rfl ?_
  obtain ⟨h0, h⟩ := h
  obtain ⟨hc0, hc1, hc2, hc3, hc4, hc5, hcd⟩ := h
  refine PW_tsplit 1 9 (fun c hx hlo hhi => ?_) (fun hx => ?_)
  · rcases (show c = 1 ∨ c = 2 ∨ c = 3 ∨ c = 4 ∨ c = 5 ∨ c = 6 ∨ c = 7 ∨ c = 8 ∨ c = 9 by omega) with rfl | rfl | rfl | rfl | rfl | rfl | rfl | rfl | rfl
    · refine PW_tsin (tgt := 140) zd_R_readPiece_90 1 hx (by decide) rfl (by decide) ?_
      have h := hc0 (by omega)
      refine PW_aload_n zd_R_readPiece_140 rfl ?_
      refine PW_bipush zd_R_readPiece_141 rfl ?_
      refine PW_bipush zd_R_readPiece_143 rfl ?_
      refine PW_callV2i zd_R_readPiece_145 zl_R_105 zk_R_choose zv_R_choose (fr' := 1) (by decide) (zs_4 _) rfl rfl (Nat.le_of_ble_eq_true rfl) ?_
      refine ms_mono h ?_
      rintro v σ1 ⟨z, rfl, h⟩
      refine ⟨z, rfl, ?_⟩
      refine PW_callS1i zd_R_readPiece_148 zl_R_108 zk_R_colourOf zv_R_colourOf (fr' := 0) (by decide) (Nat.le_of_ble_eq_true rfl) ?_
      refine ms_mono h ?_
      rintro v σ1 ⟨z, rfl, h⟩
      refine ⟨z, rfl, ?_⟩
      refine PW_istore_n zd_R_readPiece_151 rfl (by decide) (ls2 := [_, _, _, _, _]) rfl ?_
      refine PW_aload_n zd_R_readPiece_152 rfl ?_
      refine PW_bipush zd_R_readPiece_153 rfl ?_
      refine PW_bipush zd_R_readPiece_155 rfl ?_
      refine PW_callV2i zd_R_readPiece_157 zl_R_105 zk_R_choose zv_R_choose (fr' := 1) (by decide) (zs_4 _) rfl rfl (Nat.le_of_ble_eq_true rfl) ?_
      refine ms_mono h ?_
      rintro v σ1 ⟨z, rfl, h⟩
      refine ⟨z, rfl, ?_⟩
      refine PW_istore_n zd_R_readPiece_160 rfl (by decide) (ls2 := [_, _, _, _, _]) rfl ?_
      refine PW_goto zd_R_readPiece_161 ?_
      exact PW_sub (by exact ⟨rfl, rfl, rfl, rfl, trivial⟩) (kb_R_readPiece_237 hrU  h)
    · refine PW_tsin (tgt := 179) zd_R_readPiece_90 2 hx (by decide) rfl (by decide) ?_
      have h := hc1 (by omega)
      refine PW_aload_n zd_R_readPiece_179 rfl ?_
      refine PW_bipush zd_R_readPiece_180 rfl ?_
      refine PW_bipush zd_R_readPiece_182 rfl ?_
      refine PW_callV2i zd_R_readPiece_184 zl_R_105 zk_R_choose zv_R_choose (fr' := 1) (by decide) (zs_4 _) rfl rfl (Nat.le_of_ble_eq_true rfl) ?_
      refine ms_mono h ?_
      rintro v σ1 ⟨z, rfl, h⟩
      refine ⟨z, rfl, ?_⟩
      refine PW_istore_n zd_R_readPiece_187 rfl (by decide) (ls2 := [_, _, _, _, _]) rfl ?_
      refine PW_goto zd_R_readPiece_188 ?_
      exact PW_sub (by exact ⟨rfl, rfl, rfl, rfl, trivial⟩) (kb_R_readPiece_237 hrU  h)
    · refine PW_tsin (tgt := 179) zd_R_readPiece_90 3 hx (by decide) rfl (by decide) ?_
      have h := hc1 (by omega)
      refine PW_aload_n zd_R_readPiece_179 rfl ?_
      refine PW_bipush zd_R_readPiece_180 rfl ?_
      refine PW_bipush zd_R_readPiece_182 rfl ?_
      refine PW_callV2i zd_R_readPiece_184 zl_R_105 zk_R_choose zv_R_choose (fr' := 1) (by decide) (zs_4 _) rfl rfl (Nat.le_of_ble_eq_true rfl) ?_
      refine ms_mono h ?_
      rintro v σ1 ⟨z, rfl, h⟩
      refine ⟨z, rfl, ?_⟩
      refine PW_istore_n zd_R_readPiece_187 rfl (by decide) (ls2 := [_, _, _, _, _]) rfl ?_
      refine PW_goto zd_R_readPiece_188 ?_
      exact PW_sub (by exact ⟨rfl, rfl, rfl, rfl, trivial⟩) (kb_R_readPiece_237 hrU  h)
    · refine PW_tsin (tgt := 164) zd_R_readPiece_90 4 hx (by decide) rfl (by decide) ?_
      have h := hc2 (by omega)
      refine PW_aload_n zd_R_readPiece_164 rfl ?_
      refine PW_bipush zd_R_readPiece_165 rfl ?_
      refine PW_bipush zd_R_readPiece_167 rfl ?_
      refine PW_callV2i zd_R_readPiece_169 zl_R_105 zk_R_choose zv_R_choose (fr' := 1) (by decide) (zs_4 _) rfl rfl (Nat.le_of_ble_eq_true rfl) ?_
      refine ms_mono h ?_
      rintro v σ1 ⟨z, rfl, h⟩
      refine ⟨z, rfl, ?_⟩
      refine PW_callS1i zd_R_readPiece_172 zl_R_108 zk_R_colourOf zv_R_colourOf (fr' := 0) (by decide) (Nat.le_of_ble_eq_true rfl) ?_
      refine ms_mono h ?_
      rintro v σ1 ⟨z, rfl, h⟩
      refine ⟨z, rfl, ?_⟩
      refine PW_istore_n zd_R_readPiece_175 rfl (by decide) (ls2 := [_, _, _, _, _]) rfl ?_
      refine PW_goto zd_R_readPiece_176 ?_
      exact PW_sub (by exact ⟨rfl, rfl, rfl, rfl, trivial⟩) (kb_R_readPiece_237 hrU  h)
    · refine PW_tsin (tgt := 237) zd_R_readPiece_90 5 hx (by decide) rfl (by decide) ?_
      have h := hcd (by omega)
      exact PW_sub (by exact ⟨rfl, rfl, rfl, rfl, trivial⟩) (kb_R_readPiece_237 hrU  h)
    · refine PW_tsin (tgt := 237) zd_R_readPiece_90 6 hx (by decide) rfl (by decide) ?_
      have h := hcd (by omega)
      exact PW_sub (by exact ⟨rfl, rfl, rfl, rfl, trivial⟩) (kb_R_readPiece_237 hrU  h)
    · refine PW_tsin (tgt := 191) zd_R_readPiece_90 7 hx (by decide) rfl (by decide) ?_
      have h := hc3 (by omega)
      refine PW_aload_n zd_R_readPiece_191 rfl ?_
      refine PW_callV0v zd_R_readPiece_192 zl_R_111 zk_R_readNewName zv_R_readNewName (fr' := 2) (by decide) (zs_4 _) rfl rfl (Nat.le_of_ble_eq_true rfl) ?_
      refine ms_mono h ?_
      rintro v σ1 ⟨rfl, h⟩
      refine ⟨rfl, ?_⟩
      refine PW_goto zd_R_readPiece_195 ?_
      exact PW_sub (by exact ⟨rfl, rfl, rfl, rfl, trivial⟩) (kb_R_readPiece_237 hrU  h)
    · refine PW_tsin (tgt := 198) zd_R_readPiece_90 8 hx (by decide) rfl (by decide) ?_
      have h := hc4 (by omega)
      refine PW_iconst zd_R_readPiece_198 ?_
      refine PW_istore_n zd_R_readPiece_199 rfl (by decide) (ls2 := [_, _, _, _, _]) rfl ?_
      refine PW_aload_n zd_R_readPiece_200 rfl ?_
      refine PW_bipush zd_R_readPiece_201 rfl ?_
      refine PW_callV1v zd_R_readPiece_203 zl_R_81 zk_R_expect zv_R_expect (fr' := 2) (by decide) (zs_4 _) rfl rfl (Nat.le_of_ble_eq_true rfl) ?_
      refine ms_mono h ?_
      rintro v σ1 ⟨rfl, h⟩
      refine ⟨rfl, ?_⟩
      refine PW_aload_n zd_R_readPiece_206 rfl ?_
      refine PW_iconst zd_R_readPiece_207 ?_
      refine PW_callV1v zd_R_readPiece_208 zl_R_114 zk_R_readTest zv_R_readTest (fr' := 40) (by decide) (zs_4 _) rfl rfl (Nat.le_of_ble_eq_true rfl) ?_
      refine ms_mono h ?_
      rintro v σ1 ⟨rfl, h⟩
      refine ⟨rfl, ?_⟩
      refine PW_goto zd_R_readPiece_211 ?_
      exact PW_sub (by exact ⟨rfl, rfl, rfl, rfl, trivial⟩) (kb_R_readPiece_237 hrU  h)
    · refine PW_tsin (tgt := 214) zd_R_readPiece_90 9 hx (by decide) rfl (by decide) ?_
      have h := hc5 (by omega)
      refine PW_aload_n zd_R_readPiece_214 rfl ?_
      refine PW_bipush zd_R_readPiece_215 rfl ?_
      refine PW_bipush zd_R_readPiece_217 rfl ?_
      refine PW_callV2i zd_R_readPiece_219 zl_R_105 zk_R_choose zv_R_choose (fr' := 1) (by decide) (zs_4 _) rfl rfl (Nat.le_of_ble_eq_true rfl) ?_
      refine ms_mono h ?_
      rintro v σ1 ⟨z, rfl, h⟩
      refine ⟨z, rfl, ?_⟩
      refine PW_istore_n zd_R_readPiece_222 rfl (by decide) (ls2 := [_, _, _, _, _]) rfl ?_
      refine PW_aload_n zd_R_readPiece_223 rfl ?_
      refine PW_bipush zd_R_readPiece_224 rfl ?_
      refine PW_callV1v zd_R_readPiece_226 zl_R_81 zk_R_expect zv_R_expect (fr' := 2) (by decide) (zs_4 _) rfl rfl (Nat.le_of_ble_eq_true rfl) ?_
      refine ms_mono h ?_
      rintro v σ1 ⟨rfl, h⟩
      refine ⟨rfl, ?_⟩
      refine PW_aload_n zd_R_readPiece_229 rfl ?_
      refine PW_iconst zd_R_readPiece_230 ?_
      refine PW_callV1v zd_R_readPiece_231 zl_R_114 zk_R_readTest zv_R_readTest (fr' := 40) (by decide) (zs_4 _) rfl rfl (Nat.le_of_ble_eq_true rfl) ?_
      refine ms_mono h ?_
      rintro v σ1 ⟨rfl, h⟩
      refine ⟨rfl, ?_⟩
      refine PW_goto zd_R_readPiece_234 ?_
      exact PW_sub (by exact ⟨rfl, rfl, rfl, rfl, trivial⟩) (kb_R_readPiece_237 hrU  h)
  · refine PW_tsout (tgt := 237) zd_R_readPiece_90 (by omega) (by decide) ?_
    have h := hcd (by omega)
    exact PW_sub (by exact ⟨rfl, rfl, rfl, rfl, trivial⟩) (kb_R_readPiece_237 hrU  h)
def b_R_readPiece_43 (G : zG) (rU : Nat) (X : zX) (x1 : Int) (σ : zPH) : Prop :=
  MS G zm_R_refuseToken 1 [zr G 4] σ (fun v σ44 =>
    v = none ∧
    b_R_readPiece_81 G rU X  x1 σ44)
set_option maxHeartbeats 4000000 in
theorem kb_R_readPiece_43 {G : zG} {rU : Nat} {X : zX} (hrU : zisT rU) {x1 : Int} {σ : zPH} (h : b_R_readPiece_43 G rU X  x1 σ) : PW G zm_R_readPiece 41 X 43 [some (zr G 4), some (iZ x1), none, none, none] [] σ := by
  unfold b_R_readPiece_43 at h
  refine PW_aload_n zd_R_readPiece_43 rfl ?_
  refine PW_callV0v zd_R_readPiece_44 zl_R_75 zk_R_refuseToken zv_R_refuseToken (fr' := 1) (by decide) (zs_4 _) rfl rfl (Nat.le_of_ble_eq_true rfl) ?_
  refine ms_mono h ?_
  rintro v σ1 ⟨rfl, h⟩
  refine ⟨rfl, ?_⟩
  refine PW_goto zd_R_readPiece_47 ?_
  exact PW_sub (by exact ⟨rfl, rfl, trivial⟩) (kb_R_readPiece_81 hrU  h)
def b_R_readPiece_31 (G : zG) (rU : Nat) (X : zX) (s0 : Int) (σ : zPH) : Prop :=
  (zI s0) ∧
  (s0 < 1 →
    b_R_readPiece_43 G rU X  s0 σ) ∧
  (1 ≤ s0 →
    (zI s0) ∧
    (s0 ≤ 9 →
      σ 4 4 = ((rU : Nat) : Int) ∧
      MS G zm_T_groupOf 0 [iZ s0] σ (fun v σ55 =>
        ∃ z55 : Int, v = some (iZ z55) ∧
        MS G zm_T_isFull 0 [zr G rU, iZ z55] σ55 (fun v σ58 =>
          (v = some (iZ 0) ∧
            b_R_readPiece_81 G rU X  s0 σ58) ∨
          (v = some (iZ 1) ∧
            (0 ≤ (σ58 4 3) ∧ (σ58 4 3) < 1601) ∧
            MS G zm_R_refuse 0 [zr G 4, iZ 5, iZ (σ58 11 (σ58 4 3).toNat)] σ58 (fun v σ78 =>
              v = none ∧
              b_R_readPiece_81 G rU X  s0 σ78))))) ∧
    (9 < s0 →
      b_R_readPiece_43 G rU X  s0 σ))
set_option maxHeartbeats 4000000 in
theorem kb_R_readPiece_31 {G : zG} {rU : Nat} {X : zX} (hrU : zisT rU) {s0 : Int} {σ : zPH} (h : b_R_readPiece_31 G rU X  s0 σ) : PW G zm_R_readPiece 41 X 31 [some (zr G 4), none, none, none, none] [iZ s0] σ := by
  unfold b_R_readPiece_31 at h
  refine PW_istore_n zd_R_readPiece_31 rfl (by decide) (ls2 := [_, _, _, _, _]) rfl ?_
  refine PW_iload_n zd_R_readPiece_32 rfl ?_
  refine PW_iconst zd_R_readPiece_33 ?_
  obtain ⟨h0, hT, hF⟩ := h
  refine PW_icmp_lt zd_R_readPiece_34 ⟨h0, by decide⟩ (fun q => ?_) (fun q => ?_)
  · have h := hT q
    exact PW_sub (by exact ⟨rfl, rfl, trivial⟩) (kb_R_readPiece_43 hrU  h)
  · have h := hF q
    refine PW_iload_n zd_R_readPiece_37 rfl ?_
    refine PW_bipush zd_R_readPiece_38 rfl ?_
    obtain ⟨h0, hT, hF⟩ := h
    refine PW_icmp_le zd_R_readPiece_40 ⟨h0, by decide⟩ (fun q => ?_) (fun q => ?_)
    · have h := hT q
      refine PW_aload_n zd_R_readPiece_50 rfl ?_
      obtain ⟨h0, h⟩ := h
      refine PW_getD zd_R_readPiece_51 zf_R_25 (zs_4 _) rfl h0 ?_
      refine PW_iload_n zd_R_readPiece_54 rfl ?_
      refine PW_callS1i zd_R_readPiece_55 zl_R_97 zk_T_groupOf zv_T_groupOf (fr' := 0) (by decide) (Nat.le_of_ble_eq_true rfl) ?_
      refine ms_mono h ?_
      rintro v σ1 ⟨z, rfl, h⟩
      refine ⟨z, rfl, ?_⟩
      refine PW_callV1i zd_R_readPiece_58 zl_R_101 zk_T_isFull zv_T_isFull (fr' := 0) (by decide) (zsT_0 hrU) rfl rfl (Nat.le_of_ble_eq_true rfl) ?_
      refine ms_mono h ?_
      rintro v σ1 (⟨rfl, h⟩ | ⟨rfl, h⟩)
      · refine ⟨0, rfl, ?_⟩
        refine PW_if_eq zd_R_readPiece_61 (by decide) (fun _ => ?_) (fun q => absurd rfl q)
        exact PW_sub (by exact ⟨rfl, rfl, trivial⟩) (kb_R_readPiece_81 hrU  h)
      · refine ⟨1, rfl, ?_⟩
        refine PW_if_eq zd_R_readPiece_61 (by decide) (fun q => absurd q (by decide)) (fun _ => ?_)
        refine PW_aload_n zd_R_readPiece_64 rfl ?_
        refine PW_iconst zd_R_readPiece_65 ?_
        refine PW_aload_n zd_R_readPiece_66 rfl ?_
        refine PW_getR zd_R_readPiece_67 zf_R_18 (zs_4 _) rfl ?_
        refine PW_getR zd_R_readPiece_70 zf_R_61 (zs_8 _) rfl ?_
        refine PW_aload_n zd_R_readPiece_73 rfl ?_
        refine PW_getI zd_R_readPiece_74 zf_R_46 (zs_4 _) rfl ?_
        obtain ⟨h0, h⟩ := h
        refine PW_iaload zd_R_readPiece_77 (zs_11 _) h0 ?_
        refine PW_callV2v zd_R_readPiece_78 zl_R_64 zk_R_refuse zv_R_refuse (fr' := 0) (by decide) (zs_4 _) rfl rfl (Nat.le_of_ble_eq_true rfl) ?_
        refine ms_mono h ?_
        rintro v σ1 ⟨rfl, h⟩
        refine ⟨rfl, ?_⟩
        exact PW_sub (by exact ⟨rfl, rfl, trivial⟩) (kb_R_readPiece_81 hrU  h)
    · have h := hF q
      exact PW_sub (by exact ⟨rfl, rfl, trivial⟩) (kb_R_readPiece_43 hrU  h)
def w_R_readPiece (G : zG) (rU : Nat) (X : zX) (σ : zPH) : Prop :=
  (0 ≤ (σ 4 3) ∧ (σ 4 3) < 1601) ∧
  (zI (σ 9 (σ 4 3).toNat)) ∧
  ((σ 9 (σ 4 3).toNat) ≠ 0 →
    b_R_readPiece_31 G rU X  (-1) σ) ∧
  ((σ 9 (σ 4 3).toNat) = 0 →
    (0 ≤ (σ 4 3) ∧ (σ 4 3) < 1601) ∧
    b_R_readPiece_31 G rU X  (σ 10 (σ 4 3).toNat) σ)
set_option maxHeartbeats 4000000 in
theorem k_R_readPiece {G : zG} {rU : Nat} {X : zX} (hrU : zisT rU) {σ : zPH} (h : w_R_readPiece G rU X σ) : MS G zm_R_readPiece 41 [zr G 4] σ X := by
  refine ms_of zk_R_readPiece (Nat.le_of_ble_eq_true rfl) (ls := [some (zr G 4), none, none, none, none]) rfl ?_
  unfold w_R_readPiece at h
  refine PW_aload_n zd_R_readPiece_0 rfl ?_
  refine PW_getR zd_R_readPiece_1 zf_R_18 (zs_4 _) rfl ?_
  refine PW_getR zd_R_readPiece_4 zf_R_55 (zs_8 _) rfl ?_
  refine PW_aload_n zd_R_readPiece_7 rfl ?_
  refine PW_getI zd_R_readPiece_8 zf_R_46 (zs_4 _) rfl ?_
  obtain ⟨h0, h⟩ := h
  refine PW_iaload zd_R_readPiece_11 (zs_9 _) h0 ?_
  obtain ⟨h0, hT, hF⟩ := h
  refine PW_if_ne zd_R_readPiece_12 h0 (fun q => ?_) (fun q => ?_)
  · have h := hT q
    refine PW_iconst zd_R_readPiece_30 ?_
    exact PW_sub (by exact ⟨rfl, trivial⟩) (kb_R_readPiece_31 hrU  h)
  · have h := hF q
    refine PW_aload_n zd_R_readPiece_15 rfl ?_
    refine PW_getR zd_R_readPiece_16 zf_R_18 (zs_4 _) rfl ?_
    refine PW_getR zd_R_readPiece_19 zf_R_94 (zs_8 _) rfl ?_
    refine PW_aload_n zd_R_readPiece_22 rfl ?_
    refine PW_getI zd_R_readPiece_23 zf_R_46 (zs_4 _) rfl ?_
    obtain ⟨h0, h⟩ := h
    refine PW_iaload zd_R_readPiece_26 (zs_10 _) h0 ?_
    refine PW_goto zd_R_readPiece_27 ?_
    exact PW_sub (by exact ⟨rfl, trivial⟩) (kb_R_readPiece_31 hrU  h)
def b_R_readNewName_104 (G : zG) (rU : Nat) (X : zX) (σ : zPH) : Prop :=
  MS G zm_R_advance 0 [zr G 4] σ (fun v σ105 =>
    v = none ∧
    X none σ105)
set_option maxHeartbeats 4000000 in
theorem kb_R_readNewName_104 {G : zG} {rU : Nat} {X : zX} (hrU : zisT rU) {σ : zPH} (h : b_R_readNewName_104 G rU X   σ) : PW G zm_R_readNewName 2 X 104 [some (zr G 4), none] [] σ := by
  unfold b_R_readNewName_104 at h
  refine PW_aload_n zd_R_readNewName_104 rfl ?_
  refine PW_callV0v zd_R_readNewName_105 zl_R_88 zk_R_advance zv_R_advance (fr' := 0) (by decide) (zs_4 _) rfl rfl (Nat.le_of_ble_eq_true rfl) ?_
  refine ms_mono h ?_
  rintro v σ1 ⟨rfl, h⟩
  refine ⟨rfl, ?_⟩
  exact PW_vret zd_R_readNewName_108 rfl h
def b_R_readNewName_65 (G : zG) (rU : Nat) (X : zX) (x1 : Int) (σ : zPH) : Prop :=
  (zI (σ 4 0)) ∧
  ((σ 4 0) ≠ 0 →
    b_R_readNewName_104 G rU X  σ) ∧
  ((σ 4 0) = 0 →
    σ 4 4 = ((rU : Nat) : Int) ∧
    (zI (σ (rU + 8) 3)) ∧
    (8 ≤ (σ (rU + 8) 3) →
      b_R_readNewName_104 G rU X  σ) ∧
    ((σ (rU + 8) 3) < 8 →
      σ 4 4 = ((rU : Nat) : Int) ∧
      σ 4 4 = ((rU : Nat) : Int) ∧
      (0 ≤ (σ (rU + 8) 3) ∧ (σ (rU + 8) 3) < 8) ∧
      ∀ σ103 : zPH, σ103 = zupd σ (rU + 10) (σ (rU + 8) 3).toNat x1 →
      b_R_readNewName_104 G rU X  σ103))
set_option maxHeartbeats 4000000 in
theorem kb_R_readNewName_65 {G : zG} {rU : Nat} {X : zX} (hrU : zisT rU) {x1 : Int} {σ : zPH} (h : b_R_readNewName_65 G rU X  x1 σ) : PW G zm_R_readNewName 2 X 65 [some (zr G 4), some (iZ x1)] [] σ := by
  unfold b_R_readNewName_65 at h
  refine PW_aload_n zd_R_readNewName_65 rfl ?_
  refine PW_getI zd_R_readNewName_66 zf_R_39 (zs_4 _) rfl ?_
  obtain ⟨h0, hT, hF⟩ := h
  refine PW_if_ne zd_R_readNewName_69 h0 (fun q => ?_) (fun q => ?_)
  · have h := hT q
    exact PW_sub (by exact ⟨rfl, trivial⟩) (kb_R_readNewName_104 hrU  h)
  · have h := hF q
    refine PW_aload_n zd_R_readNewName_72 rfl ?_
    obtain ⟨h0, h⟩ := h
    refine PW_getD zd_R_readNewName_73 zf_R_25 (zs_4 _) rfl h0 ?_
    refine PW_getR zd_R_readNewName_76 zf_R_128 (zsT_0 hrU) rfl ?_
    refine PW_iconst zd_R_readNewName_79 ?_
    refine PW_iaload zd_R_readNewName_80 (zsT_8 hrU) (by decide) ?_
    refine PW_bipush zd_R_readNewName_81 rfl ?_
    obtain ⟨h0, hT, hF⟩ := h
    refine PW_icmp_ge zd_R_readNewName_83 ⟨h0, by decide⟩ (fun q => ?_) (fun q => ?_)
    · have h := hT q
      exact PW_sub (by exact ⟨rfl, trivial⟩) (kb_R_readNewName_104 hrU  h)
    · have h := hF q
      refine PW_aload_n zd_R_readNewName_86 rfl ?_
      obtain ⟨h0, h⟩ := h
      refine PW_getD zd_R_readNewName_87 zf_R_25 (zs_4 _) rfl h0 ?_
      refine PW_getR zd_R_readNewName_90 zf_R_131 (zsT_0 hrU) rfl ?_
      refine PW_aload_n zd_R_readNewName_93 rfl ?_
      obtain ⟨h0, h⟩ := h
      refine PW_getD zd_R_readNewName_94 zf_R_25 (zs_4 _) rfl h0 ?_
      refine PW_getR zd_R_readNewName_97 zf_R_128 (zsT_0 hrU) rfl ?_
      refine PW_iconst zd_R_readNewName_100 ?_
      refine PW_iaload zd_R_readNewName_101 (zsT_8 hrU) (by decide) ?_
      refine PW_iload_n zd_R_readNewName_102 rfl ?_
      obtain ⟨h0, h⟩ := h
      refine PW_iastore zd_R_readNewName_103 (zsT_10 hrU) h0 ?_
      have h := h _ rfl
      exact PW_sub (by exact ⟨rfl, trivial⟩) (kb_R_readNewName_104 hrU  h)
def w_R_readNewName (G : zG) (rU : Nat) (X : zX) (σ : zPH) : Prop :=
  (0 ≤ (σ 4 3) ∧ (σ 4 3) < 1601) ∧
  ∀ x1 : Int, x1 = (σ 10 (σ 4 3).toNat) →
  (0 ≤ (σ 4 3) ∧ (σ 4 3) < 1601) ∧
  (zI (σ 9 (σ 4 3).toNat)) ∧
  ((σ 9 (σ 4 3).toNat) = 1 →
    σ 4 4 = ((rU : Nat) : Int) ∧
    MS G zm_T_eyeNamed 0 [zr G rU, iZ x1] σ (fun v σ41 =>
      ∃ z41 : Int, v = some (iZ z41) ∧
      (zI z41) ∧
      (z41 = (-1) →
        b_R_readNewName_65 G rU X  x1 σ41) ∧
      (z41 ≠ (-1) →
        (0 ≤ (σ41 4 3) ∧ (σ41 4 3) < 1601) ∧
        MS G zm_R_refuse 0 [zr G 4, iZ 3, iZ (σ41 11 (σ41 4 3).toNat)] σ41 (fun v σ62 =>
          v = none ∧
          b_R_readNewName_65 G rU X  x1 σ62)))) ∧
  ((σ 9 (σ 4 3).toNat) ≠ 1 →
    MS G zm_R_refuseToken 1 [zr G 4] σ (fun v σ30 =>
      v = none ∧
      b_R_readNewName_65 G rU X  x1 σ30))
set_option maxHeartbeats 4000000 in
theorem k_R_readNewName {G : zG} {rU : Nat} {X : zX} (hrU : zisT rU) {σ : zPH} (h : w_R_readNewName G rU X σ) : MS G zm_R_readNewName 2 [zr G 4] σ X := by
  refine ms_of zk_R_readNewName (Nat.le_of_ble_eq_true rfl) (ls := [some (zr G 4), none]) rfl ?_
  unfold w_R_readNewName at h
  refine PW_aload_n zd_R_readNewName_0 rfl ?_
  refine PW_getR zd_R_readNewName_1 zf_R_18 (zs_4 _) rfl ?_
  refine PW_getR zd_R_readNewName_4 zf_R_94 (zs_8 _) rfl ?_
  refine PW_aload_n zd_R_readNewName_7 rfl ?_
  refine PW_getI zd_R_readNewName_8 zf_R_46 (zs_4 _) rfl ?_
  obtain ⟨h0, h⟩ := h
  refine PW_iaload zd_R_readNewName_11 (zs_10 _) h0 ?_
  refine PW_istore_n zd_R_readNewName_12 rfl (by decide) (ls2 := [_, _]) rfl ?_
  have h := h _ rfl
  refine PW_aload_n zd_R_readNewName_13 rfl ?_
  refine PW_getR zd_R_readNewName_14 zf_R_18 (zs_4 _) rfl ?_
  refine PW_getR zd_R_readNewName_17 zf_R_55 (zs_8 _) rfl ?_
  refine PW_aload_n zd_R_readNewName_20 rfl ?_
  refine PW_getI zd_R_readNewName_21 zf_R_46 (zs_4 _) rfl ?_
  obtain ⟨h0, h⟩ := h
  refine PW_iaload zd_R_readNewName_24 (zs_9 _) h0 ?_
  refine PW_iconst zd_R_readNewName_25 ?_
  obtain ⟨h0, hT, hF⟩ := h
  refine PW_icmp_eq zd_R_readNewName_26 ⟨h0, by decide⟩ (fun q => ?_) (fun q => ?_)
  · have h := hT q
    refine PW_aload_n zd_R_readNewName_36 rfl ?_
    obtain ⟨h0, h⟩ := h
    refine PW_getD zd_R_readNewName_37 zf_R_25 (zs_4 _) rfl h0 ?_
    refine PW_iload_n zd_R_readNewName_40 rfl ?_
    refine PW_callV1i zd_R_readNewName_41 zl_R_125 zk_T_eyeNamed zv_T_eyeNamed (fr' := 0) (by decide) (zsT_0 hrU) rfl rfl (Nat.le_of_ble_eq_true rfl) ?_
    refine ms_mono h ?_
    rintro v σ1 ⟨z, rfl, h⟩
    refine ⟨z, rfl, ?_⟩
    refine PW_iconst zd_R_readNewName_44 ?_
    obtain ⟨h0, hT, hF⟩ := h
    refine PW_icmp_eq zd_R_readNewName_45 ⟨h0, by decide⟩ (fun q => ?_) (fun q => ?_)
    · have h := hT q
      exact PW_sub (by exact ⟨rfl, rfl, trivial⟩) (kb_R_readNewName_65 hrU  h)
    · have h := hF q
      refine PW_aload_n zd_R_readNewName_48 rfl ?_
      refine PW_iconst zd_R_readNewName_49 ?_
      refine PW_aload_n zd_R_readNewName_50 rfl ?_
      refine PW_getR zd_R_readNewName_51 zf_R_18 (zs_4 _) rfl ?_
      refine PW_getR zd_R_readNewName_54 zf_R_61 (zs_8 _) rfl ?_
      refine PW_aload_n zd_R_readNewName_57 rfl ?_
      refine PW_getI zd_R_readNewName_58 zf_R_46 (zs_4 _) rfl ?_
      obtain ⟨h0, h⟩ := h
      refine PW_iaload zd_R_readNewName_61 (zs_11 _) h0 ?_
      refine PW_callV2v zd_R_readNewName_62 zl_R_64 zk_R_refuse zv_R_refuse (fr' := 0) (by decide) (zs_4 _) rfl rfl (Nat.le_of_ble_eq_true rfl) ?_
      refine ms_mono h ?_
      rintro v σ1 ⟨rfl, h⟩
      refine ⟨rfl, ?_⟩
      exact PW_sub (by exact ⟨rfl, rfl, trivial⟩) (kb_R_readNewName_65 hrU  h)
  · have h := hF q
    refine PW_aload_n zd_R_readNewName_29 rfl ?_
    refine PW_callV0v zd_R_readNewName_30 zl_R_75 zk_R_refuseToken zv_R_refuseToken (fr' := 1) (by decide) (zs_4 _) rfl rfl (Nat.le_of_ble_eq_true rfl) ?_
    refine ms_mono h ?_
    rintro v σ1 ⟨rfl, h⟩
    refine ⟨rfl, ?_⟩
    refine PW_goto zd_R_readNewName_33 ?_
    exact PW_sub (by exact ⟨rfl, rfl, trivial⟩) (kb_R_readNewName_65 hrU  h)
def b_R_readSquare_101 (G : zG) (rU : Nat) (X : zX) (x4 : Int) (σ : zPH) : Prop :=
  MS G zm_R_advance 0 [zr G 4] σ (fun v σ102 =>
    v = none ∧
    X (some (iZ x4)) σ102)
set_option maxHeartbeats 4000000 in
theorem kb_R_readSquare_101 {G : zG} {rU : Nat} {X : zX} (hrU : zisT rU) {x4 : Int} {σ : zPH} (h : b_R_readSquare_101 G rU X  x4 σ) : PW G zm_R_readSquare 3 X 101 [some (zr G 4), none, none, none, some (iZ x4)] [] σ := by
  unfold b_R_readSquare_101 at h
  refine PW_aload_n zd_R_readSquare_101 rfl ?_
  refine PW_callV0v zd_R_readSquare_102 zl_R_88 zk_R_advance zv_R_advance (fr' := 0) (by decide) (zs_4 _) rfl rfl (Nat.le_of_ble_eq_true rfl) ?_
  refine ms_mono h ?_
  rintro v σ1 ⟨rfl, h⟩
  refine ⟨rfl, ?_⟩
  refine PW_iload zd_R_readSquare_105 rfl ?_
  exact PW_iret zd_R_readSquare_107 rfl h
def b_R_readSquare_73 (G : zG) (rU : Nat) (X : zX) (x1 s0 : Int) (σ : zPH) : Prop :=
  (zI s0) ∧
  (s0 = (-1) →
    b_R_readSquare_101 G rU X  s0 σ) ∧
  (s0 ≠ (-1) →
    σ 4 4 = ((rU : Nat) : Int) ∧
    (0 ≤ s0 ∧ s0 < 144) ∧
    (zI (σ (rU + 2) s0.toNat)) ∧
    ((σ (rU + 2) s0.toNat) = (-1) →
      b_R_readSquare_101 G rU X  s0 σ) ∧
    ((σ (rU + 2) s0.toNat) ≠ (-1) →
      MS G zm_R_refuse 0 [zr G 4, iZ 3, iZ x1] σ (fun v σ98 =>
        v = none ∧
        b_R_readSquare_101 G rU X  s0 σ98)))
set_option maxHeartbeats 4000000 in
theorem kb_R_readSquare_73 {G : zG} {rU : Nat} {X : zX} (hrU : zisT rU) {x1 s0 : Int} {σ : zPH} (h : b_R_readSquare_73 G rU X  x1 s0 σ) : PW G zm_R_readSquare 3 X 73 [some (zr G 4), some (iZ x1), none, none, none] [iZ s0] σ := by
  unfold b_R_readSquare_73 at h
  refine PW_istore zd_R_readSquare_73 rfl (by decide) (ls2 := [_, _, _, _, _]) rfl ?_
  refine PW_iload zd_R_readSquare_75 rfl ?_
  refine PW_iconst zd_R_readSquare_77 ?_
  obtain ⟨h0, hT, hF⟩ := h
  refine PW_icmp_eq zd_R_readSquare_78 ⟨h0, by decide⟩ (fun q => ?_) (fun q => ?_)
  · have h := hT q
    exact PW_sub (by exact ⟨rfl, rfl, trivial⟩) (kb_R_readSquare_101 hrU  h)
  · have h := hF q
    refine PW_aload_n zd_R_readSquare_81 rfl ?_
    obtain ⟨h0, h⟩ := h
    refine PW_getD zd_R_readSquare_82 zf_R_25 (zs_4 _) rfl h0 ?_
    refine PW_getR zd_R_readSquare_85 zf_R_143 (zsT_0 hrU) rfl ?_
    refine PW_iload zd_R_readSquare_88 rfl ?_
    obtain ⟨h0, h⟩ := h
    refine PW_iaload zd_R_readSquare_90 (zsT_2 hrU) h0 ?_
    refine PW_iconst zd_R_readSquare_91 ?_
    obtain ⟨h0, hT, hF⟩ := h
    refine PW_icmp_eq zd_R_readSquare_92 ⟨h0, by decide⟩ (fun q => ?_) (fun q => ?_)
    · have h := hT q
      exact PW_sub (by exact ⟨rfl, rfl, trivial⟩) (kb_R_readSquare_101 hrU  h)
    · have h := hF q
      refine PW_aload_n zd_R_readSquare_95 rfl ?_
      refine PW_iconst zd_R_readSquare_96 ?_
      refine PW_iload_n zd_R_readSquare_97 rfl ?_
      refine PW_callV2v zd_R_readSquare_98 zl_R_64 zk_R_refuse zv_R_refuse (fr' := 0) (by decide) (zs_4 _) rfl rfl (Nat.le_of_ble_eq_true rfl) ?_
      refine ms_mono h ?_
      rintro v σ1 ⟨rfl, h⟩
      refine ⟨rfl, ?_⟩
      exact PW_sub (by exact ⟨rfl, rfl, trivial⟩) (kb_R_readSquare_101 hrU  h)
def w_R_readSquare (G : zG) (rU : Nat) (X : zX) (σ : zPH) : Prop :=
  MS G zm_R_expect 2 [zr G 4, iZ 10] σ (fun v σ3 =>
    v = none ∧
    (0 ≤ (σ3 4 3) ∧ (σ3 4 3) < 1601) ∧
    ∀ x1 : Int, x1 = (σ3 11 (σ3 4 3).toNat) →
    σ3 4 4 = ((rU : Nat) : Int) ∧
    MS G zm_R_readNumber 2 [zr G 4, iZ 0, iZ ((σ3 rU 0) - 1)] σ3 (fun v σ30 =>
      ∃ z30 : Int, v = some (iZ z30) ∧
      MS G zm_R_advance 0 [zr G 4] σ30 (fun v σ35 =>
        v = none ∧
        σ35 4 4 = ((rU : Nat) : Int) ∧
        MS G zm_R_readNumber 2 [zr G 4, iZ 0, iZ ((σ35 rU 1) - 1)] σ35 (fun v σ49 =>
          ∃ z49 : Int, v = some (iZ z49) ∧
          (zI (σ49 4 0)) ∧
          ((σ49 4 0) ≠ 0 →
            b_R_readSquare_73 G rU X  x1 (-1) σ49) ∧
          ((σ49 4 0) = 0 →
            σ49 4 4 = ((rU : Nat) : Int) ∧
            MS G zm_T_squareAt 0 [zr G rU, iZ z30, iZ z49] σ49 (fun v σ66 =>
              ∃ z66 : Int, v = some (iZ z66) ∧
              b_R_readSquare_73 G rU X  x1 z66 σ66))))))
set_option maxHeartbeats 4000000 in
theorem k_R_readSquare {G : zG} {rU : Nat} {X : zX} (hrU : zisT rU) {σ : zPH} (h : w_R_readSquare G rU X σ) : MS G zm_R_readSquare 3 [zr G 4] σ X := by
  refine ms_of zk_R_readSquare (Nat.le_of_ble_eq_true rfl) (ls := [some (zr G 4), none, none, none, none]) rfl ?_
  unfold w_R_readSquare at h
  refine PW_aload_n zd_R_readSquare_0 rfl ?_
  refine PW_bipush zd_R_readSquare_1 rfl ?_
  refine PW_callV1v zd_R_readSquare_3 zl_R_81 zk_R_expect zv_R_expect (fr' := 2) (by decide) (zs_4 _) rfl rfl (Nat.le_of_ble_eq_true rfl) ?_
  refine ms_mono h ?_
  rintro v σ1 ⟨rfl, h⟩
  refine ⟨rfl, ?_⟩
  refine PW_aload_n zd_R_readSquare_6 rfl ?_
  refine PW_getR zd_R_readSquare_7 zf_R_18 (zs_4 _) rfl ?_
  refine PW_getR zd_R_readSquare_10 zf_R_61 (zs_8 _) rfl ?_
  refine PW_aload_n zd_R_readSquare_13 rfl ?_
  refine PW_getI zd_R_readSquare_14 zf_R_46 (zs_4 _) rfl ?_
  obtain ⟨h0, h⟩ := h
  refine PW_iaload zd_R_readSquare_17 (zs_11 _) h0 ?_
  refine PW_istore_n zd_R_readSquare_18 rfl (by decide) (ls2 := [_, _, _, _, _]) rfl ?_
  have h := h _ rfl
  refine PW_aload_n zd_R_readSquare_19 rfl ?_
  refine PW_iconst zd_R_readSquare_20 ?_
  refine PW_aload_n zd_R_readSquare_21 rfl ?_
  obtain ⟨h0, h⟩ := h
  refine PW_getD zd_R_readSquare_22 zf_R_25 (zs_4 _) rfl h0 ?_
  refine PW_getI zd_R_readSquare_25 zf_R_134 (zsT_0 hrU) rfl ?_
  refine PW_iconst zd_R_readSquare_28 ?_
  refine PW_isub zd_R_readSquare_29 ?_
  refine PW_callV2i zd_R_readSquare_30 zl_R_84 zk_R_readNumber zv_R_readNumber (fr' := 2) (by decide) (zs_4 _) rfl rfl (Nat.le_of_ble_eq_true rfl) ?_
  refine ms_mono h ?_
  rintro v σ1 ⟨z, rfl, h⟩
  refine ⟨z, rfl, ?_⟩
  refine PW_istore_n zd_R_readSquare_33 rfl (by decide) (ls2 := [_, _, _, _, _]) rfl ?_
  refine PW_aload_n zd_R_readSquare_34 rfl ?_
  refine PW_callV0v zd_R_readSquare_35 zl_R_88 zk_R_advance zv_R_advance (fr' := 0) (by decide) (zs_4 _) rfl rfl (Nat.le_of_ble_eq_true rfl) ?_
  refine ms_mono h ?_
  rintro v σ1 ⟨rfl, h⟩
  refine ⟨rfl, ?_⟩
  refine PW_aload_n zd_R_readSquare_38 rfl ?_
  refine PW_iconst zd_R_readSquare_39 ?_
  refine PW_aload_n zd_R_readSquare_40 rfl ?_
  obtain ⟨h0, h⟩ := h
  refine PW_getD zd_R_readSquare_41 zf_R_25 (zs_4 _) rfl h0 ?_
  refine PW_getI zd_R_readSquare_44 zf_R_137 (zsT_0 hrU) rfl ?_
  refine PW_iconst zd_R_readSquare_47 ?_
  refine PW_isub zd_R_readSquare_48 ?_
  refine PW_callV2i zd_R_readSquare_49 zl_R_84 zk_R_readNumber zv_R_readNumber (fr' := 2) (by decide) (zs_4 _) rfl rfl (Nat.le_of_ble_eq_true rfl) ?_
  refine ms_mono h ?_
  rintro v σ1 ⟨z, rfl, h⟩
  refine ⟨z, rfl, ?_⟩
  refine PW_istore_n zd_R_readSquare_52 rfl (by decide) (ls2 := [_, _, _, _, _]) rfl ?_
  refine PW_aload_n zd_R_readSquare_53 rfl ?_
  refine PW_getI zd_R_readSquare_54 zf_R_39 (zs_4 _) rfl ?_
  obtain ⟨h0, hT, hF⟩ := h
  refine PW_if_ne zd_R_readSquare_57 h0 (fun q => ?_) (fun q => ?_)
  · have h := hT q
    refine PW_iconst zd_R_readSquare_72 ?_
    exact PW_sub (by exact ⟨rfl, rfl, trivial⟩) (kb_R_readSquare_73 hrU  h)
  · have h := hF q
    refine PW_aload_n zd_R_readSquare_60 rfl ?_
    obtain ⟨h0, h⟩ := h
    refine PW_getD zd_R_readSquare_61 zf_R_25 (zs_4 _) rfl h0 ?_
    refine PW_iload_n zd_R_readSquare_64 rfl ?_
    refine PW_iload_n zd_R_readSquare_65 rfl ?_
    refine PW_callV2i zd_R_readSquare_66 zl_R_140 zk_T_squareAt zv_T_squareAt (fr' := 0) (by decide) (zsT_0 hrU) rfl rfl (Nat.le_of_ble_eq_true rfl) ?_
    refine ms_mono h ?_
    rintro v σ1 ⟨z, rfl, h⟩
    refine ⟨z, rfl, ?_⟩
    refine PW_goto zd_R_readSquare_69 ?_
    exact PW_sub (by exact ⟨rfl, rfl, trivial⟩) (kb_R_readSquare_73 hrU  h)
def b_R_readTest_104 (G : zG) (fr : Nat) (rU : Nat) (open0 : Int) (X : zX) (K4 : Int → Int → zPH → Prop) (x2 x3 : Int) (σ : zPH) : Prop :=
  K4 x2 (x3 + 1) σ
set_option maxHeartbeats 4000000 in
theorem kb_R_readTest_104 {G : zG} {fr : Nat} {rU : Nat} {open0 : Int} {X : zX} {K4 : Int → Int → zPH → Prop} (hrU : zisT rU) (hK4 : ∀ (y0 y1 : Int) (σ : zPH), K4 y0 y1 σ → PW G zm_R_readTest fr X 4 [some (zr G 4), some (iZ open0), some (iZ y0), some (iZ y1), none, none] [] σ) {x2 x3 : Int} {σ : zPH} (h : b_R_readTest_104 G fr rU open0 X K4 x2 x3 σ) : PW G zm_R_readTest fr X 104 [some (zr G 4), some (iZ open0), some (iZ x2), some (iZ x3), none, none] [] σ := by
  unfold b_R_readTest_104 at h
  refine PW_iinc zd_R_readTest_104 rfl rfl (by decide) (ls2 := [_, _, _, _, _, _]) rfl ?_
  refine PW_goto zd_R_readTest_107 ?_
  exact PW_sub (by exact ⟨rfl, rfl, rfl, rfl, trivial⟩) (hK4 _ _ _ h)
def b_R_readTest_89 (G : zG) (fr : Nat) (rU : Nat) (open0 : Int) (X : zX) (K4 : Int → Int → zPH → Prop) (x3 : Int) (σ : zPH) : Prop :=
  ∃ f : Nat, f + 1 ≤ fr ∧
  MS G zm_R_isWord f [zr G 4, iZ 22] σ (fun v σ92 =>
    ∃ z92 : Int, (z92 = 0 ∨ z92 = 1) ∧ v = some (iZ z92) ∧
    (zI z92) ∧
    (z92 = 0 →
      b_R_readTest_104 G fr rU open0 X K4 z92 x3 σ92) ∧
    (z92 ≠ 0 →
      ∃ f : Nat, f + 1 ≤ fr ∧
      MS G zm_R_advance f [zr G 4] σ92 (fun v σ101 =>
        v = none ∧
        b_R_readTest_104 G fr rU open0 X K4 z92 x3 σ101)))
set_option maxHeartbeats 4000000 in
theorem kb_R_readTest_89 {G : zG} {fr : Nat} {rU : Nat} {open0 : Int} {X : zX} {K4 : Int → Int → zPH → Prop} (hrU : zisT rU) (hK4 : ∀ (y0 y1 : Int) (σ : zPH), K4 y0 y1 σ → PW G zm_R_readTest fr X 4 [some (zr G 4), some (iZ open0), some (iZ y0), some (iZ y1), none, none] [] σ) {x3 : Int} {σ : zPH} (h : b_R_readTest_89 G fr rU open0 X K4 x3 σ) : PW G zm_R_readTest fr X 89 [some (zr G 4), some (iZ open0), none, some (iZ x3), none, none] [] σ := by
  unfold b_R_readTest_89 at h
  refine PW_aload_n zd_R_readTest_89 rfl ?_
  refine PW_bipush zd_R_readTest_90 rfl ?_
  obtain ⟨f, hf, h⟩ := h
  refine PW_callV1i zd_R_readTest_92 zl_R_152 zk_R_isWord zv_R_isWord (fr' := f) hf (zs_4 _) rfl rfl (Nat.le_of_ble_eq_true rfl) ?_
  refine ms_mono h ?_
  rintro v σ1 ⟨z, hz, rfl, h⟩
  refine ⟨z, rfl, ?_⟩
  refine PW_istore_n zd_R_readTest_95 rfl (by decide) (ls2 := [_, _, _, _, _, _]) rfl ?_
  refine PW_iload_n zd_R_readTest_96 rfl ?_
  obtain ⟨h0, hT, hF⟩ := h
  refine PW_if_eq zd_R_readTest_97 h0 (fun q => ?_) (fun q => ?_)
  · have h := hT q
    exact PW_sub (by exact ⟨rfl, rfl, rfl, rfl, trivial⟩) (kb_R_readTest_104 hrU hK4 h)
  · have h := hF q
    refine PW_aload_n zd_R_readTest_100 rfl ?_
    obtain ⟨f, hf, h⟩ := h
    refine PW_callV0v zd_R_readTest_101 zl_R_88 zk_R_advance zv_R_advance (fr' := f) hf (zs_4 _) rfl rfl (Nat.le_of_ble_eq_true rfl) ?_
    refine ms_mono h ?_
    rintro v σ1 ⟨rfl, h⟩
    refine ⟨rfl, ?_⟩
    exact PW_sub (by exact ⟨rfl, rfl, rfl, rfl, trivial⟩) (kb_R_readTest_104 hrU hK4 h)
def b_R_readTest_76 (G : zG) (fr : Nat) (rU : Nat) (open0 : Int) (X : zX) (K4 : Int → Int → zPH → Prop) (x3 : Int) (σ : zPH) : Prop :=
  (zI x3) ∧
  (x3 ≤ 0 →
    b_R_readTest_89 G fr rU open0 X K4 x3 σ) ∧
  (0 < x3 →
    σ 4 4 = ((rU : Nat) : Int) ∧
    ∃ f : Nat, f + 1 ≤ fr ∧
    MS G zm_T_addCode f [zr G rU, iZ 22] σ (fun v σ86 =>
      v = none ∧
      b_R_readTest_89 G fr rU open0 X K4 x3 σ86))
set_option maxHeartbeats 4000000 in
theorem kb_R_readTest_76 {G : zG} {fr : Nat} {rU : Nat} {open0 : Int} {X : zX} {K4 : Int → Int → zPH → Prop} (hrU : zisT rU) (hK4 : ∀ (y0 y1 : Int) (σ : zPH), K4 y0 y1 σ → PW G zm_R_readTest fr X 4 [some (zr G 4), some (iZ open0), some (iZ y0), some (iZ y1), none, none] [] σ) {x3 : Int} {σ : zPH} (h : b_R_readTest_76 G fr rU open0 X K4 x3 σ) : PW G zm_R_readTest fr X 76 [some (zr G 4), some (iZ open0), none, some (iZ x3), none, none] [] σ := by
  unfold b_R_readTest_76 at h
  refine PW_iload_n zd_R_readTest_76 rfl ?_
  obtain ⟨h0, hT, hF⟩ := h
  refine PW_if_le zd_R_readTest_77 h0 (fun q => ?_) (fun q => ?_)
  · have h := hT q
    exact PW_sub (by exact ⟨rfl, rfl, rfl, trivial⟩) (kb_R_readTest_89 hrU hK4 h)
  · have h := hF q
    refine PW_aload_n zd_R_readTest_80 rfl ?_
    obtain ⟨h0, h⟩ := h
    refine PW_getD zd_R_readTest_81 zf_R_25 (zs_4 _) rfl h0 ?_
    refine PW_bipush zd_R_readTest_84 rfl ?_
    obtain ⟨f, hf, h⟩ := h
    refine PW_callV1v zd_R_readTest_86 zl_R_149 zk_T_addCode zv_T_addCode (fr' := f) hf (zsT_0 hrU) rfl rfl (Nat.le_of_ble_eq_true rfl) ?_
    refine ms_mono h ?_
    rintro v σ1 ⟨rfl, h⟩
    refine ⟨rfl, ?_⟩
    exact PW_sub (by exact ⟨rfl, rfl, rfl, trivial⟩) (kb_R_readTest_89 hrU hK4 h)
def b_R_readTest_70 (G : zG) (fr : Nat) (rU : Nat) (open0 : Int) (X : zX) (K4 : Int → Int → zPH → Prop) (K21 : Int → Int → Int → zPH → Prop) (x3 x4 x5 : Int) (σ : zPH) : Prop :=
  K21 x3 x4 (x5 + 1) σ
set_option maxHeartbeats 4000000 in
theorem kb_R_readTest_70 {G : zG} {fr : Nat} {rU : Nat} {open0 : Int} {X : zX} {K4 : Int → Int → zPH → Prop} {K21 : Int → Int → Int → zPH → Prop} (hrU : zisT rU) (hK4 : ∀ (y0 y1 : Int) (σ : zPH), K4 y0 y1 σ → PW G zm_R_readTest fr X 4 [some (zr G 4), some (iZ open0), some (iZ y0), some (iZ y1), none, none] [] σ) (hK21 : ∀ (y0 y1 y2 : Int) (σ : zPH), K21 y0 y1 y2 σ → PW G zm_R_readTest fr X 21 [some (zr G 4), some (iZ open0), none, some (iZ y0), some (iZ y1), some (iZ y2)] [] σ) {x3 x4 x5 : Int} {σ : zPH} (h : b_R_readTest_70 G fr rU open0 X K4 K21 x3 x4 x5 σ) : PW G zm_R_readTest fr X 70 [some (zr G 4), some (iZ open0), none, some (iZ x3), some (iZ x4), some (iZ x5)] [] σ := by
  unfold b_R_readTest_70 at h
  refine PW_iinc zd_R_readTest_70 rfl rfl (by decide) (ls2 := [_, _, _, _, _, _]) rfl ?_
  refine PW_goto zd_R_readTest_73 ?_
  exact PW_sub (by exact ⟨rfl, rfl, rfl, rfl, rfl, trivial⟩) (hK21 _ _ _ _ h)
def b_R_readTest_53 (G : zG) (fr : Nat) (rU : Nat) (open0 : Int) (X : zX) (K4 : Int → Int → zPH → Prop) (K21 : Int → Int → Int → zPH → Prop) (x3 x5 : Int) (σ : zPH) : Prop :=
  ∃ f : Nat, f + 1 ≤ fr ∧
  MS G zm_R_isWord f [zr G 4, iZ 23] σ (fun v σ56 =>
    ∃ z56 : Int, (z56 = 0 ∨ z56 = 1) ∧ v = some (iZ z56) ∧
    (zI z56) ∧
    (z56 = 0 →
      b_R_readTest_70 G fr rU open0 X K4 K21 x3 z56 x5 σ56) ∧
    (z56 ≠ 0 →
      ∃ f : Nat, f + 1 ≤ fr ∧
      MS G zm_R_advance f [zr G 4] σ56 (fun v σ67 =>
        v = none ∧
        b_R_readTest_70 G fr rU open0 X K4 K21 x3 z56 x5 σ67)))
set_option maxHeartbeats 4000000 in
theorem kb_R_readTest_53 {G : zG} {fr : Nat} {rU : Nat} {open0 : Int} {X : zX} {K4 : Int → Int → zPH → Prop} {K21 : Int → Int → Int → zPH → Prop} (hrU : zisT rU) (hK4 : ∀ (y0 y1 : Int) (σ : zPH), K4 y0 y1 σ → PW G zm_R_readTest fr X 4 [some (zr G 4), some (iZ open0), some (iZ y0), some (iZ y1), none, none] [] σ) (hK21 : ∀ (y0 y1 y2 : Int) (σ : zPH), K21 y0 y1 y2 σ → PW G zm_R_readTest fr X 21 [some (zr G 4), some (iZ open0), none, some (iZ y0), some (iZ y1), some (iZ y2)] [] σ) {x3 x5 : Int} {σ : zPH} (h : b_R_readTest_53 G fr rU open0 X K4 K21 x3 x5 σ) : PW G zm_R_readTest fr X 53 [some (zr G 4), some (iZ open0), none, some (iZ x3), none, some (iZ x5)] [] σ := by
  unfold b_R_readTest_53 at h
  refine PW_aload_n zd_R_readTest_53 rfl ?_
  refine PW_bipush zd_R_readTest_54 rfl ?_
  obtain ⟨f, hf, h⟩ := h
  refine PW_callV1i zd_R_readTest_56 zl_R_152 zk_R_isWord zv_R_isWord (fr' := f) hf (zs_4 _) rfl rfl (Nat.le_of_ble_eq_true rfl) ?_
  refine ms_mono h ?_
  rintro v σ1 ⟨z, hz, rfl, h⟩
  refine ⟨z, rfl, ?_⟩
  refine PW_istore zd_R_readTest_59 rfl (by decide) (ls2 := [_, _, _, _, _, _]) rfl ?_
  refine PW_iload zd_R_readTest_61 rfl ?_
  obtain ⟨h0, hT, hF⟩ := h
  refine PW_if_eq zd_R_readTest_63 h0 (fun q => ?_) (fun q => ?_)
  · have h := hT q
    exact PW_sub (by exact ⟨rfl, rfl, rfl, rfl, rfl, trivial⟩) (kb_R_readTest_70 hrU hK4 hK21 h)
  · have h := hF q
    refine PW_aload_n zd_R_readTest_66 rfl ?_
    obtain ⟨f, hf, h⟩ := h
    refine PW_callV0v zd_R_readTest_67 zl_R_88 zk_R_advance zv_R_advance (fr' := f) hf (zs_4 _) rfl rfl (Nat.le_of_ble_eq_true rfl) ?_
    refine ms_mono h ?_
    rintro v σ1 ⟨rfl, h⟩
    refine ⟨rfl, ?_⟩
    exact PW_sub (by exact ⟨rfl, rfl, rfl, rfl, rfl, trivial⟩) (kb_R_readTest_70 hrU hK4 hK21 h)
def b_R_readTest_21 (G : zG) (fr : Nat) (rU : Nat) (open0 : Int) (X : zX) (K4 : Int → Int → zPH → Prop) (K21 : Int → Int → Int → zPH → Prop) (x3 x4 x5 : Int) (σ : zPH) : Prop :=
  (zI x5) ∧
  (1600 ≤ x5 →
    b_R_readTest_76 G fr rU open0 X K4 x3 σ) ∧
  (x5 < 1600 →
    (zI x4) ∧
    (x4 = 0 →
      b_R_readTest_76 G fr rU open0 X K4 x3 σ) ∧
    (x4 ≠ 0 →
      ∃ f : Nat, f + 1 ≤ fr ∧
      MS G zm_R_readFact f [zr G 4, iZ open0] σ (fun v σ36 =>
        v = none ∧
        (zI x5) ∧
        (x5 ≤ 0 →
          b_R_readTest_53 G fr rU open0 X K4 K21 x3 x5 σ36) ∧
        (0 < x5 →
          σ36 4 4 = ((rU : Nat) : Int) ∧
          ∃ f : Nat, f + 1 ≤ fr ∧
          MS G zm_T_addCode f [zr G rU, iZ 23] σ36 (fun v σ50 =>
            v = none ∧
            b_R_readTest_53 G fr rU open0 X K4 K21 x3 x5 σ50)))))
set_option maxHeartbeats 4000000 in
theorem kb_R_readTest_21 {G : zG} {fr : Nat} {rU : Nat} {open0 : Int} {X : zX} {K4 : Int → Int → zPH → Prop} {K21 : Int → Int → Int → zPH → Prop} (hrU : zisT rU) (hK4 : ∀ (y0 y1 : Int) (σ : zPH), K4 y0 y1 σ → PW G zm_R_readTest fr X 4 [some (zr G 4), some (iZ open0), some (iZ y0), some (iZ y1), none, none] [] σ) (hK21 : ∀ (y0 y1 y2 : Int) (σ : zPH), K21 y0 y1 y2 σ → PW G zm_R_readTest fr X 21 [some (zr G 4), some (iZ open0), none, some (iZ y0), some (iZ y1), some (iZ y2)] [] σ) {x3 x4 x5 : Int} {σ : zPH} (h : b_R_readTest_21 G fr rU open0 X K4 K21 x3 x4 x5 σ) : PW G zm_R_readTest fr X 21 [some (zr G 4), some (iZ open0), none, some (iZ x3), some (iZ x4), some (iZ x5)] [] σ := by
  unfold b_R_readTest_21 at h
  refine PW_iload zd_R_readTest_21 rfl ?_
  refine PW_sipush zd_R_readTest_23 rfl ?_
  obtain ⟨h0, hT, hF⟩ := h
  refine PW_icmp_ge zd_R_readTest_26 ⟨h0, by decide⟩ (fun q => ?_) (fun q => ?_)
  · have h := hT q
    exact PW_sub (by exact ⟨rfl, rfl, rfl, trivial⟩) (kb_R_readTest_76 hrU hK4 h)
  · have h := hF q
    refine PW_iload zd_R_readTest_29 rfl ?_
    obtain ⟨h0, hT, hF⟩ := h
    refine PW_if_eq zd_R_readTest_31 h0 (fun q => ?_) (fun q => ?_)
    · have h := hT q
      exact PW_sub (by exact ⟨rfl, rfl, rfl, trivial⟩) (kb_R_readTest_76 hrU hK4 h)
    · have h := hF q
      refine PW_aload_n zd_R_readTest_34 rfl ?_
      refine PW_iload_n zd_R_readTest_35 rfl ?_
      obtain ⟨f, hf, h⟩ := h
      refine PW_callV1v zd_R_readTest_36 zl_R_146 zk_R_readFact zv_R_readFact (fr' := f) hf (zs_4 _) rfl rfl (Nat.le_of_ble_eq_true rfl) ?_
      refine ms_mono h ?_
      rintro v σ1 ⟨rfl, h⟩
      refine ⟨rfl, ?_⟩
      refine PW_iload zd_R_readTest_39 rfl ?_
      obtain ⟨h0, hT, hF⟩ := h
      refine PW_if_le zd_R_readTest_41 h0 (fun q => ?_) (fun q => ?_)
      · have h := hT q
        exact PW_sub (by exact ⟨rfl, rfl, rfl, rfl, trivial⟩) (kb_R_readTest_53 hrU hK4 hK21 h)
      · have h := hF q
        refine PW_aload_n zd_R_readTest_44 rfl ?_
        obtain ⟨h0, h⟩ := h
        refine PW_getD zd_R_readTest_45 zf_R_25 (zs_4 _) rfl h0 ?_
        refine PW_bipush zd_R_readTest_48 rfl ?_
        obtain ⟨f, hf, h⟩ := h
        refine PW_callV1v zd_R_readTest_50 zl_R_149 zk_T_addCode zv_T_addCode (fr' := f) hf (zsT_0 hrU) rfl rfl (Nat.le_of_ble_eq_true rfl) ?_
        refine ms_mono h ?_
        rintro v σ1 ⟨rfl, h⟩
        refine ⟨rfl, ?_⟩
        exact PW_sub (by exact ⟨rfl, rfl, rfl, rfl, trivial⟩) (kb_R_readTest_53 hrU hK4 hK21 h)
theorem kl_R_readTest_21 {G : zG} {fr : Nat} {rU : Nat} {open0 : Int} {X : zX} {K4 : Int → Int → zPH → Prop} (hrU : zisT rU) (hK4 : ∀ (y0 y1 : Int) (σ : zPH), K4 y0 y1 σ → PW G zm_R_readTest fr X 4 [some (zr G 4), some (iZ open0), some (iZ y0), some (iZ y1), none, none] [] σ) {x3 x4 x5 : Int} {σ : zPH} (h : zLP3 (b_R_readTest_21 G fr rU open0 X K4) x3 x4 x5 σ) : PW G zm_R_readTest fr X 21 [some (zr G 4), some (iZ open0), none, some (iZ x3), some (iZ x4), some (iZ x5)] [] σ := by
  obtain ⟨n, h⟩ := h
  induction n generalizing x3 x4 x5 σ with
  | zero => exact h.elim
  | succ n ih => exact kb_R_readTest_21 hrU hK4 (fun _ _ _ _ h => ih h) h
def b_R_readTest_4 (G : zG) (fr : Nat) (rU : Nat) (open0 : Int) (X : zX) (K4 : Int → Int → zPH → Prop) (x2 x3 : Int) (σ : zPH) : Prop :=
  (zI x3) ∧
  (1600 ≤ x3 →
    X none σ) ∧
  (x3 < 1600 →
    (zI x2) ∧
    (x2 = 0 →
      X none σ) ∧
    (x2 ≠ 0 →
      zLP3 (b_R_readTest_21 G fr rU open0 X K4) x3 1 0 σ))
set_option maxHeartbeats 4000000 in
theorem kb_R_readTest_4 {G : zG} {fr : Nat} {rU : Nat} {open0 : Int} {X : zX} {K4 : Int → Int → zPH → Prop} (hrU : zisT rU) (hK4 : ∀ (y0 y1 : Int) (σ : zPH), K4 y0 y1 σ → PW G zm_R_readTest fr X 4 [some (zr G 4), some (iZ open0), some (iZ y0), some (iZ y1), none, none] [] σ) {x2 x3 : Int} {σ : zPH} (h : b_R_readTest_4 G fr rU open0 X K4 x2 x3 σ) : PW G zm_R_readTest fr X 4 [some (zr G 4), some (iZ open0), some (iZ x2), some (iZ x3), none, none] [] σ := by
  unfold b_R_readTest_4 at h
  refine PW_iload_n zd_R_readTest_4 rfl ?_
  refine PW_sipush zd_R_readTest_5 rfl ?_
  obtain ⟨h0, hT, hF⟩ := h
  refine PW_icmp_ge zd_R_readTest_8 ⟨h0, by decide⟩ (fun q => ?_) (fun q => ?_)
  · have h := hT q
    exact PW_vret zd_R_readTest_110 rfl h
  · have h := hF q
    refine PW_iload_n zd_R_readTest_11 rfl ?_
    obtain ⟨h0, hT, hF⟩ := h
    refine PW_if_eq zd_R_readTest_12 h0 (fun q => ?_) (fun q => ?_)
    · have h := hT q
      exact PW_vret zd_R_readTest_110 rfl h
    · have h := hF q
      refine PW_iconst zd_R_readTest_15 ?_
      refine PW_istore zd_R_readTest_16 rfl (by decide) (ls2 := [_, _, _, _, _, _]) rfl ?_
      refine PW_iconst zd_R_readTest_18 ?_
      refine PW_istore zd_R_readTest_19 rfl (by decide) (ls2 := [_, _, _, _, _, _]) rfl ?_
      exact PW_sub (by exact ⟨rfl, rfl, rfl, rfl, rfl, trivial⟩) (kl_R_readTest_21 hrU hK4 h)
theorem kl_R_readTest_4 {G : zG} {fr : Nat} {rU : Nat} {open0 : Int} {X : zX} (hrU : zisT rU) {x2 x3 : Int} {σ : zPH} (h : zLP2 (b_R_readTest_4 G fr rU open0 X ) x2 x3 σ) : PW G zm_R_readTest fr X 4 [some (zr G 4), some (iZ open0), some (iZ x2), some (iZ x3), none, none] [] σ := by
  obtain ⟨n, h⟩ := h
  induction n generalizing x2 x3 σ with
  | zero => exact h.elim
  | succ n ih => exact kb_R_readTest_4 hrU  (fun _ _ _ h => ih h) h
def w_R_readTest (G : zG) (fr : Nat) (rU : Nat) (open0 : Int) (X : zX) (σ : zPH) : Prop :=
  zLP2 (b_R_readTest_4 G fr rU open0 X ) 1 0 σ
set_option maxHeartbeats 4000000 in
theorem k_R_readTest {G : zG} {fr : Nat} {rU : Nat} {open0 : Int} {X : zX} (hrU : zisT rU) {σ : zPH} (h : w_R_readTest G fr rU open0 X σ) : MS G zm_R_readTest fr [zr G 4, iZ open0] σ X := by
  refine ms_of zk_R_readTest (Nat.le_of_ble_eq_true rfl) (ls := [some (zr G 4), some (iZ open0), none, none, none, none]) rfl ?_
  unfold w_R_readTest at h
  refine PW_iconst zd_R_readTest_0 ?_
  refine PW_istore_n zd_R_readTest_1 rfl (by decide) (ls2 := [_, _, _, _, _, _]) rfl ?_
  refine PW_iconst zd_R_readTest_2 ?_
  refine PW_istore_n zd_R_readTest_3 rfl (by decide) (ls2 := [_, _, _, _, _, _]) rfl ?_
  exact PW_sub (by exact ⟨rfl, rfl, rfl, rfl, trivial⟩) (kl_R_readTest_4 hrU  h)
def b_R_readFact_20 (G : zG) (fr : Nat) (rU : Nat) (open0 : Int) (X : zX) (x2 : Int) (σ : zPH) : Prop :=
  (zI open0) ∧
  (open0 < 6 →
    ∃ f : Nat, f + 1 ≤ fr ∧
    MS G zm_R_advance f [zr G 4] σ (fun v σ45 =>
      v = none ∧
      (zI x2) ∧
      (x2 = 0 →
        ∃ f : Nat, f + 1 ≤ fr ∧
        MS G zm_R_readTest f [zr G 4, iZ (open0 + 1)] σ45 (fun v σ75 =>
          v = none ∧
          ∃ f : Nat, f + 1 ≤ fr ∧
          MS G zm_R_expectSign f [zr G 4, iZ 93] σ75 (fun v σ81 =>
            v = none ∧
            X none σ81))) ∧
      (x2 ≠ 0 →
        ∃ f : Nat, f + 1 ≤ fr ∧
        MS G zm_R_readFact f [zr G 4, iZ (open0 + 1)] σ45 (fun v σ56 =>
          v = none ∧
          σ56 4 4 = ((rU : Nat) : Int) ∧
          ∃ f : Nat, f + 1 ≤ fr ∧
          MS G zm_T_addCode f [zr G rU, iZ 24] σ56 (fun v σ65 =>
            v = none ∧
            X none σ65))))) ∧
  (6 ≤ open0 →
    (0 ≤ (σ 4 3) ∧ (σ 4 3) < 1601) ∧
    ∃ f : Nat, f + 1 ≤ fr ∧
    MS G zm_R_refuse f [zr G 4, iZ 4, iZ (σ 11 (σ 4 3).toNat)] σ (fun v σ40 =>
      v = none ∧
      X none σ40))
set_option maxHeartbeats 4000000 in
theorem kb_R_readFact_20 {G : zG} {fr : Nat} {rU : Nat} {open0 : Int} {X : zX} (hrU : zisT rU) {x2 : Int} {σ : zPH} (h : b_R_readFact_20 G fr rU open0 X  x2 σ) : PW G zm_R_readFact fr X 20 [some (zr G 4), some (iZ open0), some (iZ x2)] [] σ := by
  unfold b_R_readFact_20 at h
  refine PW_iload_n zd_R_readFact_20 rfl ?_
  refine PW_bipush zd_R_readFact_21 rfl ?_
  obtain ⟨h0, hT, hF⟩ := h
  refine PW_icmp_lt zd_R_readFact_23 ⟨h0, by decide⟩ (fun q => ?_) (fun q => ?_)
  · have h := hT q
    refine PW_aload_n zd_R_readFact_44 rfl ?_
    obtain ⟨f, hf, h⟩ := h
    refine PW_callV0v zd_R_readFact_45 zl_R_88 zk_R_advance zv_R_advance (fr' := f) hf (zs_4 _) rfl rfl (Nat.le_of_ble_eq_true rfl) ?_
    refine ms_mono h ?_
    rintro v σ1 ⟨rfl, h⟩
    refine ⟨rfl, ?_⟩
    refine PW_iload_n zd_R_readFact_48 rfl ?_
    obtain ⟨h0, hT, hF⟩ := h
    refine PW_if_eq zd_R_readFact_49 h0 (fun q => ?_) (fun q => ?_)
    · have h := hT q
      refine PW_aload_n zd_R_readFact_71 rfl ?_
      refine PW_iload_n zd_R_readFact_72 rfl ?_
      refine PW_iconst zd_R_readFact_73 ?_
      refine PW_iadd zd_R_readFact_74 ?_
      obtain ⟨f, hf, h⟩ := h
      refine PW_callV1v zd_R_readFact_75 zl_R_114 zk_R_readTest zv_R_readTest (fr' := f) hf (zs_4 _) rfl rfl (Nat.le_of_ble_eq_true rfl) ?_
      refine ms_mono h ?_
      rintro v σ1 ⟨rfl, h⟩
      refine ⟨rfl, ?_⟩
      refine PW_aload_n zd_R_readFact_78 rfl ?_
      refine PW_bipush zd_R_readFact_79 rfl ?_
      obtain ⟨f, hf, h⟩ := h
      refine PW_callV1v zd_R_readFact_81 zl_R_71 zk_R_expectSign zv_R_expectSign (fr' := f) hf (zs_4 _) rfl rfl (Nat.le_of_ble_eq_true rfl) ?_
      refine ms_mono h ?_
      rintro v σ1 ⟨rfl, h⟩
      refine ⟨rfl, ?_⟩
      refine PW_goto zd_R_readFact_84 ?_
      exact PW_vret zd_R_readFact_118 rfl h
    · have h := hF q
      refine PW_aload_n zd_R_readFact_52 rfl ?_
      refine PW_iload_n zd_R_readFact_53 rfl ?_
      refine PW_iconst zd_R_readFact_54 ?_
      refine PW_iadd zd_R_readFact_55 ?_
      obtain ⟨f, hf, h⟩ := h
      refine PW_callV1v zd_R_readFact_56 zl_R_146 zk_R_readFact zv_R_readFact (fr' := f) hf (zs_4 _) rfl rfl (Nat.le_of_ble_eq_true rfl) ?_
      refine ms_mono h ?_
      rintro v σ1 ⟨rfl, h⟩
      refine ⟨rfl, ?_⟩
      refine PW_aload_n zd_R_readFact_59 rfl ?_
      obtain ⟨h0, h⟩ := h
      refine PW_getD zd_R_readFact_60 zf_R_25 (zs_4 _) rfl h0 ?_
      refine PW_bipush zd_R_readFact_63 rfl ?_
      obtain ⟨f, hf, h⟩ := h
      refine PW_callV1v zd_R_readFact_65 zl_R_149 zk_T_addCode zv_T_addCode (fr' := f) hf (zsT_0 hrU) rfl rfl (Nat.le_of_ble_eq_true rfl) ?_
      refine ms_mono h ?_
      rintro v σ1 ⟨rfl, h⟩
      refine ⟨rfl, ?_⟩
      refine PW_goto zd_R_readFact_68 ?_
      exact PW_vret zd_R_readFact_118 rfl h
  · have h := hF q
    refine PW_aload_n zd_R_readFact_26 rfl ?_
    refine PW_iconst zd_R_readFact_27 ?_
    refine PW_aload_n zd_R_readFact_28 rfl ?_
    refine PW_getR zd_R_readFact_29 zf_R_18 (zs_4 _) rfl ?_
    refine PW_getR zd_R_readFact_32 zf_R_61 (zs_8 _) rfl ?_
    refine PW_aload_n zd_R_readFact_35 rfl ?_
    refine PW_getI zd_R_readFact_36 zf_R_46 (zs_4 _) rfl ?_
    obtain ⟨h0, h⟩ := h
    refine PW_iaload zd_R_readFact_39 (zs_11 _) h0 ?_
    obtain ⟨f, hf, h⟩ := h
    refine PW_callV2v zd_R_readFact_40 zl_R_64 zk_R_refuse zv_R_refuse (fr' := f) hf (zs_4 _) rfl rfl (Nat.le_of_ble_eq_true rfl) ?_
    refine ms_mono h ?_
    rintro v σ1 ⟨rfl, h⟩
    refine ⟨rfl, ?_⟩
    exact PW_vret zd_R_readFact_43 rfl h
def w_R_readFact (G : zG) (fr : Nat) (rU : Nat) (open0 : Int) (X : zX) (σ : zPH) : Prop :=
  ∃ f : Nat, f + 1 ≤ fr ∧
  MS G zm_R_isWord f [zr G 4, iZ 24] σ (fun v σ3 =>
    ∃ z3 : Int, (z3 = 0 ∨ z3 = 1) ∧ v = some (iZ z3) ∧
    (zI z3) ∧
    (z3 ≠ 0 →
      b_R_readFact_20 G fr rU open0 X  z3 σ3) ∧
    (z3 = 0 →
      ∃ f : Nat, f + 1 ≤ fr ∧
      MS G zm_R_isSign f [zr G 4, iZ 91] σ3 (fun v σ14 =>
        (v = some (iZ 0) ∧
          ∃ f : Nat, f + 1 ≤ fr ∧
          MS G zm_R_isWord f [zr G 4, iZ 26] σ14 (fun v σ90 =>
            (v = some (iZ 0) ∧
              ∃ f : Nat, f + 1 ≤ fr ∧
              MS G zm_R_expect f [zr G 4, iZ 25] σ90 (fun v σ106 =>
                v = none ∧
                σ106 4 4 = ((rU : Nat) : Int) ∧
                ∃ f : Nat, f + 1 ≤ fr ∧
                MS G zm_T_addCode f [zr G rU, iZ 25] σ106 (fun v σ115 =>
                  v = none ∧
                  X none σ115))) ∨
            (v = some (iZ 1) ∧
              ∃ f : Nat, f + 1 ≤ fr ∧
              MS G zm_R_readSees f [zr G 4] σ90 (fun v σ97 =>
                v = none ∧
                X none σ97)))) ∨
        (v = some (iZ 1) ∧
          b_R_readFact_20 G fr rU open0 X  z3 σ14))))
set_option maxHeartbeats 4000000 in
theorem k_R_readFact {G : zG} {fr : Nat} {rU : Nat} {open0 : Int} {X : zX} (hrU : zisT rU) {σ : zPH} (h : w_R_readFact G fr rU open0 X σ) : MS G zm_R_readFact fr [zr G 4, iZ open0] σ X := by
  refine ms_of zk_R_readFact (Nat.le_of_ble_eq_true rfl) (ls := [some (zr G 4), some (iZ open0), none]) rfl ?_
  unfold w_R_readFact at h
  refine PW_aload_n zd_R_readFact_0 rfl ?_
  refine PW_bipush zd_R_readFact_1 rfl ?_
  obtain ⟨f, hf, h⟩ := h
  refine PW_callV1i zd_R_readFact_3 zl_R_152 zk_R_isWord zv_R_isWord (fr' := f) hf (zs_4 _) rfl rfl (Nat.le_of_ble_eq_true rfl) ?_
  refine ms_mono h ?_
  rintro v σ1 ⟨z, hz, rfl, h⟩
  refine ⟨z, rfl, ?_⟩
  refine PW_istore_n zd_R_readFact_6 rfl (by decide) (ls2 := [_, _, _]) rfl ?_
  refine PW_iload_n zd_R_readFact_7 rfl ?_
  obtain ⟨h0, hT, hF⟩ := h
  refine PW_if_ne zd_R_readFact_8 h0 (fun q => ?_) (fun q => ?_)
  · have h := hT q
    exact PW_sub (by exact ⟨rfl, rfl, rfl, trivial⟩) (kb_R_readFact_20 hrU  h)
  · have h := hF q
    refine PW_aload_n zd_R_readFact_11 rfl ?_
    refine PW_bipush zd_R_readFact_12 rfl ?_
    obtain ⟨f, hf, h⟩ := h
    refine PW_callV1i zd_R_readFact_14 zl_R_155 zk_R_isSign zv_R_isSign (fr' := f) hf (zs_4 _) rfl rfl (Nat.le_of_ble_eq_true rfl) ?_
    refine ms_mono h ?_
    rintro v σ1 (⟨rfl, h⟩ | ⟨rfl, h⟩)
    · refine ⟨0, rfl, ?_⟩
      refine PW_if_eq zd_R_readFact_17 (by decide) (fun _ => ?_) (fun q => absurd rfl q)
      refine PW_aload_n zd_R_readFact_87 rfl ?_
      refine PW_bipush zd_R_readFact_88 rfl ?_
      obtain ⟨f, hf, h⟩ := h
      refine PW_callV1i zd_R_readFact_90 zl_R_152 zk_R_isWord zv_R_isWord (fr' := f) hf (zs_4 _) rfl rfl (Nat.le_of_ble_eq_true rfl) ?_
      refine ms_mono h ?_
      rintro v σ1 (⟨rfl, h⟩ | ⟨rfl, h⟩)
      · refine ⟨0, rfl, ?_⟩
        refine PW_if_eq zd_R_readFact_93 (by decide) (fun _ => ?_) (fun q => absurd rfl q)
        refine PW_aload_n zd_R_readFact_103 rfl ?_
        refine PW_bipush zd_R_readFact_104 rfl ?_
        obtain ⟨f, hf, h⟩ := h
        refine PW_callV1v zd_R_readFact_106 zl_R_81 zk_R_expect zv_R_expect (fr' := f) hf (zs_4 _) rfl rfl (Nat.le_of_ble_eq_true rfl) ?_
        refine ms_mono h ?_
        rintro v σ1 ⟨rfl, h⟩
        refine ⟨rfl, ?_⟩
        refine PW_aload_n zd_R_readFact_109 rfl ?_
        obtain ⟨h0, h⟩ := h
        refine PW_getD zd_R_readFact_110 zf_R_25 (zs_4 _) rfl h0 ?_
        refine PW_bipush zd_R_readFact_113 rfl ?_
        obtain ⟨f, hf, h⟩ := h
        refine PW_callV1v zd_R_readFact_115 zl_R_149 zk_T_addCode zv_T_addCode (fr' := f) hf (zsT_0 hrU) rfl rfl (Nat.le_of_ble_eq_true rfl) ?_
        refine ms_mono h ?_
        rintro v σ1 ⟨rfl, h⟩
        refine ⟨rfl, ?_⟩
        exact PW_vret zd_R_readFact_118 rfl h
      · refine ⟨1, rfl, ?_⟩
        refine PW_if_eq zd_R_readFact_93 (by decide) (fun q => absurd q (by decide)) (fun _ => ?_)
        refine PW_aload_n zd_R_readFact_96 rfl ?_
        obtain ⟨f, hf, h⟩ := h
        refine PW_callV0v zd_R_readFact_97 zl_R_158 zk_R_readSees zv_R_readSees (fr' := f) hf (zs_4 _) rfl rfl (Nat.le_of_ble_eq_true rfl) ?_
        refine ms_mono h ?_
        rintro v σ1 ⟨rfl, h⟩
        refine ⟨rfl, ?_⟩
        refine PW_goto zd_R_readFact_100 ?_
        exact PW_vret zd_R_readFact_118 rfl h
    · refine ⟨1, rfl, ?_⟩
      refine PW_if_eq zd_R_readFact_17 (by decide) (fun q => absurd q (by decide)) (fun _ => ?_)
      exact PW_sub (by exact ⟨rfl, rfl, rfl, trivial⟩) (kb_R_readFact_20 hrU  h)
def b_R_readSees_105 (G : zG) (rU : Nat) (X : zX) (σ : zPH) : Prop :=
  MS G zm_R_advance 0 [zr G 4] σ (fun v σ106 =>
    v = none ∧
    σ106 4 4 = ((rU : Nat) : Int) ∧
    MS G zm_R_choose 1 [zr G 4, iZ 12, iZ 15] σ106 (fun v σ119 =>
      ∃ z119 : Int, v = some (iZ z119) ∧
      MS G zm_R_colourOf 0 [iZ z119] σ119 (fun v σ122 =>
        ∃ z122 : Int, v = some (iZ z122) ∧
        MS G zm_T_codeOfSees 0 [iZ 0, iZ z122] σ122 (fun v σ125 =>
          ∃ z125 : Int, v = some (iZ z125) ∧
          MS G zm_T_addCode 0 [zr G rU, iZ z125] σ125 (fun v σ128 =>
            v = none ∧
            X none σ128)))))
set_option maxHeartbeats 4000000 in
theorem kb_R_readSees_105 {G : zG} {rU : Nat} {X : zX} (hrU : zisT rU) {σ : zPH} (h : b_R_readSees_105 G rU X   σ) : PW G zm_R_readSees 2 X 105 [some (zr G 4)] [] σ := by
  unfold b_R_readSees_105 at h
  refine PW_aload_n zd_R_readSees_105 rfl ?_
  refine PW_callV0v zd_R_readSees_106 zl_R_88 zk_R_advance zv_R_advance (fr' := 0) (by decide) (zs_4 _) rfl rfl (Nat.le_of_ble_eq_true rfl) ?_
  refine ms_mono h ?_
  rintro v σ1 ⟨rfl, h⟩
  refine ⟨rfl, ?_⟩
  refine PW_aload_n zd_R_readSees_109 rfl ?_
  obtain ⟨h0, h⟩ := h
  refine PW_getD zd_R_readSees_110 zf_R_25 (zs_4 _) rfl h0 ?_
  refine PW_iconst zd_R_readSees_113 ?_
  refine PW_aload_n zd_R_readSees_114 rfl ?_
  refine PW_bipush zd_R_readSees_115 rfl ?_
  refine PW_bipush zd_R_readSees_117 rfl ?_
  refine PW_callV2i zd_R_readSees_119 zl_R_105 zk_R_choose zv_R_choose (fr' := 1) (by decide) (zs_4 _) rfl rfl (Nat.le_of_ble_eq_true rfl) ?_
  refine ms_mono h ?_
  rintro v σ1 ⟨z, rfl, h⟩
  refine ⟨z, rfl, ?_⟩
  refine PW_callS1i zd_R_readSees_122 zl_R_108 zk_R_colourOf zv_R_colourOf (fr' := 0) (by decide) (Nat.le_of_ble_eq_true rfl) ?_
  refine ms_mono h ?_
  rintro v σ1 ⟨z, rfl, h⟩
  refine ⟨z, rfl, ?_⟩
  refine PW_callS2i zd_R_readSees_125 zl_R_164 zk_T_codeOfSees zv_T_codeOfSees (fr' := 0) (by decide) (Nat.le_of_ble_eq_true rfl) ?_
  refine ms_mono h ?_
  rintro v σ1 ⟨z, rfl, h⟩
  refine ⟨z, rfl, ?_⟩
  refine PW_callV1v zd_R_readSees_128 zl_R_149 zk_T_addCode zv_T_addCode (fr' := 0) (by decide) (zsT_0 hrU) rfl rfl (Nat.le_of_ble_eq_true rfl) ?_
  refine ms_mono h ?_
  rintro v σ1 ⟨rfl, h⟩
  refine ⟨rfl, ?_⟩
  exact PW_vret zd_R_readSees_131 rfl h
def w_R_readSees (G : zG) (rU : Nat) (X : zX) (σ : zPH) : Prop :=
  MS G zm_R_advance 0 [zr G 4] σ (fun v σ1 =>
    v = none ∧
    (0 ≤ (σ1 4 3) ∧ (σ1 4 3) < 1601) ∧
    (zI (σ1 9 (σ1 4 3).toNat)) ∧
    ((σ1 9 (σ1 4 3).toNat) = 1 →
      (zI (σ1 4 8)) ∧
      (160 ≤ (σ1 4 8) →
        b_R_readSees_105 G rU X  σ1) ∧
      ((σ1 4 8) < 160 →
        (0 ≤ (σ1 4 3) ∧ (σ1 4 3) < 1601) ∧
        (0 ≤ (σ1 4 8) ∧ (σ1 4 8) < 160) ∧
        ∀ σ57 : zPH, σ57 = zupd σ1 5 (σ1 4 8).toNat (σ1 10 (σ1 4 3).toNat) →
        (0 ≤ (σ57 4 3) ∧ (σ57 4 3) < 1601) ∧
        (0 ≤ (σ57 4 8) ∧ (σ57 4 8) < 160) ∧
        ∀ σ78 : zPH, σ78 = zupd σ57 6 (σ57 4 8).toNat (σ57 11 (σ57 4 3).toNat) →
        σ78 4 4 = ((rU : Nat) : Int) ∧
        (0 ≤ (σ78 4 8) ∧ (σ78 4 8) < 160) ∧
        ∀ σ94 : zPH, σ94 = zupd σ78 7 (σ78 4 8).toNat (σ78 rU 14) →
        ∀ σ102 : zPH, σ102 = zupd σ94 4 8 ((σ94 4 8) + 1) →
        b_R_readSees_105 G rU X  σ102)) ∧
    ((σ1 9 (σ1 4 3).toNat) ≠ 1 →
      MS G zm_R_refuseToken 1 [zr G 4] σ1 (fun v σ21 =>
        v = none ∧
        b_R_readSees_105 G rU X  σ21)))
set_option maxHeartbeats 4000000 in
theorem k_R_readSees {G : zG} {rU : Nat} {X : zX} (hrU : zisT rU) {σ : zPH} (h : w_R_readSees G rU X σ) : MS G zm_R_readSees 2 [zr G 4] σ X := by
  refine ms_of zk_R_readSees (Nat.le_of_ble_eq_true rfl) (ls := [some (zr G 4)]) rfl ?_
  unfold w_R_readSees at h
  refine PW_aload_n zd_R_readSees_0 rfl ?_
  refine PW_callV0v zd_R_readSees_1 zl_R_88 zk_R_advance zv_R_advance (fr' := 0) (by decide) (zs_4 _) rfl rfl (Nat.le_of_ble_eq_true rfl) ?_
  refine ms_mono h ?_
  rintro v σ1 ⟨rfl, h⟩
  refine ⟨rfl, ?_⟩
  refine PW_aload_n zd_R_readSees_4 rfl ?_
  refine PW_getR zd_R_readSees_5 zf_R_18 (zs_4 _) rfl ?_
  refine PW_getR zd_R_readSees_8 zf_R_55 (zs_8 _) rfl ?_
  refine PW_aload_n zd_R_readSees_11 rfl ?_
  refine PW_getI zd_R_readSees_12 zf_R_46 (zs_4 _) rfl ?_
  obtain ⟨h0, h⟩ := h
  refine PW_iaload zd_R_readSees_15 (zs_9 _) h0 ?_
  refine PW_iconst zd_R_readSees_16 ?_
  obtain ⟨h0, hT, hF⟩ := h
  refine PW_icmp_eq zd_R_readSees_17 ⟨h0, by decide⟩ (fun q => ?_) (fun q => ?_)
  · have h := hT q
    refine PW_aload_n zd_R_readSees_27 rfl ?_
    refine PW_getI zd_R_readSees_28 zf_R_49 (zs_4 _) rfl ?_
    refine PW_sipush zd_R_readSees_31 rfl ?_
    obtain ⟨h0, hT, hF⟩ := h
    refine PW_icmp_ge zd_R_readSees_34 ⟨h0, by decide⟩ (fun q => ?_) (fun q => ?_)
    · have h := hT q
      exact PW_sub (by exact ⟨rfl, trivial⟩) (kb_R_readSees_105 hrU  h)
    · have h := hF q
      refine PW_aload_n zd_R_readSees_37 rfl ?_
      refine PW_getR zd_R_readSees_38 zf_R_29 (zs_4 _) rfl ?_
      refine PW_aload_n zd_R_readSees_41 rfl ?_
      refine PW_getI zd_R_readSees_42 zf_R_49 (zs_4 _) rfl ?_
      refine PW_aload_n zd_R_readSees_45 rfl ?_
      refine PW_getR zd_R_readSees_46 zf_R_18 (zs_4 _) rfl ?_
      refine PW_getR zd_R_readSees_49 zf_R_94 (zs_8 _) rfl ?_
      refine PW_aload_n zd_R_readSees_52 rfl ?_
      refine PW_getI zd_R_readSees_53 zf_R_46 (zs_4 _) rfl ?_
      obtain ⟨h0, h⟩ := h
      refine PW_iaload zd_R_readSees_56 (zs_10 _) h0 ?_
      obtain ⟨h0, h⟩ := h
      refine PW_iastore zd_R_readSees_57 (zs_5 _) h0 ?_
      have h := h _ rfl
      refine PW_aload_n zd_R_readSees_58 rfl ?_
      refine PW_getR zd_R_readSees_59 zf_R_33 (zs_4 _) rfl ?_
      refine PW_aload_n zd_R_readSees_62 rfl ?_
      refine PW_getI zd_R_readSees_63 zf_R_49 (zs_4 _) rfl ?_
      refine PW_aload_n zd_R_readSees_66 rfl ?_
      refine PW_getR zd_R_readSees_67 zf_R_18 (zs_4 _) rfl ?_
      refine PW_getR zd_R_readSees_70 zf_R_61 (zs_8 _) rfl ?_
      refine PW_aload_n zd_R_readSees_73 rfl ?_
      refine PW_getI zd_R_readSees_74 zf_R_46 (zs_4 _) rfl ?_
      obtain ⟨h0, h⟩ := h
      refine PW_iaload zd_R_readSees_77 (zs_11 _) h0 ?_
      obtain ⟨h0, h⟩ := h
      refine PW_iastore zd_R_readSees_78 (zs_6 _) h0 ?_
      have h := h _ rfl
      refine PW_aload_n zd_R_readSees_79 rfl ?_
      refine PW_getR zd_R_readSees_80 zf_R_36 (zs_4 _) rfl ?_
      refine PW_aload_n zd_R_readSees_83 rfl ?_
      refine PW_getI zd_R_readSees_84 zf_R_49 (zs_4 _) rfl ?_
      refine PW_aload_n zd_R_readSees_87 rfl ?_
      obtain ⟨h0, h⟩ := h
      refine PW_getD zd_R_readSees_88 zf_R_25 (zs_4 _) rfl h0 ?_
      refine PW_getI zd_R_readSees_91 zf_R_161 (zsT_0 hrU) rfl ?_
      obtain ⟨h0, h⟩ := h
      refine PW_iastore zd_R_readSees_94 (zs_7 _) h0 ?_
      have h := h _ rfl
      refine PW_aload_n zd_R_readSees_95 rfl ?_
      refine PW_dup zd_R_readSees_96 rfl ?_
      refine PW_getI zd_R_readSees_97 zf_R_49 (zs_4 _) rfl ?_
      refine PW_iconst zd_R_readSees_100 ?_
      refine PW_iadd zd_R_readSees_101 ?_
      refine PW_putI zd_R_readSees_102 zp_R_49 (zs_4 _) rfl ?_
      have h := h _ rfl
      exact PW_sub (by exact ⟨rfl, trivial⟩) (kb_R_readSees_105 hrU  h)
  · have h := hF q
    refine PW_aload_n zd_R_readSees_20 rfl ?_
    refine PW_callV0v zd_R_readSees_21 zl_R_75 zk_R_refuseToken zv_R_refuseToken (fr' := 1) (by decide) (zs_4 _) rfl rfl (Nat.le_of_ble_eq_true rfl) ?_
    refine ms_mono h ?_
    rintro v σ1 ⟨rfl, h⟩
    refine ⟨rfl, ?_⟩
    refine PW_goto zd_R_readSees_24 ?_
    exact PW_sub (by exact ⟨rfl, trivial⟩) (kb_R_readSees_105 hrU  h)
def b_R_findSeenEyes_73 (G : zG) (rU : Nat) (X : zX) (K2 : Int → zPH → Prop) (x1 : Int) (σ : zPH) : Prop :=
  K2 (x1 + 1) σ
set_option maxHeartbeats 4000000 in
theorem kb_R_findSeenEyes_73 {G : zG} {rU : Nat} {X : zX} {K2 : Int → zPH → Prop} (hrU : zisT rU) (hK2 : ∀ (y0 : Int) (σ : zPH), K2 y0 σ → PW G zm_R_findSeenEyes 1 X 2 [some (zr G 4), some (iZ y0), none] [] σ) {x1 : Int} {σ : zPH} (h : b_R_findSeenEyes_73 G rU X K2 x1 σ) : PW G zm_R_findSeenEyes 1 X 73 [some (zr G 4), some (iZ x1), none] [] σ := by
  unfold b_R_findSeenEyes_73 at h
  refine PW_iinc zd_R_findSeenEyes_73 rfl rfl (by decide) (ls2 := [_, _, _]) rfl ?_
  refine PW_goto zd_R_findSeenEyes_76 ?_
  exact PW_sub (by exact ⟨rfl, rfl, trivial⟩) (hK2 _ _ h)
def b_R_findSeenEyes_2 (G : zG) (rU : Nat) (X : zX) (K2 : Int → zPH → Prop) (x1 : Int) (σ : zPH) : Prop :=
  (zI x1 ∧ zI (σ 4 8)) ∧
  ((σ 4 8) ≤ x1 →
    X none σ) ∧
  (x1 < (σ 4 8) →
    (zI (σ 4 0)) ∧
    ((σ 4 0) ≠ 0 →
      X none σ) ∧
    ((σ 4 0) = 0 →
      σ 4 4 = ((rU : Nat) : Int) ∧
      (0 ≤ x1 ∧ x1 < 160) ∧
      MS G zm_T_eyeNamed 0 [zr G rU, iZ (σ 5 x1.toNat)] σ (fun v σ27 =>
        ∃ z27 : Int, v = some (iZ z27) ∧
        (zI z27) ∧
        (z27 ≠ (-1) →
          σ27 4 4 = ((rU : Nat) : Int) ∧
          (0 ≤ x1 ∧ x1 < 160) ∧
          (0 ≤ (σ27 7 x1.toNat) ∧ (σ27 7 x1.toNat) < 533) ∧
          MS G zm_T_codeOfSees 0 [iZ z27, iZ 0] σ27 (fun v σ68 =>
            ∃ z68 : Int, v = some (iZ z68) ∧
            (0 ≤ (σ27 (rU + 11) (σ27 7 x1.toNat).toNat) ∧ 0 ≤ z68) ∧
            (0 ≤ (σ27 7 x1.toNat) ∧ (σ27 7 x1.toNat) < 533) ∧
            ∀ σ72 : zPH, σ72 = zupd σ68 (rU + 11) (σ27 7 x1.toNat).toNat (zor (σ27 (rU + 11) (σ27 7 x1.toNat).toNat) z68) →
            b_R_findSeenEyes_73 G rU X K2 x1 σ72)) ∧
        (z27 = (-1) →
          (0 ≤ x1 ∧ x1 < 160) ∧
          MS G zm_R_refuse 0 [zr G 4, iZ 6, iZ (σ27 6 x1.toNat)] σ27 (fun v σ45 =>
            v = none ∧
            b_R_findSeenEyes_73 G rU X K2 x1 σ45)))))
set_option maxHeartbeats 4000000 in
theorem kb_R_findSeenEyes_2 {G : zG} {rU : Nat} {X : zX} {K2 : Int → zPH → Prop} (hrU : zisT rU) (hK2 : ∀ (y0 : Int) (σ : zPH), K2 y0 σ → PW G zm_R_findSeenEyes 1 X 2 [some (zr G 4), some (iZ y0), none] [] σ) {x1 : Int} {σ : zPH} (h : b_R_findSeenEyes_2 G rU X K2 x1 σ) : PW G zm_R_findSeenEyes 1 X 2 [some (zr G 4), some (iZ x1), none] [] σ := by
  unfold b_R_findSeenEyes_2 at h
  refine PW_iload_n zd_R_findSeenEyes_2 rfl ?_
  refine PW_aload_n zd_R_findSeenEyes_3 rfl ?_
  refine PW_getI zd_R_findSeenEyes_4 zf_R_49 (zs_4 _) rfl ?_
  obtain ⟨h0, hT, hF⟩ := h
  refine PW_icmp_ge zd_R_findSeenEyes_7 h0 (fun q => ?_) (fun q => ?_)
  · have h := hT q
    exact PW_vret zd_R_findSeenEyes_79 rfl h
  · have h := hF q
    refine PW_aload_n zd_R_findSeenEyes_10 rfl ?_
    refine PW_getI zd_R_findSeenEyes_11 zf_R_39 (zs_4 _) rfl ?_
    obtain ⟨h0, hT, hF⟩ := h
    refine PW_if_ne zd_R_findSeenEyes_14 h0 (fun q => ?_) (fun q => ?_)
    · have h := hT q
      exact PW_vret zd_R_findSeenEyes_79 rfl h
    · have h := hF q
      refine PW_aload_n zd_R_findSeenEyes_17 rfl ?_
      obtain ⟨h0, h⟩ := h
      refine PW_getD zd_R_findSeenEyes_18 zf_R_25 (zs_4 _) rfl h0 ?_
      refine PW_aload_n zd_R_findSeenEyes_21 rfl ?_
      refine PW_getR zd_R_findSeenEyes_22 zf_R_29 (zs_4 _) rfl ?_
      refine PW_iload_n zd_R_findSeenEyes_25 rfl ?_
      obtain ⟨h0, h⟩ := h
      refine PW_iaload zd_R_findSeenEyes_26 (zs_5 _) h0 ?_
      refine PW_callV1i zd_R_findSeenEyes_27 zl_R_125 zk_T_eyeNamed zv_T_eyeNamed (fr' := 0) (by decide) (zsT_0 hrU) rfl rfl (Nat.le_of_ble_eq_true rfl) ?_
      refine ms_mono h ?_
      rintro v σ1 ⟨z, rfl, h⟩
      refine ⟨z, rfl, ?_⟩
      refine PW_istore_n zd_R_findSeenEyes_30 rfl (by decide) (ls2 := [_, _, _]) rfl ?_
      refine PW_iload_n zd_R_findSeenEyes_31 rfl ?_
      refine PW_iconst zd_R_findSeenEyes_32 ?_
      obtain ⟨h0, hT, hF⟩ := h
      refine PW_icmp_ne zd_R_findSeenEyes_33 ⟨h0, by decide⟩ (fun q => ?_) (fun q => ?_)
      · have h := hT q
        refine PW_aload_n zd_R_findSeenEyes_51 rfl ?_
        obtain ⟨h0, h⟩ := h
        refine PW_getD zd_R_findSeenEyes_52 zf_R_25 (zs_4 _) rfl h0 ?_
        refine PW_getR zd_R_findSeenEyes_55 zf_R_167 (zsT_0 hrU) rfl ?_
        refine PW_aload_n zd_R_findSeenEyes_58 rfl ?_
        refine PW_getR zd_R_findSeenEyes_59 zf_R_36 (zs_4 _) rfl ?_
        refine PW_iload_n zd_R_findSeenEyes_62 rfl ?_
        obtain ⟨h0, h⟩ := h
        refine PW_iaload zd_R_findSeenEyes_63 (zs_7 _) h0 ?_
        refine PW_dup2 zd_R_findSeenEyes_64 rfl rfl ?_
        obtain ⟨h0, h⟩ := h
        refine PW_iaload zd_R_findSeenEyes_65 (zsT_11 hrU) h0 ?_
        refine PW_iload_n zd_R_findSeenEyes_66 rfl ?_
        refine PW_iconst zd_R_findSeenEyes_67 ?_
        refine PW_callS2i zd_R_findSeenEyes_68 zl_R_164 zk_T_codeOfSees zv_T_codeOfSees (fr' := 0) (by decide) (Nat.le_of_ble_eq_true rfl) ?_
        refine ms_mono h ?_
        rintro v σ1 ⟨z, rfl, h⟩
        refine ⟨z, rfl, ?_⟩
        obtain ⟨h0, h⟩ := h
        refine PW_ior zd_R_findSeenEyes_71 h0 ?_
        obtain ⟨h0, h⟩ := h
        refine PW_iastore zd_R_findSeenEyes_72 (zsT_11 hrU) h0 ?_
        have h := h _ rfl
        exact PW_sub (by exact ⟨rfl, rfl, trivial⟩) (kb_R_findSeenEyes_73 hrU hK2 h)
      · have h := hF q
        refine PW_aload_n zd_R_findSeenEyes_36 rfl ?_
        refine PW_bipush zd_R_findSeenEyes_37 rfl ?_
        refine PW_aload_n zd_R_findSeenEyes_39 rfl ?_
        refine PW_getR zd_R_findSeenEyes_40 zf_R_33 (zs_4 _) rfl ?_
        refine PW_iload_n zd_R_findSeenEyes_43 rfl ?_
        obtain ⟨h0, h⟩ := h
        refine PW_iaload zd_R_findSeenEyes_44 (zs_6 _) h0 ?_
        refine PW_callV2v zd_R_findSeenEyes_45 zl_R_64 zk_R_refuse zv_R_refuse (fr' := 0) (by decide) (zs_4 _) rfl rfl (Nat.le_of_ble_eq_true rfl) ?_
        refine ms_mono h ?_
        rintro v σ1 ⟨rfl, h⟩
        refine ⟨rfl, ?_⟩
        refine PW_goto zd_R_findSeenEyes_48 ?_
        exact PW_sub (by exact ⟨rfl, rfl, trivial⟩) (kb_R_findSeenEyes_73 hrU hK2 h)
theorem kl_R_findSeenEyes_2 {G : zG} {rU : Nat} {X : zX} (hrU : zisT rU) {x1 : Int} {σ : zPH} (h : zLP1 (b_R_findSeenEyes_2 G rU X ) x1 σ) : PW G zm_R_findSeenEyes 1 X 2 [some (zr G 4), some (iZ x1), none] [] σ := by
  obtain ⟨n, h⟩ := h
  induction n generalizing x1 σ with
  | zero => exact h.elim
  | succ n ih => exact kb_R_findSeenEyes_2 hrU  (fun _ _ h => ih h) h
def w_R_findSeenEyes (G : zG) (rU : Nat) (X : zX) (σ : zPH) : Prop :=
  zLP1 (b_R_findSeenEyes_2 G rU X ) 0 σ
set_option maxHeartbeats 4000000 in
theorem k_R_findSeenEyes {G : zG} {rU : Nat} {X : zX} (hrU : zisT rU) {σ : zPH} (h : w_R_findSeenEyes G rU X σ) : MS G zm_R_findSeenEyes 1 [zr G 4] σ X := by
  refine ms_of zk_R_findSeenEyes (Nat.le_of_ble_eq_true rfl) (ls := [some (zr G 4), none, none]) rfl ?_
  unfold w_R_findSeenEyes at h
  refine PW_iconst zd_R_findSeenEyes_0 ?_
  refine PW_istore_n zd_R_findSeenEyes_1 rfl (by decide) (ls2 := [_, _, _]) rfl ?_
  exact PW_sub (by exact ⟨rfl, rfl, trivial⟩) (kl_R_findSeenEyes_2 hrU  h)
def w_R_colourOf (G : zG) (choice : Int) (X : zX) (σ : zPH) : Prop :=
  (zI choice) ∧
  (choice ≠ 3 →
    (0 ≤ choice ∧ choice < 32) ∧
    X (some (iZ ((1 : Int) * 2 ^ choice.toNat))) σ) ∧
  (choice = 3 →
    X (some (iZ 7)) σ)
set_option maxHeartbeats 4000000 in
theorem k_R_colourOf {G : zG} {choice : Int} {X : zX} {σ : zPH} (h : w_R_colourOf G choice X σ) : MS G zm_R_colourOf 0 [iZ choice] σ X := by
  refine ms_of zk_R_colourOf (Nat.le_of_ble_eq_true rfl) (ls := [some (iZ choice)]) rfl ?_
  unfold w_R_colourOf at h
  refine PW_iload_n zd_R_colourOf_0 rfl ?_
  refine PW_iconst zd_R_colourOf_1 ?_
  obtain ⟨h0, hT, hF⟩ := h
  refine PW_icmp_ne zd_R_colourOf_2 ⟨h0, by decide⟩ (fun q => ?_) (fun q => ?_)
  · have h := hT q
    refine PW_iconst zd_R_colourOf_10 ?_
    refine PW_iload_n zd_R_colourOf_11 rfl ?_
    obtain ⟨h0, h⟩ := h
    refine PW_ishl zd_R_colourOf_12 h0 ?_
    exact PW_iret zd_R_colourOf_13 rfl h
  · have h := hF q
    refine PW_bipush zd_R_colourOf_5 rfl ?_
    refine PW_goto zd_R_colourOf_7 ?_
    exact PW_iret zd_R_colourOf_13 rfl h
def b_R_choose_42 (G : zG) (first last : Int) (X : zX) (σ : zPH) : Prop :=
  (0 ≤ (σ 4 3) ∧ (σ 4 3) < 1601) ∧
  MS G zm_R_refuse 0 [zr G 4, iZ 1, iZ (σ 12 (σ 4 3).toNat)] σ (fun v σ56 =>
    v = none ∧
    X (some (iZ 0)) σ56)
set_option maxHeartbeats 4000000 in
theorem kb_R_choose_42 {G : zG} {first last : Int} {X : zX} {σ : zPH} (h : b_R_choose_42 G first last X   σ) : PW G zm_R_choose 1 X 42 [some (zr G 4), none, none, none] [] σ := by
  unfold b_R_choose_42 at h
  refine PW_aload_n zd_R_choose_42 rfl ?_
  refine PW_iconst zd_R_choose_43 ?_
  refine PW_aload_n zd_R_choose_44 rfl ?_
  refine PW_getR zd_R_choose_45 zf_R_18 (zs_4 _) rfl ?_
  refine PW_getR zd_R_choose_48 zf_R_170 (zs_8 _) rfl ?_
  refine PW_aload_n zd_R_choose_51 rfl ?_
  refine PW_getI zd_R_choose_52 zf_R_46 (zs_4 _) rfl ?_
  obtain ⟨h0, h⟩ := h
  refine PW_iaload zd_R_choose_55 (zs_12 _) h0 ?_
  refine PW_callV2v zd_R_choose_56 zl_R_64 zk_R_refuse zv_R_refuse (fr' := 0) (by decide) (zs_4 _) rfl rfl (Nat.le_of_ble_eq_true rfl) ?_
  refine ms_mono h ?_
  rintro v σ1 ⟨rfl, h⟩
  refine ⟨rfl, ?_⟩
  refine PW_iconst zd_R_choose_59 ?_
  exact PW_iret zd_R_choose_60 rfl h
def b_R_choose_31 (G : zG) (first last : Int) (X : zX) (s0 : Int) (σ : zPH) : Prop :=
  (zI s0 ∧ zI first) ∧
  (s0 < first →
    b_R_choose_42 G first last X  σ) ∧
  (first ≤ s0 →
    (zI s0 ∧ zI last) ∧
    (s0 ≤ last →
      MS G zm_R_advance 0 [zr G 4] σ (fun v σ62 =>
        v = none ∧
        X (some (iZ (s0 - first))) σ62)) ∧
    (last < s0 →
      b_R_choose_42 G first last X  σ))
set_option maxHeartbeats 4000000 in
theorem kb_R_choose_31 {G : zG} {first last : Int} {X : zX} {s0 : Int} {σ : zPH} (h : b_R_choose_31 G first last X  s0 σ) : PW G zm_R_choose 1 X 31 [some (zr G 4), some (iZ first), some (iZ last), none] [iZ s0] σ := by
  unfold b_R_choose_31 at h
  refine PW_istore_n zd_R_choose_31 rfl (by decide) (ls2 := [_, _, _, _]) rfl ?_
  refine PW_iload_n zd_R_choose_32 rfl ?_
  refine PW_iload_n zd_R_choose_33 rfl ?_
  obtain ⟨h0, hT, hF⟩ := h
  refine PW_icmp_lt zd_R_choose_34 h0 (fun q => ?_) (fun q => ?_)
  · have h := hT q
    exact PW_sub (by exact ⟨rfl, trivial⟩) (kb_R_choose_42   h)
  · have h := hF q
    refine PW_iload_n zd_R_choose_37 rfl ?_
    refine PW_iload_n zd_R_choose_38 rfl ?_
    obtain ⟨h0, hT, hF⟩ := h
    refine PW_icmp_le zd_R_choose_39 h0 (fun q => ?_) (fun q => ?_)
    · have h := hT q
      refine PW_aload_n zd_R_choose_61 rfl ?_
      refine PW_callV0v zd_R_choose_62 zl_R_88 zk_R_advance zv_R_advance (fr' := 0) (by decide) (zs_4 _) rfl rfl (Nat.le_of_ble_eq_true rfl) ?_
      refine ms_mono h ?_
      rintro v σ1 ⟨rfl, h⟩
      refine ⟨rfl, ?_⟩
      refine PW_iload_n zd_R_choose_65 rfl ?_
      refine PW_iload_n zd_R_choose_66 rfl ?_
      refine PW_isub zd_R_choose_67 ?_
      exact PW_iret zd_R_choose_68 rfl h
    · have h := hF q
      exact PW_sub (by exact ⟨rfl, trivial⟩) (kb_R_choose_42   h)
def w_R_choose (G : zG) (first last : Int) (X : zX) (σ : zPH) : Prop :=
  (0 ≤ (σ 4 3) ∧ (σ 4 3) < 1601) ∧
  (zI (σ 9 (σ 4 3).toNat)) ∧
  ((σ 9 (σ 4 3).toNat) ≠ 0 →
    b_R_choose_31 G first last X  (-1) σ) ∧
  ((σ 9 (σ 4 3).toNat) = 0 →
    (0 ≤ (σ 4 3) ∧ (σ 4 3) < 1601) ∧
    b_R_choose_31 G first last X  (σ 10 (σ 4 3).toNat) σ)
set_option maxHeartbeats 4000000 in
theorem k_R_choose {G : zG} {first last : Int} {X : zX} {σ : zPH} (h : w_R_choose G first last X σ) : MS G zm_R_choose 1 [zr G 4, iZ first, iZ last] σ X := by
  refine ms_of zk_R_choose (Nat.le_of_ble_eq_true rfl) (ls := [some (zr G 4), some (iZ first), some (iZ last), none]) rfl ?_
  unfold w_R_choose at h
  refine PW_aload_n zd_R_choose_0 rfl ?_
  refine PW_getR zd_R_choose_1 zf_R_18 (zs_4 _) rfl ?_
  refine PW_getR zd_R_choose_4 zf_R_55 (zs_8 _) rfl ?_
  refine PW_aload_n zd_R_choose_7 rfl ?_
  refine PW_getI zd_R_choose_8 zf_R_46 (zs_4 _) rfl ?_
  obtain ⟨h0, h⟩ := h
  refine PW_iaload zd_R_choose_11 (zs_9 _) h0 ?_
  obtain ⟨h0, hT, hF⟩ := h
  refine PW_if_ne zd_R_choose_12 h0 (fun q => ?_) (fun q => ?_)
  · have h := hT q
    refine PW_iconst zd_R_choose_30 ?_
    exact PW_sub (by exact ⟨rfl, rfl, rfl, trivial⟩) (kb_R_choose_31   h)
  · have h := hF q
    refine PW_aload_n zd_R_choose_15 rfl ?_
    refine PW_getR zd_R_choose_16 zf_R_18 (zs_4 _) rfl ?_
    refine PW_getR zd_R_choose_19 zf_R_94 (zs_8 _) rfl ?_
    refine PW_aload_n zd_R_choose_22 rfl ?_
    refine PW_getI zd_R_choose_23 zf_R_46 (zs_4 _) rfl ?_
    obtain ⟨h0, h⟩ := h
    refine PW_iaload zd_R_choose_26 (zs_10 _) h0 ?_
    refine PW_goto zd_R_choose_27 ?_
    exact PW_sub (by exact ⟨rfl, rfl, rfl, trivial⟩) (kb_R_choose_31   h)
def b_R_readNumber_46 (G : zG) (least greatest : Int) (X : zX) (x3 : Int) (σ : zPH) : Prop :=
  (0 ≤ (σ 4 3) ∧ (σ 4 3) < 1601) ∧
  MS G zm_R_refuse 0 [zr G 4, iZ 2, iZ (σ 11 (σ 4 3).toNat)] σ (fun v σ60 =>
    v = none ∧
    X (some (iZ x3)) σ60)
set_option maxHeartbeats 4000000 in
theorem kb_R_readNumber_46 {G : zG} {least greatest : Int} {X : zX} {x3 : Int} {σ : zPH} (h : b_R_readNumber_46 G least greatest X  x3 σ) : PW G zm_R_readNumber 2 X 46 [some (zr G 4), none, none, some (iZ x3)] [] σ := by
  unfold b_R_readNumber_46 at h
  refine PW_aload_n zd_R_readNumber_46 rfl ?_
  refine PW_iconst zd_R_readNumber_47 ?_
  refine PW_aload_n zd_R_readNumber_48 rfl ?_
  refine PW_getR zd_R_readNumber_49 zf_R_18 (zs_4 _) rfl ?_
  refine PW_getR zd_R_readNumber_52 zf_R_61 (zs_8 _) rfl ?_
  refine PW_aload_n zd_R_readNumber_55 rfl ?_
  refine PW_getI zd_R_readNumber_56 zf_R_46 (zs_4 _) rfl ?_
  obtain ⟨h0, h⟩ := h
  refine PW_iaload zd_R_readNumber_59 (zs_11 _) h0 ?_
  refine PW_callV2v zd_R_readNumber_60 zl_R_64 zk_R_refuse zv_R_refuse (fr' := 0) (by decide) (zs_4 _) rfl rfl (Nat.le_of_ble_eq_true rfl) ?_
  refine ms_mono h ?_
  rintro v σ1 ⟨rfl, h⟩
  refine ⟨rfl, ?_⟩
  refine PW_iload_n zd_R_readNumber_63 rfl ?_
  exact PW_iret zd_R_readNumber_64 rfl h
def w_R_readNumber (G : zG) (least greatest : Int) (X : zX) (σ : zPH) : Prop :=
  (0 ≤ (σ 4 3) ∧ (σ 4 3) < 1601) ∧
  ∀ x3 : Int, x3 = (σ 10 (σ 4 3).toNat) →
  (0 ≤ (σ 4 3) ∧ (σ 4 3) < 1601) ∧
  (zI (σ 9 (σ 4 3).toNat)) ∧
  ((σ 9 (σ 4 3).toNat) = 2 →
    (zI x3 ∧ zI least) ∧
    (x3 < least →
      b_R_readNumber_46 G least greatest X  x3 σ) ∧
    (least ≤ x3 →
      (zI x3 ∧ zI greatest) ∧
      (x3 ≤ greatest →
        X (some (iZ x3)) σ) ∧
      (greatest < x3 →
        b_R_readNumber_46 G least greatest X  x3 σ))) ∧
  ((σ 9 (σ 4 3).toNat) ≠ 2 →
    MS G zm_R_refuseToken 1 [zr G 4] σ (fun v σ30 =>
      v = none ∧
      X (some (iZ x3)) σ30))
set_option maxHeartbeats 4000000 in
theorem k_R_readNumber {G : zG} {least greatest : Int} {X : zX} {σ : zPH} (h : w_R_readNumber G least greatest X σ) : MS G zm_R_readNumber 2 [zr G 4, iZ least, iZ greatest] σ X := by
  refine ms_of zk_R_readNumber (Nat.le_of_ble_eq_true rfl) (ls := [some (zr G 4), some (iZ least), some (iZ greatest), none]) rfl ?_
  unfold w_R_readNumber at h
  refine PW_aload_n zd_R_readNumber_0 rfl ?_
  refine PW_getR zd_R_readNumber_1 zf_R_18 (zs_4 _) rfl ?_
  refine PW_getR zd_R_readNumber_4 zf_R_94 (zs_8 _) rfl ?_
  refine PW_aload_n zd_R_readNumber_7 rfl ?_
  refine PW_getI zd_R_readNumber_8 zf_R_46 (zs_4 _) rfl ?_
  obtain ⟨h0, h⟩ := h
  refine PW_iaload zd_R_readNumber_11 (zs_10 _) h0 ?_
  refine PW_istore_n zd_R_readNumber_12 rfl (by decide) (ls2 := [_, _, _, _]) rfl ?_
  have h := h _ rfl
  refine PW_aload_n zd_R_readNumber_13 rfl ?_
  refine PW_getR zd_R_readNumber_14 zf_R_18 (zs_4 _) rfl ?_
  refine PW_getR zd_R_readNumber_17 zf_R_55 (zs_8 _) rfl ?_
  refine PW_aload_n zd_R_readNumber_20 rfl ?_
  refine PW_getI zd_R_readNumber_21 zf_R_46 (zs_4 _) rfl ?_
  obtain ⟨h0, h⟩ := h
  refine PW_iaload zd_R_readNumber_24 (zs_9 _) h0 ?_
  refine PW_iconst zd_R_readNumber_25 ?_
  obtain ⟨h0, hT, hF⟩ := h
  refine PW_icmp_eq zd_R_readNumber_26 ⟨h0, by decide⟩ (fun q => ?_) (fun q => ?_)
  · have h := hT q
    refine PW_iload_n zd_R_readNumber_36 rfl ?_
    refine PW_iload_n zd_R_readNumber_37 rfl ?_
    obtain ⟨h0, hT, hF⟩ := h
    refine PW_icmp_lt zd_R_readNumber_38 h0 (fun q => ?_) (fun q => ?_)
    · have h := hT q
      exact PW_sub (by exact ⟨rfl, rfl, trivial⟩) (kb_R_readNumber_46   h)
    · have h := hF q
      refine PW_iload_n zd_R_readNumber_41 rfl ?_
      refine PW_iload_n zd_R_readNumber_42 rfl ?_
      obtain ⟨h0, hT, hF⟩ := h
      refine PW_icmp_le zd_R_readNumber_43 h0 (fun q => ?_) (fun q => ?_)
      · have h := hT q
        refine PW_iload_n zd_R_readNumber_63 rfl ?_
        exact PW_iret zd_R_readNumber_64 rfl h
      · have h := hF q
        exact PW_sub (by exact ⟨rfl, rfl, trivial⟩) (kb_R_readNumber_46   h)
  · have h := hF q
    refine PW_aload_n zd_R_readNumber_29 rfl ?_
    refine PW_callV0v zd_R_readNumber_30 zl_R_75 zk_R_refuseToken zv_R_refuseToken (fr' := 1) (by decide) (zs_4 _) rfl rfl (Nat.le_of_ble_eq_true rfl) ?_
    refine ms_mono h ?_
    rintro v σ1 ⟨rfl, h⟩
    refine ⟨rfl, ?_⟩
    refine PW_goto zd_R_readNumber_33 ?_
    refine PW_iload_n zd_R_readNumber_63 rfl ?_
    exact PW_iret zd_R_readNumber_64 rfl h
def w_R_isWord (G : zG) (word : Int) (X : zX) (σ : zPH) : Prop :=
  (zI (σ 4 0)) ∧
  ((σ 4 0) ≠ 0 →
    X (some (iZ 0)) σ) ∧
  ((σ 4 0) = 0 →
    (0 ≤ (σ 4 3) ∧ (σ 4 3) < 1601) ∧
    (zI (σ 9 (σ 4 3).toNat)) ∧
    ((σ 9 (σ 4 3).toNat) ≠ 0 →
      X (some (iZ 0)) σ) ∧
    ((σ 9 (σ 4 3).toNat) = 0 →
      (0 ≤ (σ 4 3) ∧ (σ 4 3) < 1601) ∧
      (zI (σ 10 (σ 4 3).toNat) ∧ zI word) ∧
      ((σ 10 (σ 4 3).toNat) ≠ word →
        X (some (iZ 0)) σ) ∧
      ((σ 10 (σ 4 3).toNat) = word →
        X (some (iZ 1)) σ)))
set_option maxHeartbeats 4000000 in
theorem k_R_isWord {G : zG} {word : Int} {X : zX} {σ : zPH} (h : w_R_isWord G word X σ) : MS G zm_R_isWord 0 [zr G 4, iZ word] σ X := by
  refine ms_of zk_R_isWord (Nat.le_of_ble_eq_true rfl) (ls := [some (zr G 4), some (iZ word)]) rfl ?_
  unfold w_R_isWord at h
  refine PW_aload_n zd_R_isWord_0 rfl ?_
  refine PW_getI zd_R_isWord_1 zf_R_39 (zs_4 _) rfl ?_
  obtain ⟨h0, hT, hF⟩ := h
  refine PW_if_ne zd_R_isWord_4 h0 (fun q => ?_) (fun q => ?_)
  · have h := hT q
    refine PW_iconst zd_R_isWord_42 ?_
    exact PW_zret zd_R_isWord_43 rfl (by decide) h
  · have h := hF q
    refine PW_aload_n zd_R_isWord_7 rfl ?_
    refine PW_getR zd_R_isWord_8 zf_R_18 (zs_4 _) rfl ?_
    refine PW_getR zd_R_isWord_11 zf_R_55 (zs_8 _) rfl ?_
    refine PW_aload_n zd_R_isWord_14 rfl ?_
    refine PW_getI zd_R_isWord_15 zf_R_46 (zs_4 _) rfl ?_
    obtain ⟨h0, h⟩ := h
    refine PW_iaload zd_R_isWord_18 (zs_9 _) h0 ?_
    obtain ⟨h0, hT, hF⟩ := h
    refine PW_if_ne zd_R_isWord_19 h0 (fun q => ?_) (fun q => ?_)
    · have h := hT q
      refine PW_iconst zd_R_isWord_42 ?_
      exact PW_zret zd_R_isWord_43 rfl (by decide) h
    · have h := hF q
      refine PW_aload_n zd_R_isWord_22 rfl ?_
      refine PW_getR zd_R_isWord_23 zf_R_18 (zs_4 _) rfl ?_
      refine PW_getR zd_R_isWord_26 zf_R_94 (zs_8 _) rfl ?_
      refine PW_aload_n zd_R_isWord_29 rfl ?_
      refine PW_getI zd_R_isWord_30 zf_R_46 (zs_4 _) rfl ?_
      obtain ⟨h0, h⟩ := h
      refine PW_iaload zd_R_isWord_33 (zs_10 _) h0 ?_
      refine PW_iload_n zd_R_isWord_34 rfl ?_
      obtain ⟨h0, hT, hF⟩ := h
      refine PW_icmp_ne zd_R_isWord_35 h0 (fun q => ?_) (fun q => ?_)
      · have h := hT q
        refine PW_iconst zd_R_isWord_42 ?_
        exact PW_zret zd_R_isWord_43 rfl (by decide) h
      · have h := hF q
        refine PW_iconst zd_R_isWord_38 ?_
        refine PW_goto zd_R_isWord_39 ?_
        exact PW_zret zd_R_isWord_43 rfl (by decide) h
def w_R_isSign (G : zG) (sign : Int) (X : zX) (σ : zPH) : Prop :=
  (zI (σ 4 0)) ∧
  ((σ 4 0) ≠ 0 →
    X (some (iZ 0)) σ) ∧
  ((σ 4 0) = 0 →
    (0 ≤ (σ 4 3) ∧ (σ 4 3) < 1601) ∧
    (zI (σ 9 (σ 4 3).toNat)) ∧
    ((σ 9 (σ 4 3).toNat) ≠ 3 →
      X (some (iZ 0)) σ) ∧
    ((σ 9 (σ 4 3).toNat) = 3 →
      (0 ≤ (σ 4 3) ∧ (σ 4 3) < 1601) ∧
      (zI (σ 10 (σ 4 3).toNat) ∧ zI sign) ∧
      ((σ 10 (σ 4 3).toNat) ≠ sign →
        X (some (iZ 0)) σ) ∧
      ((σ 10 (σ 4 3).toNat) = sign →
        X (some (iZ 1)) σ)))
set_option maxHeartbeats 4000000 in
theorem k_R_isSign {G : zG} {sign : Int} {X : zX} {σ : zPH} (h : w_R_isSign G sign X σ) : MS G zm_R_isSign 0 [zr G 4, iZ sign] σ X := by
  refine ms_of zk_R_isSign (Nat.le_of_ble_eq_true rfl) (ls := [some (zr G 4), some (iZ sign)]) rfl ?_
  unfold w_R_isSign at h
  refine PW_aload_n zd_R_isSign_0 rfl ?_
  refine PW_getI zd_R_isSign_1 zf_R_39 (zs_4 _) rfl ?_
  obtain ⟨h0, hT, hF⟩ := h
  refine PW_if_ne zd_R_isSign_4 h0 (fun q => ?_) (fun q => ?_)
  · have h := hT q
    refine PW_iconst zd_R_isSign_43 ?_
    exact PW_zret zd_R_isSign_44 rfl (by decide) h
  · have h := hF q
    refine PW_aload_n zd_R_isSign_7 rfl ?_
    refine PW_getR zd_R_isSign_8 zf_R_18 (zs_4 _) rfl ?_
    refine PW_getR zd_R_isSign_11 zf_R_55 (zs_8 _) rfl ?_
    refine PW_aload_n zd_R_isSign_14 rfl ?_
    refine PW_getI zd_R_isSign_15 zf_R_46 (zs_4 _) rfl ?_
    obtain ⟨h0, h⟩ := h
    refine PW_iaload zd_R_isSign_18 (zs_9 _) h0 ?_
    refine PW_iconst zd_R_isSign_19 ?_
    obtain ⟨h0, hT, hF⟩ := h
    refine PW_icmp_ne zd_R_isSign_20 ⟨h0, by decide⟩ (fun q => ?_) (fun q => ?_)
    · have h := hT q
      refine PW_iconst zd_R_isSign_43 ?_
      exact PW_zret zd_R_isSign_44 rfl (by decide) h
    · have h := hF q
      refine PW_aload_n zd_R_isSign_23 rfl ?_
      refine PW_getR zd_R_isSign_24 zf_R_18 (zs_4 _) rfl ?_
      refine PW_getR zd_R_isSign_27 zf_R_94 (zs_8 _) rfl ?_
      refine PW_aload_n zd_R_isSign_30 rfl ?_
      refine PW_getI zd_R_isSign_31 zf_R_46 (zs_4 _) rfl ?_
      obtain ⟨h0, h⟩ := h
      refine PW_iaload zd_R_isSign_34 (zs_10 _) h0 ?_
      refine PW_iload_n zd_R_isSign_35 rfl ?_
      obtain ⟨h0, hT, hF⟩ := h
      refine PW_icmp_ne zd_R_isSign_36 h0 (fun q => ?_) (fun q => ?_)
      · have h := hT q
        refine PW_iconst zd_R_isSign_43 ?_
        exact PW_zret zd_R_isSign_44 rfl (by decide) h
      · have h := hF q
        refine PW_iconst zd_R_isSign_39 ?_
        refine PW_goto zd_R_isSign_40 ?_
        exact PW_zret zd_R_isSign_44 rfl (by decide) h
def w_R_expect (G : zG) (word : Int) (X : zX) (σ : zPH) : Prop :=
  MS G zm_R_isWord 0 [zr G 4, iZ word] σ (fun v σ2 =>
    (v = some (iZ 0) ∧
      MS G zm_R_refuseToken 1 [zr G 4] σ2 (fun v σ16 =>
        v = none ∧
        X none σ16)) ∨
    (v = some (iZ 1) ∧
      MS G zm_R_advance 0 [zr G 4] σ2 (fun v σ9 =>
        v = none ∧
        X none σ9)))
set_option maxHeartbeats 4000000 in
theorem k_R_expect {G : zG} {word : Int} {X : zX} {σ : zPH} (h : w_R_expect G word X σ) : MS G zm_R_expect 2 [zr G 4, iZ word] σ X := by
  refine ms_of zk_R_expect (Nat.le_of_ble_eq_true rfl) (ls := [some (zr G 4), some (iZ word)]) rfl ?_
  unfold w_R_expect at h
  refine PW_aload_n zd_R_expect_0 rfl ?_
  refine PW_iload_n zd_R_expect_1 rfl ?_
  refine PW_callV1i zd_R_expect_2 zl_R_152 zk_R_isWord zv_R_isWord (fr' := 0) (by decide) (zs_4 _) rfl rfl (Nat.le_of_ble_eq_true rfl) ?_
  refine ms_mono h ?_
  rintro v σ1 (⟨rfl, h⟩ | ⟨rfl, h⟩)
  · refine ⟨0, rfl, ?_⟩
    refine PW_if_eq zd_R_expect_5 (by decide) (fun _ => ?_) (fun q => absurd rfl q)
    refine PW_aload_n zd_R_expect_15 rfl ?_
    refine PW_callV0v zd_R_expect_16 zl_R_75 zk_R_refuseToken zv_R_refuseToken (fr' := 1) (by decide) (zs_4 _) rfl rfl (Nat.le_of_ble_eq_true rfl) ?_
    refine ms_mono h ?_
    rintro v σ1 ⟨rfl, h⟩
    refine ⟨rfl, ?_⟩
    exact PW_vret zd_R_expect_19 rfl h
  · refine ⟨1, rfl, ?_⟩
    refine PW_if_eq zd_R_expect_5 (by decide) (fun q => absurd q (by decide)) (fun _ => ?_)
    refine PW_aload_n zd_R_expect_8 rfl ?_
    refine PW_callV0v zd_R_expect_9 zl_R_88 zk_R_advance zv_R_advance (fr' := 0) (by decide) (zs_4 _) rfl rfl (Nat.le_of_ble_eq_true rfl) ?_
    refine ms_mono h ?_
    rintro v σ1 ⟨rfl, h⟩
    refine ⟨rfl, ?_⟩
    refine PW_goto zd_R_expect_12 ?_
    exact PW_vret zd_R_expect_19 rfl h
def w_R_expectSign (G : zG) (sign : Int) (X : zX) (σ : zPH) : Prop :=
  MS G zm_R_isSign 0 [zr G 4, iZ sign] σ (fun v σ2 =>
    (v = some (iZ 0) ∧
      MS G zm_R_refuseToken 1 [zr G 4] σ2 (fun v σ16 =>
        v = none ∧
        X none σ16)) ∨
    (v = some (iZ 1) ∧
      MS G zm_R_advance 0 [zr G 4] σ2 (fun v σ9 =>
        v = none ∧
        X none σ9)))
set_option maxHeartbeats 4000000 in
theorem k_R_expectSign {G : zG} {sign : Int} {X : zX} {σ : zPH} (h : w_R_expectSign G sign X σ) : MS G zm_R_expectSign 2 [zr G 4, iZ sign] σ X := by
  refine ms_of zk_R_expectSign (Nat.le_of_ble_eq_true rfl) (ls := [some (zr G 4), some (iZ sign)]) rfl ?_
  unfold w_R_expectSign at h
  refine PW_aload_n zd_R_expectSign_0 rfl ?_
  refine PW_iload_n zd_R_expectSign_1 rfl ?_
  refine PW_callV1i zd_R_expectSign_2 zl_R_155 zk_R_isSign zv_R_isSign (fr' := 0) (by decide) (zs_4 _) rfl rfl (Nat.le_of_ble_eq_true rfl) ?_
  refine ms_mono h ?_
  rintro v σ1 (⟨rfl, h⟩ | ⟨rfl, h⟩)
  · refine ⟨0, rfl, ?_⟩
    refine PW_if_eq zd_R_expectSign_5 (by decide) (fun _ => ?_) (fun q => absurd rfl q)
    refine PW_aload_n zd_R_expectSign_15 rfl ?_
    refine PW_callV0v zd_R_expectSign_16 zl_R_75 zk_R_refuseToken zv_R_refuseToken (fr' := 1) (by decide) (zs_4 _) rfl rfl (Nat.le_of_ble_eq_true rfl) ?_
    refine ms_mono h ?_
    rintro v σ1 ⟨rfl, h⟩
    refine ⟨rfl, ?_⟩
    exact PW_vret zd_R_expectSign_19 rfl h
  · refine ⟨1, rfl, ?_⟩
    refine PW_if_eq zd_R_expectSign_5 (by decide) (fun q => absurd q (by decide)) (fun _ => ?_)
    refine PW_aload_n zd_R_expectSign_8 rfl ?_
    refine PW_callV0v zd_R_expectSign_9 zl_R_88 zk_R_advance zv_R_advance (fr' := 0) (by decide) (zs_4 _) rfl rfl (Nat.le_of_ble_eq_true rfl) ?_
    refine ms_mono h ?_
    rintro v σ1 ⟨rfl, h⟩
    refine ⟨rfl, ?_⟩
    refine PW_goto zd_R_expectSign_12 ?_
    exact PW_vret zd_R_expectSign_19 rfl h
def w_R_advance (G : zG) (X : zX) (σ : zPH) : Prop :=
  (zI (σ 4 0)) ∧
  ((σ 4 0) ≠ 0 →
    X none σ) ∧
  ((σ 4 0) = 0 →
    (zI (σ 4 3) ∧ zI ((σ 8 4) - 1)) ∧
    (((σ 8 4) - 1) ≤ (σ 4 3) →
      X none σ) ∧
    ((σ 4 3) < ((σ 8 4) - 1) →
      ∀ σ30 : zPH, σ30 = zupd σ 4 3 ((σ 4 3) + 1) →
      X none σ30))
set_option maxHeartbeats 4000000 in
theorem k_R_advance {G : zG} {X : zX} {σ : zPH} (h : w_R_advance G  X σ) : MS G zm_R_advance 0 [zr G 4] σ X := by
  refine ms_of zk_R_advance (Nat.le_of_ble_eq_true rfl) (ls := [some (zr G 4)]) rfl ?_
  unfold w_R_advance at h
  refine PW_aload_n zd_R_advance_0 rfl ?_
  refine PW_getI zd_R_advance_1 zf_R_39 (zs_4 _) rfl ?_
  obtain ⟨h0, hT, hF⟩ := h
  refine PW_if_ne zd_R_advance_4 h0 (fun q => ?_) (fun q => ?_)
  · have h := hT q
    exact PW_vret zd_R_advance_33 rfl h
  · have h := hF q
    refine PW_aload_n zd_R_advance_7 rfl ?_
    refine PW_getI zd_R_advance_8 zf_R_46 (zs_4 _) rfl ?_
    refine PW_aload_n zd_R_advance_11 rfl ?_
    refine PW_getR zd_R_advance_12 zf_R_18 (zs_4 _) rfl ?_
    refine PW_getI zd_R_advance_15 zf_R_172 (zs_8 _) rfl ?_
    refine PW_iconst zd_R_advance_18 ?_
    refine PW_isub zd_R_advance_19 ?_
    obtain ⟨h0, hT, hF⟩ := h
    refine PW_icmp_ge zd_R_advance_20 h0 (fun q => ?_) (fun q => ?_)
    · have h := hT q
      exact PW_vret zd_R_advance_33 rfl h
    · have h := hF q
      refine PW_aload_n zd_R_advance_23 rfl ?_
      refine PW_dup zd_R_advance_24 rfl ?_
      refine PW_getI zd_R_advance_25 zf_R_46 (zs_4 _) rfl ?_
      refine PW_iconst zd_R_advance_28 ?_
      refine PW_iadd zd_R_advance_29 ?_
      refine PW_putI zd_R_advance_30 zp_R_46 (zs_4 _) rfl ?_
      have h := h _ rfl
      exact PW_vret zd_R_advance_33 rfl h
def w_R_refuseToken (G : zG) (X : zX) (σ : zPH) : Prop :=
  (0 ≤ (σ 4 3) ∧ (σ 4 3) < 1601) ∧
  MS G zm_R_refuse 0 [zr G 4, iZ 1, iZ (σ 12 (σ 4 3).toNat)] σ (fun v σ14 =>
    v = none ∧
    X none σ14)
set_option maxHeartbeats 4000000 in
theorem k_R_refuseToken {G : zG} {X : zX} {σ : zPH} (h : w_R_refuseToken G  X σ) : MS G zm_R_refuseToken 1 [zr G 4] σ X := by
  refine ms_of zk_R_refuseToken (Nat.le_of_ble_eq_true rfl) (ls := [some (zr G 4)]) rfl ?_
  unfold w_R_refuseToken at h
  refine PW_aload_n zd_R_refuseToken_0 rfl ?_
  refine PW_iconst zd_R_refuseToken_1 ?_
  refine PW_aload_n zd_R_refuseToken_2 rfl ?_
  refine PW_getR zd_R_refuseToken_3 zf_R_18 (zs_4 _) rfl ?_
  refine PW_getR zd_R_refuseToken_6 zf_R_170 (zs_8 _) rfl ?_
  refine PW_aload_n zd_R_refuseToken_9 rfl ?_
  refine PW_getI zd_R_refuseToken_10 zf_R_46 (zs_4 _) rfl ?_
  obtain ⟨h0, h⟩ := h
  refine PW_iaload zd_R_refuseToken_13 (zs_12 _) h0 ?_
  refine PW_callV2v zd_R_refuseToken_14 zl_R_64 zk_R_refuse zv_R_refuse (fr' := 0) (by decide) (zs_4 _) rfl rfl (Nat.le_of_ble_eq_true rfl) ?_
  refine ms_mono h ?_
  rintro v σ1 ⟨rfl, h⟩
  refine ⟨rfl, ?_⟩
  exact PW_vret zd_R_refuseToken_17 rfl h
def w_R_refuse (G : zG) (fault place : Int) (X : zX) (σ : zPH) : Prop :=
  (zI (σ 4 0)) ∧
  ((σ 4 0) ≠ 0 →
    X none σ) ∧
  ((σ 4 0) = 0 →
    ∀ σ9 : zPH, σ9 = zupd σ 4 0 fault →
    ∀ σ14 : zPH, σ14 = zupd σ9 4 1 place →
    X none σ14)
set_option maxHeartbeats 4000000 in
theorem k_R_refuse {G : zG} {fault place : Int} {X : zX} {σ : zPH} (h : w_R_refuse G fault place X σ) : MS G zm_R_refuse 0 [zr G 4, iZ fault, iZ place] σ X := by
  refine ms_of zk_R_refuse (Nat.le_of_ble_eq_true rfl) (ls := [some (zr G 4), some (iZ fault), some (iZ place)]) rfl ?_
  unfold w_R_refuse at h
  refine PW_aload_n zd_R_refuse_0 rfl ?_
  refine PW_getI zd_R_refuse_1 zf_R_39 (zs_4 _) rfl ?_
  obtain ⟨h0, hT, hF⟩ := h
  refine PW_if_ne zd_R_refuse_4 h0 (fun q => ?_) (fun q => ?_)
  · have h := hT q
    exact PW_vret zd_R_refuse_17 rfl h
  · have h := hF q
    refine PW_aload_n zd_R_refuse_7 rfl ?_
    refine PW_iload_n zd_R_refuse_8 rfl ?_
    refine PW_putI zd_R_refuse_9 zp_R_39 (zs_4 _) rfl ?_
    have h := h _ rfl
    refine PW_aload_n zd_R_refuse_12 rfl ?_
    refine PW_iload_n zd_R_refuse_13 rfl ?_
    refine PW_putI zd_R_refuse_14 zp_R_9 (zs_4 _) rfl ?_
    have h := h _ rfl
    exact PW_vret zd_R_refuse_17 rfl h
def b_K_split_115 (G : zG) (length : Int) (X : zX) (K12 : Int → zPH → Prop) (x3 x4 : Int) (σ : zPH) : Prop :=
  ∀ x3_ : Int, x3_ = (x3 + x4) →
  K12 x3_ σ
set_option maxHeartbeats 4000000 in
theorem kb_K_split_115 {G : zG} {length : Int} {X : zX} {K12 : Int → zPH → Prop} (hK12 : ∀ (y0 : Int) (σ : zPH), K12 y0 σ → PW G zm_K_split 8 X 12 [some (zr G 8), none, some (iZ length), some (iZ y0), none] [] σ) {x3 x4 : Int} {σ : zPH} (h : b_K_split_115 G length X K12 x3 x4 σ) : PW G zm_K_split 8 X 115 [some (zr G 8), none, some (iZ length), some (iZ x3), some (iZ x4)] [] σ := by
  unfold b_K_split_115 at h
  refine PW_iload_n zd_K_split_115 rfl ?_
  refine PW_iload zd_K_split_116 rfl ?_
  refine PW_iadd zd_K_split_118 ?_
  refine PW_istore_n zd_K_split_119 rfl (by decide) (ls2 := [_, _, _, _, _]) rfl ?_
  have h := h _ rfl
  refine PW_goto zd_K_split_120 ?_
  exact PW_sub (by exact ⟨rfl, rfl, rfl, trivial⟩) (hK12 _ _ h)
def b_K_split_70 (G : zG) (length : Int) (X : zX) (K12 : Int → zPH → Prop) (x3 x4 : Int) (σ : zPH) : Prop :=
  MS G zm_K_addWordOrNumber 7 [zr G 8, iZ x3, iZ x4] σ (fun v σ74 =>
    v = none ∧
    b_K_split_115 G length X K12 x3 x4 σ74)
set_option maxHeartbeats 4000000 in
theorem kb_K_split_70 {G : zG} {length : Int} {X : zX} {K12 : Int → zPH → Prop} (hK12 : ∀ (y0 : Int) (σ : zPH), K12 y0 σ → PW G zm_K_split 8 X 12 [some (zr G 8), none, some (iZ length), some (iZ y0), none] [] σ) {x3 x4 : Int} {σ : zPH} (h : b_K_split_70 G length X K12 x3 x4 σ) : PW G zm_K_split 8 X 70 [some (zr G 8), none, some (iZ length), some (iZ x3), some (iZ x4)] [] σ := by
  unfold b_K_split_70 at h
  refine PW_aload_n zd_K_split_70 rfl ?_
  refine PW_iload_n zd_K_split_71 rfl ?_
  refine PW_iload zd_K_split_72 rfl ?_
  refine PW_callV2v zd_K_split_74 zl_K_42 zk_K_addWordOrNumber zv_K_addWordOrNumber (fr' := 7) (by decide) (zs_8 _) rfl rfl (Nat.le_of_ble_eq_true rfl) ?_
  refine ms_mono h ?_
  rintro v σ1 ⟨rfl, h⟩
  refine ⟨rfl, ?_⟩
  refine PW_goto zd_K_split_77 ?_
  exact PW_sub (by exact ⟨rfl, rfl, rfl, rfl, trivial⟩) (kb_K_split_115  hK12 h)
def b_K_split_44 (G : zG) (length : Int) (X : zX) (K12 : Int → zPH → Prop) (K44 : Int → Int → zPH → Prop) (x3 x4 : Int) (σ : zPH) : Prop :=
  (zI (x3 + x4) ∧ zI length) ∧
  (length ≤ (x3 + x4) →
    b_K_split_70 G length X K12 x3 x4 σ) ∧
  ((x3 + x4) < length →
    MS G zm_K_isLikeFirst 1 [zr G 8, iZ x3, iZ (x3 + x4)] σ (fun v σ58 =>
      (v = some (iZ 0) ∧
        b_K_split_70 G length X K12 x3 x4 σ58) ∨
      (v = some (iZ 1) ∧
        K44 x3 (x4 + 1) σ58)))
set_option maxHeartbeats 4000000 in
theorem kb_K_split_44 {G : zG} {length : Int} {X : zX} {K12 : Int → zPH → Prop} {K44 : Int → Int → zPH → Prop} (hK12 : ∀ (y0 : Int) (σ : zPH), K12 y0 σ → PW G zm_K_split 8 X 12 [some (zr G 8), none, some (iZ length), some (iZ y0), none] [] σ) (hK44 : ∀ (y0 y1 : Int) (σ : zPH), K44 y0 y1 σ → PW G zm_K_split 8 X 44 [some (zr G 8), none, some (iZ length), some (iZ y0), some (iZ y1)] [] σ) {x3 x4 : Int} {σ : zPH} (h : b_K_split_44 G length X K12 K44 x3 x4 σ) : PW G zm_K_split 8 X 44 [some (zr G 8), none, some (iZ length), some (iZ x3), some (iZ x4)] [] σ := by
  unfold b_K_split_44 at h
  refine PW_iload_n zd_K_split_44 rfl ?_
  refine PW_iload zd_K_split_45 rfl ?_
  refine PW_iadd zd_K_split_47 ?_
  refine PW_iload_n zd_K_split_48 rfl ?_
  obtain ⟨h0, hT, hF⟩ := h
  refine PW_icmp_ge zd_K_split_49 h0 (fun q => ?_) (fun q => ?_)
  · have h := hT q
    exact PW_sub (by exact ⟨rfl, rfl, rfl, rfl, trivial⟩) (kb_K_split_70  hK12 h)
  · have h := hF q
    refine PW_aload_n zd_K_split_52 rfl ?_
    refine PW_iload_n zd_K_split_53 rfl ?_
    refine PW_iload_n zd_K_split_54 rfl ?_
    refine PW_iload zd_K_split_55 rfl ?_
    refine PW_iadd zd_K_split_57 ?_
    refine PW_callV2i zd_K_split_58 zl_K_38 zk_K_isLikeFirst zv_K_isLikeFirst (fr' := 1) (by decide) (zs_8 _) rfl rfl (Nat.le_of_ble_eq_true rfl) ?_
    refine ms_mono h ?_
    rintro v σ1 (⟨rfl, h⟩ | ⟨rfl, h⟩)
    · refine ⟨0, rfl, ?_⟩
      refine PW_if_eq zd_K_split_61 (by decide) (fun _ => ?_) (fun q => absurd rfl q)
      exact PW_sub (by exact ⟨rfl, rfl, rfl, rfl, trivial⟩) (kb_K_split_70  hK12 h)
    · refine ⟨1, rfl, ?_⟩
      refine PW_if_eq zd_K_split_61 (by decide) (fun q => absurd q (by decide)) (fun _ => ?_)
      refine PW_iinc zd_K_split_64 rfl rfl (by decide) (ls2 := [_, _, _, _, _]) rfl ?_
      refine PW_goto zd_K_split_67 ?_
      exact PW_sub (by exact ⟨rfl, rfl, rfl, rfl, trivial⟩) (hK44 _ _ _ h)
theorem kl_K_split_44 {G : zG} {length : Int} {X : zX} {K12 : Int → zPH → Prop} (hK12 : ∀ (y0 : Int) (σ : zPH), K12 y0 σ → PW G zm_K_split 8 X 12 [some (zr G 8), none, some (iZ length), some (iZ y0), none] [] σ) {x3 x4 : Int} {σ : zPH} (h : zLP2 (b_K_split_44 G length X K12) x3 x4 σ) : PW G zm_K_split 8 X 44 [some (zr G 8), none, some (iZ length), some (iZ x3), some (iZ x4)] [] σ := by
  obtain ⟨n, h⟩ := h
  induction n generalizing x3 x4 σ with
  | zero => exact h.elim
  | succ n ih => exact kb_K_split_44  hK12 (fun _ _ _ h => ih h) h
def b_K_split_12 (G : zG) (length : Int) (X : zX) (K12 : Int → zPH → Prop) (x3 : Int) (σ : zPH) : Prop :=
  (zI x3 ∧ zI length) ∧
  (length ≤ x3 →
    MS G zm_K_put 0 [zr G 8, iZ 4, iZ (-1), iZ length, iZ length] σ (fun v σ128 =>
      v = none ∧
      X none σ128)) ∧
  (x3 < length →
    σ 8 5 = ((1 : Nat) : Int) ∧
    (0 ≤ x3 ∧ x3 < 1600) ∧
    MS G zm_K_isLetter 0 [iZ (σ 1 x3.toNat)] σ (fun v σ26 =>
      (v = some (iZ 0) ∧
        σ26 8 5 = ((1 : Nat) : Int) ∧
        (0 ≤ x3 ∧ x3 < 1600) ∧
        MS G zm_K_isDigit 0 [iZ (σ26 1 x3.toNat)] σ26 (fun v σ38 =>
          (v = some (iZ 0) ∧
            σ38 8 5 = ((1 : Nat) : Int) ∧
            (0 ≤ x3 ∧ x3 < 1600) ∧
            (zI (σ38 1 x3.toNat)) ∧
            ((σ38 1 x3.toNat) = 32 →
              b_K_split_115 G length X K12 x3 1 σ38) ∧
            ((σ38 1 x3.toNat) ≠ 32 →
              σ38 8 5 = ((1 : Nat) : Int) ∧
              (0 ≤ x3 ∧ x3 < 1600) ∧
              (zI (σ38 1 x3.toNat)) ∧
              ((σ38 1 x3.toNat) = 10 →
                b_K_split_115 G length X K12 x3 1 σ38) ∧
              ((σ38 1 x3.toNat) ≠ 10 →
                σ38 8 5 = ((1 : Nat) : Int) ∧
                (0 ≤ x3 ∧ x3 < 1600) ∧
                MS G zm_K_put 0 [zr G 8, iZ 3, iZ (σ38 1 x3.toNat), iZ x3, iZ x3] σ38 (fun v σ112 =>
                  v = none ∧
                  b_K_split_115 G length X K12 x3 1 σ112)))) ∨
          (v = some (iZ 1) ∧
            zLP2 (b_K_split_44 G length X K12) x3 1 σ38))) ∨
      (v = some (iZ 1) ∧
        zLP2 (b_K_split_44 G length X K12) x3 1 σ26)))
set_option maxHeartbeats 4000000 in
theorem kb_K_split_12 {G : zG} {length : Int} {X : zX} {K12 : Int → zPH → Prop} (hK12 : ∀ (y0 : Int) (σ : zPH), K12 y0 σ → PW G zm_K_split 8 X 12 [some (zr G 8), none, some (iZ length), some (iZ y0), none] [] σ) {x3 : Int} {σ : zPH} (h : b_K_split_12 G length X K12 x3 σ) : PW G zm_K_split 8 X 12 [some (zr G 8), none, some (iZ length), some (iZ x3), none] [] σ := by
  unfold b_K_split_12 at h
  refine PW_iload_n zd_K_split_12 rfl ?_
  refine PW_iload_n zd_K_split_13 rfl ?_
  obtain ⟨h0, hT, hF⟩ := h
  refine PW_icmp_ge zd_K_split_14 h0 (fun q => ?_) (fun q => ?_)
  · have h := hT q
    refine PW_aload_n zd_K_split_123 rfl ?_
    refine PW_iconst zd_K_split_124 ?_
    refine PW_iconst zd_K_split_125 ?_
    refine PW_iload_n zd_K_split_126 rfl ?_
    refine PW_iload_n zd_K_split_127 rfl ?_
    refine PW_callV4v zd_K_split_128 zl_K_46 zk_K_put zv_K_put (fr' := 0) (by decide) (zs_8 _) rfl rfl (Nat.le_of_ble_eq_true rfl) ?_
    refine ms_mono h ?_
    rintro v σ1 ⟨rfl, h⟩
    refine ⟨rfl, ?_⟩
    exact PW_vret zd_K_split_131 rfl h
  · have h := hF q
    refine PW_iconst zd_K_split_17 ?_
    refine PW_istore zd_K_split_18 rfl (by decide) (ls2 := [_, _, _, _, _]) rfl ?_
    refine PW_aload_n zd_K_split_20 rfl ?_
    obtain ⟨h0, h⟩ := h
    refine PW_getD zd_K_split_21 zf_K_24 (zs_8 _) rfl h0 ?_
    refine PW_iload_n zd_K_split_24 rfl ?_
    obtain ⟨h0, h⟩ := h
    refine PW_iaload zd_K_split_25 (zs_1 _) h0 ?_
    refine PW_callS1i zd_K_split_26 zl_K_31 zk_K_isLetter zv_K_isLetter (fr' := 0) (by decide) (Nat.le_of_ble_eq_true rfl) ?_
    refine ms_mono h ?_
    rintro v σ1 (⟨rfl, h⟩ | ⟨rfl, h⟩)
    · refine ⟨0, rfl, ?_⟩
      refine PW_if_ne zd_K_split_29 (by decide) (fun q => absurd rfl q) (fun _ => ?_)
      refine PW_aload_n zd_K_split_32 rfl ?_
      obtain ⟨h0, h⟩ := h
      refine PW_getD zd_K_split_33 zf_K_24 (zs_8 _) rfl h0 ?_
      refine PW_iload_n zd_K_split_36 rfl ?_
      obtain ⟨h0, h⟩ := h
      refine PW_iaload zd_K_split_37 (zs_1 _) h0 ?_
      refine PW_callS1i zd_K_split_38 zl_K_35 zk_K_isDigit zv_K_isDigit (fr' := 0) (by decide) (Nat.le_of_ble_eq_true rfl) ?_
      refine ms_mono h ?_
      rintro v σ1 (⟨rfl, h⟩ | ⟨rfl, h⟩)
      · refine ⟨0, rfl, ?_⟩
        refine PW_if_eq zd_K_split_41 (by decide) (fun _ => ?_) (fun q => absurd rfl q)
        refine PW_aload_n zd_K_split_80 rfl ?_
        obtain ⟨h0, h⟩ := h
        refine PW_getD zd_K_split_81 zf_K_24 (zs_8 _) rfl h0 ?_
        refine PW_iload_n zd_K_split_84 rfl ?_
        obtain ⟨h0, h⟩ := h
        refine PW_iaload zd_K_split_85 (zs_1 _) h0 ?_
        refine PW_bipush zd_K_split_86 rfl ?_
        obtain ⟨h0, hT, hF⟩ := h
        refine PW_icmp_eq zd_K_split_88 ⟨h0, by decide⟩ (fun q => ?_) (fun q => ?_)
        · have h := hT q
          exact PW_sub (by exact ⟨rfl, rfl, rfl, rfl, trivial⟩) (kb_K_split_115  hK12 h)
        · have h := hF q
          refine PW_aload_n zd_K_split_91 rfl ?_
          obtain ⟨h0, h⟩ := h
          refine PW_getD zd_K_split_92 zf_K_24 (zs_8 _) rfl h0 ?_
          refine PW_iload_n zd_K_split_95 rfl ?_
          obtain ⟨h0, h⟩ := h
          refine PW_iaload zd_K_split_96 (zs_1 _) h0 ?_
          refine PW_bipush zd_K_split_97 rfl ?_
          obtain ⟨h0, hT, hF⟩ := h
          refine PW_icmp_eq zd_K_split_99 ⟨h0, by decide⟩ (fun q => ?_) (fun q => ?_)
          · have h := hT q
            exact PW_sub (by exact ⟨rfl, rfl, rfl, rfl, trivial⟩) (kb_K_split_115  hK12 h)
          · have h := hF q
            refine PW_aload_n zd_K_split_102 rfl ?_
            refine PW_iconst zd_K_split_103 ?_
            refine PW_aload_n zd_K_split_104 rfl ?_
            obtain ⟨h0, h⟩ := h
            refine PW_getD zd_K_split_105 zf_K_24 (zs_8 _) rfl h0 ?_
            refine PW_iload_n zd_K_split_108 rfl ?_
            obtain ⟨h0, h⟩ := h
            refine PW_iaload zd_K_split_109 (zs_1 _) h0 ?_
            refine PW_iload_n zd_K_split_110 rfl ?_
            refine PW_iload_n zd_K_split_111 rfl ?_
            refine PW_callV4v zd_K_split_112 zl_K_46 zk_K_put zv_K_put (fr' := 0) (by decide) (zs_8 _) rfl rfl (Nat.le_of_ble_eq_true rfl) ?_
            refine ms_mono h ?_
            rintro v σ1 ⟨rfl, h⟩
            refine ⟨rfl, ?_⟩
            exact PW_sub (by exact ⟨rfl, rfl, rfl, rfl, trivial⟩) (kb_K_split_115  hK12 h)
      · refine ⟨1, rfl, ?_⟩
        refine PW_if_eq zd_K_split_41 (by decide) (fun q => absurd q (by decide)) (fun _ => ?_)
        exact PW_sub (by exact ⟨rfl, rfl, rfl, rfl, trivial⟩) (kl_K_split_44  hK12 h)
    · refine ⟨1, rfl, ?_⟩
      refine PW_if_ne zd_K_split_29 (by decide) (fun _ => ?_) (fun q => absurd q (by decide))
      exact PW_sub (by exact ⟨rfl, rfl, rfl, rfl, trivial⟩) (kl_K_split_44  hK12 h)
theorem kl_K_split_12 {G : zG} {length : Int} {X : zX} {x3 : Int} {σ : zPH} (h : zLP1 (b_K_split_12 G length X ) x3 σ) : PW G zm_K_split 8 X 12 [some (zr G 8), none, some (iZ length), some (iZ x3), none] [] σ := by
  obtain ⟨n, h⟩ := h
  induction n generalizing x3 σ with
  | zero => exact h.elim
  | succ n ih => exact kb_K_split_12   (fun _ _ h => ih h) h
def w_K_split (G : zG) (length : Int) (X : zX) (σ : zPH) : Prop :=
  ∀ σ2 : zPH, σ2 = zupd σ 8 5 ((1 : Nat) : Int) →
  ∀ σ7 : zPH, σ7 = zupd σ2 8 4 0 →
  zLP1 (b_K_split_12 G length X ) 0 σ7
set_option maxHeartbeats 4000000 in
theorem k_K_split {G : zG} {length : Int} {X : zX} {σ : zPH} (h : w_K_split G length X σ) : MS G zm_K_split 8 [zr G 8, zr G 1, iZ length] σ X := by
  refine ms_of zk_K_split (Nat.le_of_ble_eq_true rfl) (ls := [some (zr G 8), some (zr G 1), some (iZ length), none, none]) rfl ?_
  unfold w_K_split at h
  refine PW_aload_n zd_K_split_0 rfl ?_
  refine PW_aload_n zd_K_split_1 rfl ?_
  refine PW_putD (r := 1) (fty := .array .int) zd_K_split_2 zp_K_24 (zs_8 _) rfl (by decide +kernel) (by simp) ?_
  have h := h _ rfl
  refine PW_aload_n zd_K_split_5 rfl ?_
  refine PW_iconst zd_K_split_6 ?_
  refine PW_putI zd_K_split_7 zp_K_27 (zs_8 _) rfl ?_
  have h := h _ rfl
  refine PW_iconst zd_K_split_10 ?_
  refine PW_istore_n zd_K_split_11 rfl (by decide) (ls2 := [_, _, _, _, _]) rfl ?_
  exact PW_sub (by exact ⟨rfl, rfl, rfl, trivial⟩) (kl_K_split_12   h)
def b_K_addWordOrNumber_75 (G : zG) (from0 size : Int) (X : zX) (x3 x4 x5 s0 : Int) (σ : zPH) : Prop :=
  (zI s0) ∧
  (s0 = 0 →
    (zI x5) ∧
    (x5 = (-1) →
      (zI size ∧ zI x4) ∧
      (size ≤ x4 →
        (zI x3) ∧
        (x3 = 0 →
          MS G zm_K_packed 0 [zr G 8, iZ from0, iZ size, iZ 10, iZ 48] σ (fun v σ164 =>
            ∃ z164 : Int, v = some (iZ z164) ∧
            MS G zm_K_put 0 [zr G 8, iZ 2, iZ z164, iZ from0, iZ from0] σ164 (fun v σ169 =>
              v = none ∧
              X none σ169))) ∧
        (x3 ≠ 0 →
          MS G zm_K_packed 0 [zr G 8, iZ from0, iZ size, iZ 27, iZ 96] σ (fun v σ144 =>
            ∃ z144 : Int, v = some (iZ z144) ∧
            MS G zm_K_put 0 [zr G 8, iZ 1, iZ z144, iZ from0, iZ from0] σ144 (fun v σ149 =>
              v = none ∧
              X none σ149)))) ∧
      (x4 < size →
        MS G zm_K_put 0 [zr G 8, iZ 5, iZ (-1), iZ from0, iZ (from0 + x4)] σ (fun v σ125 =>
          v = none ∧
          X none σ125))) ∧
    (x5 ≠ (-1) →
      MS G zm_K_put 0 [zr G 8, iZ 0, iZ x5, iZ from0, iZ from0] σ (fun v σ105 =>
        v = none ∧
        X none σ105))) ∧
  (s0 ≠ 0 →
    MS G zm_K_put 0 [zr G 8, iZ 5, iZ (-1), iZ from0, iZ from0] σ (fun v σ87 =>
      v = none ∧
      X none σ87))
set_option maxHeartbeats 4000000 in
theorem kb_K_addWordOrNumber_75 {G : zG} {from0 size : Int} {X : zX} {x3 x4 x5 s0 : Int} {σ : zPH} (h : b_K_addWordOrNumber_75 G from0 size X  x3 x4 x5 s0 σ) : PW G zm_K_addWordOrNumber 7 X 75 [some (zr G 8), some (iZ from0), some (iZ size), some (iZ x3), some (iZ x4), some (iZ x5), none] [iZ s0] σ := by
  unfold b_K_addWordOrNumber_75 at h
  refine PW_istore zd_K_addWordOrNumber_75 rfl (by decide) (ls2 := [_, _, _, _, _, _, _]) rfl ?_
  refine PW_iload zd_K_addWordOrNumber_77 rfl ?_
  obtain ⟨h0, hT, hF⟩ := h
  refine PW_if_eq zd_K_addWordOrNumber_79 h0 (fun q => ?_) (fun q => ?_)
  · have h := hT q
    refine PW_iload zd_K_addWordOrNumber_93 rfl ?_
    refine PW_iconst zd_K_addWordOrNumber_95 ?_
    obtain ⟨h0, hT, hF⟩ := h
    refine PW_icmp_eq zd_K_addWordOrNumber_96 ⟨h0, by decide⟩ (fun q => ?_) (fun q => ?_)
    · have h := hT q
      refine PW_iload_n zd_K_addWordOrNumber_111 rfl ?_
      refine PW_iload zd_K_addWordOrNumber_112 rfl ?_
      obtain ⟨h0, hT, hF⟩ := h
      refine PW_icmp_le zd_K_addWordOrNumber_114 h0 (fun q => ?_) (fun q => ?_)
      · have h := hT q
        refine PW_iload_n zd_K_addWordOrNumber_131 rfl ?_
        obtain ⟨h0, hT, hF⟩ := h
        refine PW_if_eq zd_K_addWordOrNumber_132 h0 (fun q => ?_) (fun q => ?_)
        · have h := hT q
          refine PW_aload_n zd_K_addWordOrNumber_155 rfl ?_
          refine PW_iconst zd_K_addWordOrNumber_156 ?_
          refine PW_aload_n zd_K_addWordOrNumber_157 rfl ?_
          refine PW_iload_n zd_K_addWordOrNumber_158 rfl ?_
          refine PW_iload_n zd_K_addWordOrNumber_159 rfl ?_
          refine PW_bipush zd_K_addWordOrNumber_160 rfl ?_
          refine PW_bipush zd_K_addWordOrNumber_162 rfl ?_
          refine PW_callV4i zd_K_addWordOrNumber_164 zl_K_54 zk_K_packed zv_K_packed (fr' := 0) (by decide) (zs_8 _) rfl rfl (Nat.le_of_ble_eq_true rfl) ?_
          refine ms_mono h ?_
          rintro v σ1 ⟨z, rfl, h⟩
          refine ⟨z, rfl, ?_⟩
          refine PW_iload_n zd_K_addWordOrNumber_167 rfl ?_
          refine PW_iload_n zd_K_addWordOrNumber_168 rfl ?_
          refine PW_callV4v zd_K_addWordOrNumber_169 zl_K_46 zk_K_put zv_K_put (fr' := 0) (by decide) (zs_8 _) rfl rfl (Nat.le_of_ble_eq_true rfl) ?_
          refine ms_mono h ?_
          rintro v σ1 ⟨rfl, h⟩
          refine ⟨rfl, ?_⟩
          exact PW_vret zd_K_addWordOrNumber_172 rfl h
        · have h := hF q
          refine PW_aload_n zd_K_addWordOrNumber_135 rfl ?_
          refine PW_iconst zd_K_addWordOrNumber_136 ?_
          refine PW_aload_n zd_K_addWordOrNumber_137 rfl ?_
          refine PW_iload_n zd_K_addWordOrNumber_138 rfl ?_
          refine PW_iload_n zd_K_addWordOrNumber_139 rfl ?_
          refine PW_bipush zd_K_addWordOrNumber_140 rfl ?_
          refine PW_bipush zd_K_addWordOrNumber_142 rfl ?_
          refine PW_callV4i zd_K_addWordOrNumber_144 zl_K_54 zk_K_packed zv_K_packed (fr' := 0) (by decide) (zs_8 _) rfl rfl (Nat.le_of_ble_eq_true rfl) ?_
          refine ms_mono h ?_
          rintro v σ1 ⟨z, rfl, h⟩
          refine ⟨z, rfl, ?_⟩
          refine PW_iload_n zd_K_addWordOrNumber_147 rfl ?_
          refine PW_iload_n zd_K_addWordOrNumber_148 rfl ?_
          refine PW_callV4v zd_K_addWordOrNumber_149 zl_K_46 zk_K_put zv_K_put (fr' := 0) (by decide) (zs_8 _) rfl rfl (Nat.le_of_ble_eq_true rfl) ?_
          refine ms_mono h ?_
          rintro v σ1 ⟨rfl, h⟩
          refine ⟨rfl, ?_⟩
          refine PW_goto zd_K_addWordOrNumber_152 ?_
          exact PW_vret zd_K_addWordOrNumber_172 rfl h
      · have h := hF q
        refine PW_aload_n zd_K_addWordOrNumber_117 rfl ?_
        refine PW_iconst zd_K_addWordOrNumber_118 ?_
        refine PW_iconst zd_K_addWordOrNumber_119 ?_
        refine PW_iload_n zd_K_addWordOrNumber_120 rfl ?_
        refine PW_iload_n zd_K_addWordOrNumber_121 rfl ?_
        refine PW_iload zd_K_addWordOrNumber_122 rfl ?_
        refine PW_iadd zd_K_addWordOrNumber_124 ?_
        refine PW_callV4v zd_K_addWordOrNumber_125 zl_K_46 zk_K_put zv_K_put (fr' := 0) (by decide) (zs_8 _) rfl rfl (Nat.le_of_ble_eq_true rfl) ?_
        refine ms_mono h ?_
        rintro v σ1 ⟨rfl, h⟩
        refine ⟨rfl, ?_⟩
        refine PW_goto zd_K_addWordOrNumber_128 ?_
        exact PW_vret zd_K_addWordOrNumber_172 rfl h
    · have h := hF q
      refine PW_aload_n zd_K_addWordOrNumber_99 rfl ?_
      refine PW_iconst zd_K_addWordOrNumber_100 ?_
      refine PW_iload zd_K_addWordOrNumber_101 rfl ?_
      refine PW_iload_n zd_K_addWordOrNumber_103 rfl ?_
      refine PW_iload_n zd_K_addWordOrNumber_104 rfl ?_
      refine PW_callV4v zd_K_addWordOrNumber_105 zl_K_46 zk_K_put zv_K_put (fr' := 0) (by decide) (zs_8 _) rfl rfl (Nat.le_of_ble_eq_true rfl) ?_
      refine ms_mono h ?_
      rintro v σ1 ⟨rfl, h⟩
      refine ⟨rfl, ?_⟩
      refine PW_goto zd_K_addWordOrNumber_108 ?_
      exact PW_vret zd_K_addWordOrNumber_172 rfl h
  · have h := hF q
    refine PW_aload_n zd_K_addWordOrNumber_82 rfl ?_
    refine PW_iconst zd_K_addWordOrNumber_83 ?_
    refine PW_iconst zd_K_addWordOrNumber_84 ?_
    refine PW_iload_n zd_K_addWordOrNumber_85 rfl ?_
    refine PW_iload_n zd_K_addWordOrNumber_86 rfl ?_
    refine PW_callV4v zd_K_addWordOrNumber_87 zl_K_46 zk_K_put zv_K_put (fr' := 0) (by decide) (zs_8 _) rfl rfl (Nat.le_of_ble_eq_true rfl) ?_
    refine ms_mono h ?_
    rintro v σ1 ⟨rfl, h⟩
    refine ⟨rfl, ?_⟩
    refine PW_goto zd_K_addWordOrNumber_90 ?_
    exact PW_vret zd_K_addWordOrNumber_172 rfl h
def b_K_addWordOrNumber_74 (G : zG) (from0 size : Int) (X : zX) (x3 x4 x5 : Int) (σ : zPH) : Prop :=
  b_K_addWordOrNumber_75 G from0 size X  x3 x4 x5 0 σ
set_option maxHeartbeats 4000000 in
theorem kb_K_addWordOrNumber_74 {G : zG} {from0 size : Int} {X : zX} {x3 x4 x5 : Int} {σ : zPH} (h : b_K_addWordOrNumber_74 G from0 size X  x3 x4 x5 σ) : PW G zm_K_addWordOrNumber 7 X 74 [some (zr G 8), some (iZ from0), some (iZ size), some (iZ x3), some (iZ x4), some (iZ x5), none] [] σ := by
  unfold b_K_addWordOrNumber_74 at h
  refine PW_iconst zd_K_addWordOrNumber_74 ?_
  exact PW_sub (by exact ⟨rfl, rfl, rfl, rfl, rfl, rfl, trivial⟩) (kb_K_addWordOrNumber_75   h)
def b_K_addWordOrNumber_70 (G : zG) (from0 size : Int) (X : zX) (x3 x4 x5 : Int) (σ : zPH) : Prop :=
  b_K_addWordOrNumber_75 G from0 size X  x3 x4 x5 1 σ
set_option maxHeartbeats 4000000 in
theorem kb_K_addWordOrNumber_70 {G : zG} {from0 size : Int} {X : zX} {x3 x4 x5 : Int} {σ : zPH} (h : b_K_addWordOrNumber_70 G from0 size X  x3 x4 x5 σ) : PW G zm_K_addWordOrNumber 7 X 70 [some (zr G 8), some (iZ from0), some (iZ size), some (iZ x3), some (iZ x4), some (iZ x5), none] [] σ := by
  unfold b_K_addWordOrNumber_70 at h
  refine PW_iconst zd_K_addWordOrNumber_70 ?_
  refine PW_goto zd_K_addWordOrNumber_71 ?_
  exact PW_sub (by exact ⟨rfl, rfl, rfl, rfl, rfl, rfl, trivial⟩) (kb_K_addWordOrNumber_75   h)
def b_K_addWordOrNumber_36 (G : zG) (from0 size : Int) (X : zX) (x3 x4 s0 : Int) (σ : zPH) : Prop :=
  (zI from0) ∧
  (from0 ≤ 0 →
    b_K_addWordOrNumber_74 G from0 size X  x3 x4 s0 σ) ∧
  (0 < from0 →
    σ 8 5 = ((1 : Nat) : Int) ∧
    (0 ≤ (from0 - 1) ∧ (from0 - 1) < 1600) ∧
    MS G zm_K_isLetter 0 [iZ (σ 1 (from0 - 1).toNat)] σ (fun v σ50 =>
      (v = some (iZ 0) ∧
        σ50 8 5 = ((1 : Nat) : Int) ∧
        (0 ≤ (from0 - 1) ∧ (from0 - 1) < 1600) ∧
        MS G zm_K_isDigit 0 [iZ (σ50 1 (from0 - 1).toNat)] σ50 (fun v σ64 =>
          (v = some (iZ 0) ∧
            b_K_addWordOrNumber_74 G from0 size X  x3 x4 s0 σ64) ∨
          (v = some (iZ 1) ∧
            b_K_addWordOrNumber_70 G from0 size X  x3 x4 s0 σ64))) ∨
      (v = some (iZ 1) ∧
        b_K_addWordOrNumber_70 G from0 size X  x3 x4 s0 σ50)))
set_option maxHeartbeats 4000000 in
theorem kb_K_addWordOrNumber_36 {G : zG} {from0 size : Int} {X : zX} {x3 x4 s0 : Int} {σ : zPH} (h : b_K_addWordOrNumber_36 G from0 size X  x3 x4 s0 σ) : PW G zm_K_addWordOrNumber 7 X 36 [some (zr G 8), some (iZ from0), some (iZ size), some (iZ x3), some (iZ x4), none, none] [iZ s0] σ := by
  unfold b_K_addWordOrNumber_36 at h
  refine PW_istore zd_K_addWordOrNumber_36 rfl (by decide) (ls2 := [_, _, _, _, _, _, _]) rfl ?_
  refine PW_iload_n zd_K_addWordOrNumber_38 rfl ?_
  obtain ⟨h0, hT, hF⟩ := h
  refine PW_if_le zd_K_addWordOrNumber_39 h0 (fun q => ?_) (fun q => ?_)
  · have h := hT q
    exact PW_sub (by exact ⟨rfl, rfl, rfl, rfl, rfl, rfl, trivial⟩) (kb_K_addWordOrNumber_74   h)
  · have h := hF q
    refine PW_aload_n zd_K_addWordOrNumber_42 rfl ?_
    obtain ⟨h0, h⟩ := h
    refine PW_getD zd_K_addWordOrNumber_43 zf_K_24 (zs_8 _) rfl h0 ?_
    refine PW_iload_n zd_K_addWordOrNumber_46 rfl ?_
    refine PW_iconst zd_K_addWordOrNumber_47 ?_
    refine PW_isub zd_K_addWordOrNumber_48 ?_
    obtain ⟨h0, h⟩ := h
    refine PW_iaload zd_K_addWordOrNumber_49 (zs_1 _) h0 ?_
    refine PW_callS1i zd_K_addWordOrNumber_50 zl_K_31 zk_K_isLetter zv_K_isLetter (fr' := 0) (by decide) (Nat.le_of_ble_eq_true rfl) ?_
    refine ms_mono h ?_
    rintro v σ1 (⟨rfl, h⟩ | ⟨rfl, h⟩)
    · refine ⟨0, rfl, ?_⟩
      refine PW_if_ne zd_K_addWordOrNumber_53 (by decide) (fun q => absurd rfl q) (fun _ => ?_)
      refine PW_aload_n zd_K_addWordOrNumber_56 rfl ?_
      obtain ⟨h0, h⟩ := h
      refine PW_getD zd_K_addWordOrNumber_57 zf_K_24 (zs_8 _) rfl h0 ?_
      refine PW_iload_n zd_K_addWordOrNumber_60 rfl ?_
      refine PW_iconst zd_K_addWordOrNumber_61 ?_
      refine PW_isub zd_K_addWordOrNumber_62 ?_
      obtain ⟨h0, h⟩ := h
      refine PW_iaload zd_K_addWordOrNumber_63 (zs_1 _) h0 ?_
      refine PW_callS1i zd_K_addWordOrNumber_64 zl_K_35 zk_K_isDigit zv_K_isDigit (fr' := 0) (by decide) (Nat.le_of_ble_eq_true rfl) ?_
      refine ms_mono h ?_
      rintro v σ1 (⟨rfl, h⟩ | ⟨rfl, h⟩)
      · refine ⟨0, rfl, ?_⟩
        refine PW_if_eq zd_K_addWordOrNumber_67 (by decide) (fun _ => ?_) (fun q => absurd rfl q)
        exact PW_sub (by exact ⟨rfl, rfl, rfl, rfl, rfl, rfl, trivial⟩) (kb_K_addWordOrNumber_74   h)
      · refine ⟨1, rfl, ?_⟩
        refine PW_if_eq zd_K_addWordOrNumber_67 (by decide) (fun q => absurd q (by decide)) (fun _ => ?_)
        exact PW_sub (by exact ⟨rfl, rfl, rfl, rfl, rfl, rfl, trivial⟩) (kb_K_addWordOrNumber_70   h)
    · refine ⟨1, rfl, ?_⟩
      refine PW_if_ne zd_K_addWordOrNumber_53 (by decide) (fun _ => ?_) (fun q => absurd q (by decide))
      exact PW_sub (by exact ⟨rfl, rfl, rfl, rfl, rfl, rfl, trivial⟩) (kb_K_addWordOrNumber_70   h)
def b_K_addWordOrNumber_20 (G : zG) (from0 size : Int) (X : zX) (x3 s0 : Int) (σ : zPH) : Prop :=
  (zI x3) ∧
  (x3 = 0 →
    b_K_addWordOrNumber_36 G from0 size X  x3 s0 (-1) σ) ∧
  (x3 ≠ 0 →
    MS G zm_K_ownWord 6 [zr G 8, iZ from0, iZ size] σ (fun v σ29 =>
      ∃ z29 : Int, v = some (iZ z29) ∧
      b_K_addWordOrNumber_36 G from0 size X  x3 s0 z29 σ29))
set_option maxHeartbeats 4000000 in
theorem kb_K_addWordOrNumber_20 {G : zG} {from0 size : Int} {X : zX} {x3 s0 : Int} {σ : zPH} (h : b_K_addWordOrNumber_20 G from0 size X  x3 s0 σ) : PW G zm_K_addWordOrNumber 7 X 20 [some (zr G 8), some (iZ from0), some (iZ size), some (iZ x3), none, none, none] [iZ s0] σ := by
  unfold b_K_addWordOrNumber_20 at h
  refine PW_istore zd_K_addWordOrNumber_20 rfl (by decide) (ls2 := [_, _, _, _, _, _, _]) rfl ?_
  refine PW_iload_n zd_K_addWordOrNumber_22 rfl ?_
  obtain ⟨h0, hT, hF⟩ := h
  refine PW_if_eq zd_K_addWordOrNumber_23 h0 (fun q => ?_) (fun q => ?_)
  · have h := hT q
    refine PW_iconst zd_K_addWordOrNumber_35 ?_
    exact PW_sub (by exact ⟨rfl, rfl, rfl, rfl, rfl, trivial⟩) (kb_K_addWordOrNumber_36   h)
  · have h := hF q
    refine PW_aload_n zd_K_addWordOrNumber_26 rfl ?_
    refine PW_iload_n zd_K_addWordOrNumber_27 rfl ?_
    refine PW_iload_n zd_K_addWordOrNumber_28 rfl ?_
    refine PW_callV2i zd_K_addWordOrNumber_29 zl_K_50 zk_K_ownWord zv_K_ownWord (fr' := 6) (by decide) (zs_8 _) rfl rfl (Nat.le_of_ble_eq_true rfl) ?_
    refine ms_mono h ?_
    rintro v σ1 ⟨z, rfl, h⟩
    refine ⟨z, rfl, ?_⟩
    refine PW_goto zd_K_addWordOrNumber_32 ?_
    exact PW_sub (by exact ⟨rfl, rfl, rfl, rfl, rfl, trivial⟩) (kb_K_addWordOrNumber_36   h)
def w_K_addWordOrNumber (G : zG) (from0 size : Int) (X : zX) (σ : zPH) : Prop :=
  σ 8 5 = ((1 : Nat) : Int) ∧
  (0 ≤ from0 ∧ from0 < 1600) ∧
  MS G zm_K_isLetter 0 [iZ (σ 1 from0.toNat)] σ (fun v σ6 =>
    ∃ z6 : Int, (z6 = 0 ∨ z6 = 1) ∧ v = some (iZ z6) ∧
    (zI z6) ∧
    (z6 = 0 →
      b_K_addWordOrNumber_20 G from0 size X  z6 4 σ6) ∧
    (z6 ≠ 0 →
      b_K_addWordOrNumber_20 G from0 size X  z6 6 σ6))
set_option maxHeartbeats 4000000 in
theorem k_K_addWordOrNumber {G : zG} {from0 size : Int} {X : zX} {σ : zPH} (h : w_K_addWordOrNumber G from0 size X σ) : MS G zm_K_addWordOrNumber 7 [zr G 8, iZ from0, iZ size] σ X := by
  refine ms_of zk_K_addWordOrNumber (Nat.le_of_ble_eq_true rfl) (ls := [some (zr G 8), some (iZ from0), some (iZ size), none, none, none, none]) rfl ?_
  unfold w_K_addWordOrNumber at h
  refine PW_aload_n zd_K_addWordOrNumber_0 rfl ?_
  obtain ⟨h0, h⟩ := h
  refine PW_getD zd_K_addWordOrNumber_1 zf_K_24 (zs_8 _) rfl h0 ?_
  refine PW_iload_n zd_K_addWordOrNumber_4 rfl ?_
  obtain ⟨h0, h⟩ := h
  refine PW_iaload zd_K_addWordOrNumber_5 (zs_1 _) h0 ?_
  refine PW_callS1i zd_K_addWordOrNumber_6 zl_K_31 zk_K_isLetter zv_K_isLetter (fr' := 0) (by decide) (Nat.le_of_ble_eq_true rfl) ?_
  refine ms_mono h ?_
  rintro v σ1 ⟨z, hz, rfl, h⟩
  refine ⟨z, rfl, ?_⟩
  refine PW_istore_n zd_K_addWordOrNumber_9 rfl (by decide) (ls2 := [_, _, _, _, _, _, _]) rfl ?_
  refine PW_iload_n zd_K_addWordOrNumber_10 rfl ?_
  obtain ⟨h0, hT, hF⟩ := h
  refine PW_if_eq zd_K_addWordOrNumber_11 h0 (fun q => ?_) (fun q => ?_)
  · have h := hT q
    refine PW_iconst zd_K_addWordOrNumber_19 ?_
    exact PW_sub (by exact ⟨rfl, rfl, rfl, rfl, trivial⟩) (kb_K_addWordOrNumber_20   h)
  · have h := hF q
    refine PW_bipush zd_K_addWordOrNumber_14 rfl ?_
    refine PW_goto zd_K_addWordOrNumber_16 ?_
    exact PW_sub (by exact ⟨rfl, rfl, rfl, rfl, trivial⟩) (kb_K_addWordOrNumber_20   h)
def w_K_put (G : zG) (newKind newValue from0 fault : Int) (X : zX) (σ : zPH) : Prop :=
  (zI (σ 8 4)) ∧
  (1601 ≤ (σ 8 4) →
    X none σ) ∧
  ((σ 8 4) < 1601 →
    (0 ≤ (σ 8 4) ∧ (σ 8 4) < 1601) ∧
    ∀ σ21 : zPH, σ21 = zupd σ 9 (σ 8 4).toNat newKind →
    (0 ≤ (σ21 8 4) ∧ (σ21 8 4) < 1601) ∧
    ∀ σ31 : zPH, σ31 = zupd σ21 10 (σ21 8 4).toNat newValue →
    (0 ≤ (σ31 8 4) ∧ (σ31 8 4) < 1601) ∧
    ∀ σ41 : zPH, σ41 = zupd σ31 11 (σ31 8 4).toNat from0 →
    (0 ≤ (σ41 8 4) ∧ (σ41 8 4) < 1601) ∧
    ∀ σ52 : zPH, σ52 = zupd σ41 12 (σ41 8 4).toNat fault →
    ∀ σ60 : zPH, σ60 = zupd σ52 8 4 ((σ52 8 4) + 1) →
    X none σ60)
set_option maxHeartbeats 4000000 in
theorem k_K_put {G : zG} {newKind newValue from0 fault : Int} {X : zX} {σ : zPH} (h : w_K_put G newKind newValue from0 fault X σ) : MS G zm_K_put 0 [zr G 8, iZ newKind, iZ newValue, iZ from0, iZ fault] σ X := by
  refine ms_of zk_K_put (Nat.le_of_ble_eq_true rfl) (ls := [some (zr G 8), some (iZ newKind), some (iZ newValue), some (iZ from0), some (iZ fault)]) rfl ?_
  unfold w_K_put at h
  refine PW_aload_n zd_K_put_0 rfl ?_
  refine PW_getI zd_K_put_1 zf_K_27 (zs_8 _) rfl ?_
  refine PW_aload_n zd_K_put_4 rfl ?_
  refine PW_getR zd_K_put_5 zf_K_9 (zs_8 _) rfl ?_
  refine PW_alen zd_K_put_8 (zs_9 _) (by decide) (by decide) ?_
  obtain ⟨h0, hT, hF⟩ := h
  refine PW_icmp_ge zd_K_put_9 ⟨h0, by decide⟩ (fun q => ?_) (fun q => ?_)
  · have h := hT q
    exact PW_vret zd_K_put_63 rfl h
  · have h := hF q
    refine PW_aload_n zd_K_put_12 rfl ?_
    refine PW_getR zd_K_put_13 zf_K_9 (zs_8 _) rfl ?_
    refine PW_aload_n zd_K_put_16 rfl ?_
    refine PW_getI zd_K_put_17 zf_K_27 (zs_8 _) rfl ?_
    refine PW_iload_n zd_K_put_20 rfl ?_
    obtain ⟨h0, h⟩ := h
    refine PW_iastore zd_K_put_21 (zs_9 _) h0 ?_
    have h := h _ rfl
    refine PW_aload_n zd_K_put_22 rfl ?_
    refine PW_getR zd_K_put_23 zf_K_15 (zs_8 _) rfl ?_
    refine PW_aload_n zd_K_put_26 rfl ?_
    refine PW_getI zd_K_put_27 zf_K_27 (zs_8 _) rfl ?_
    refine PW_iload_n zd_K_put_30 rfl ?_
    obtain ⟨h0, h⟩ := h
    refine PW_iastore zd_K_put_31 (zs_10 _) h0 ?_
    have h := h _ rfl
    refine PW_aload_n zd_K_put_32 rfl ?_
    refine PW_getR zd_K_put_33 zf_K_18 (zs_8 _) rfl ?_
    refine PW_aload_n zd_K_put_36 rfl ?_
    refine PW_getI zd_K_put_37 zf_K_27 (zs_8 _) rfl ?_
    refine PW_iload_n zd_K_put_40 rfl ?_
    obtain ⟨h0, h⟩ := h
    refine PW_iastore zd_K_put_41 (zs_11 _) h0 ?_
    have h := h _ rfl
    refine PW_aload_n zd_K_put_42 rfl ?_
    refine PW_getR zd_K_put_43 zf_K_21 (zs_8 _) rfl ?_
    refine PW_aload_n zd_K_put_46 rfl ?_
    refine PW_getI zd_K_put_47 zf_K_27 (zs_8 _) rfl ?_
    refine PW_iload zd_K_put_50 rfl ?_
    obtain ⟨h0, h⟩ := h
    refine PW_iastore zd_K_put_52 (zs_12 _) h0 ?_
    have h := h _ rfl
    refine PW_aload_n zd_K_put_53 rfl ?_
    refine PW_dup zd_K_put_54 rfl ?_
    refine PW_getI zd_K_put_55 zf_K_27 (zs_8 _) rfl ?_
    refine PW_iconst zd_K_put_58 ?_
    refine PW_iadd zd_K_put_59 ?_
    refine PW_putI zd_K_put_60 zp_K_27 (zs_8 _) rfl ?_
    have h := h _ rfl
    exact PW_vret zd_K_put_63 rfl h
def b_K_packed_6 (G : zG) (from0 size base zero : Int) (X : zX) (K6 : Int → Int → zPH → Prop) (x5 x6 : Int) (σ : zPH) : Prop :=
  (zI x6 ∧ zI (from0 + size)) ∧
  ((from0 + size) ≤ x6 →
    X (some (iZ x5)) σ) ∧
  (x6 < (from0 + size) →
    σ 8 5 = ((1 : Nat) : Int) ∧
    (0 ≤ x6 ∧ x6 < 1600) ∧
    ∀ x5_ : Int, x5_ = (((x5 * base) + (σ 1 x6.toNat)) - zero) →
    K6 x5_ (x6 + 1) σ)
set_option maxHeartbeats 4000000 in
theorem kb_K_packed_6 {G : zG} {from0 size base zero : Int} {X : zX} {K6 : Int → Int → zPH → Prop} (hK6 : ∀ (y0 y1 : Int) (σ : zPH), K6 y0 y1 σ → PW G zm_K_packed 0 X 6 [some (zr G 8), some (iZ from0), some (iZ size), some (iZ base), some (iZ zero), some (iZ y0), some (iZ y1)] [] σ) {x5 x6 : Int} {σ : zPH} (h : b_K_packed_6 G from0 size base zero X K6 x5 x6 σ) : PW G zm_K_packed 0 X 6 [some (zr G 8), some (iZ from0), some (iZ size), some (iZ base), some (iZ zero), some (iZ x5), some (iZ x6)] [] σ := by
  unfold b_K_packed_6 at h
  refine PW_iload zd_K_packed_6 rfl ?_
  refine PW_iload_n zd_K_packed_8 rfl ?_
  refine PW_iload_n zd_K_packed_9 rfl ?_
  refine PW_iadd zd_K_packed_10 ?_
  obtain ⟨h0, hT, hF⟩ := h
  refine PW_icmp_ge zd_K_packed_11 h0 (fun q => ?_) (fun q => ?_)
  · have h := hT q
    refine PW_iload zd_K_packed_37 rfl ?_
    exact PW_iret zd_K_packed_39 rfl h
  · have h := hF q
    refine PW_iload zd_K_packed_14 rfl ?_
    refine PW_iload_n zd_K_packed_16 rfl ?_
    refine PW_imul zd_K_packed_17 ?_
    refine PW_aload_n zd_K_packed_18 rfl ?_
    obtain ⟨h0, h⟩ := h
    refine PW_getD zd_K_packed_19 zf_K_24 (zs_8 _) rfl h0 ?_
    refine PW_iload zd_K_packed_22 rfl ?_
    obtain ⟨h0, h⟩ := h
    refine PW_iaload zd_K_packed_24 (zs_1 _) h0 ?_
    refine PW_iadd zd_K_packed_25 ?_
    refine PW_iload zd_K_packed_26 rfl ?_
    refine PW_isub zd_K_packed_28 ?_
    refine PW_istore zd_K_packed_29 rfl (by decide) (ls2 := [_, _, _, _, _, _, _]) rfl ?_
    have h := h _ rfl
    refine PW_iinc zd_K_packed_31 rfl rfl (by decide) (ls2 := [_, _, _, _, _, _, _]) rfl ?_
    refine PW_goto zd_K_packed_34 ?_
    exact PW_sub (by exact ⟨rfl, rfl, rfl, rfl, rfl, rfl, rfl, trivial⟩) (hK6 _ _ _ h)
theorem kl_K_packed_6 {G : zG} {from0 size base zero : Int} {X : zX} {x5 x6 : Int} {σ : zPH} (h : zLP2 (b_K_packed_6 G from0 size base zero X ) x5 x6 σ) : PW G zm_K_packed 0 X 6 [some (zr G 8), some (iZ from0), some (iZ size), some (iZ base), some (iZ zero), some (iZ x5), some (iZ x6)] [] σ := by
  obtain ⟨n, h⟩ := h
  induction n generalizing x5 x6 σ with
  | zero => exact h.elim
  | succ n ih => exact kb_K_packed_6   (fun _ _ _ h => ih h) h
def w_K_packed (G : zG) (from0 size base zero : Int) (X : zX) (σ : zPH) : Prop :=
  zLP2 (b_K_packed_6 G from0 size base zero X ) 0 from0 σ
set_option maxHeartbeats 4000000 in
theorem k_K_packed {G : zG} {from0 size base zero : Int} {X : zX} {σ : zPH} (h : w_K_packed G from0 size base zero X σ) : MS G zm_K_packed 0 [zr G 8, iZ from0, iZ size, iZ base, iZ zero] σ X := by
  refine ms_of zk_K_packed (Nat.le_of_ble_eq_true rfl) (ls := [some (zr G 8), some (iZ from0), some (iZ size), some (iZ base), some (iZ zero), none, none]) rfl ?_
  unfold w_K_packed at h
  refine PW_iconst zd_K_packed_0 ?_
  refine PW_istore zd_K_packed_1 rfl (by decide) (ls2 := [_, _, _, _, _, _, _]) rfl ?_
  refine PW_iload_n zd_K_packed_3 rfl ?_
  refine PW_istore zd_K_packed_4 rfl (by decide) (ls2 := [_, _, _, _, _, _, _]) rfl ?_
  exact PW_sub (by exact ⟨rfl, rfl, rfl, rfl, rfl, rfl, rfl, trivial⟩) (kl_K_packed_6   h)
def w_K_isLikeFirst (G : zG) (first other : Int) (X : zX) (σ : zPH) : Prop :=
  σ 8 5 = ((1 : Nat) : Int) ∧
  (0 ≤ first ∧ first < 1600) ∧
  MS G zm_K_isLetter 0 [iZ (σ 1 first.toNat)] σ (fun v σ6 =>
    (v = some (iZ 0) ∧
      σ6 8 5 = ((1 : Nat) : Int) ∧
      (0 ≤ other ∧ other < 1600) ∧
      MS G zm_K_isDigit 0 [iZ (σ6 1 other.toNat)] σ6 (fun v σ30 =>
        ∃ z30 : Int, (z30 = 0 ∨ z30 = 1) ∧ v = some (iZ z30) ∧
        (z30 = 0 ∨ z30 = 1) ∧
        X (some (iZ z30)) σ30)) ∨
    (v = some (iZ 1) ∧
      σ6 8 5 = ((1 : Nat) : Int) ∧
      (0 ≤ other ∧ other < 1600) ∧
      MS G zm_K_isLetter 0 [iZ (σ6 1 other.toNat)] σ6 (fun v σ18 =>
        ∃ z18 : Int, (z18 = 0 ∨ z18 = 1) ∧ v = some (iZ z18) ∧
        (z18 = 0 ∨ z18 = 1) ∧
        X (some (iZ z18)) σ18)))
set_option maxHeartbeats 4000000 in
theorem k_K_isLikeFirst {G : zG} {first other : Int} {X : zX} {σ : zPH} (h : w_K_isLikeFirst G first other X σ) : MS G zm_K_isLikeFirst 1 [zr G 8, iZ first, iZ other] σ X := by
  refine ms_of zk_K_isLikeFirst (Nat.le_of_ble_eq_true rfl) (ls := [some (zr G 8), some (iZ first), some (iZ other)]) rfl ?_
  unfold w_K_isLikeFirst at h
  refine PW_aload_n zd_K_isLikeFirst_0 rfl ?_
  obtain ⟨h0, h⟩ := h
  refine PW_getD zd_K_isLikeFirst_1 zf_K_24 (zs_8 _) rfl h0 ?_
  refine PW_iload_n zd_K_isLikeFirst_4 rfl ?_
  obtain ⟨h0, h⟩ := h
  refine PW_iaload zd_K_isLikeFirst_5 (zs_1 _) h0 ?_
  refine PW_callS1i zd_K_isLikeFirst_6 zl_K_31 zk_K_isLetter zv_K_isLetter (fr' := 0) (by decide) (Nat.le_of_ble_eq_true rfl) ?_
  refine ms_mono h ?_
  rintro v σ1 (⟨rfl, h⟩ | ⟨rfl, h⟩)
  · refine ⟨0, rfl, ?_⟩
    refine PW_if_eq zd_K_isLikeFirst_9 (by decide) (fun _ => ?_) (fun q => absurd rfl q)
    refine PW_aload_n zd_K_isLikeFirst_24 rfl ?_
    obtain ⟨h0, h⟩ := h
    refine PW_getD zd_K_isLikeFirst_25 zf_K_24 (zs_8 _) rfl h0 ?_
    refine PW_iload_n zd_K_isLikeFirst_28 rfl ?_
    obtain ⟨h0, h⟩ := h
    refine PW_iaload zd_K_isLikeFirst_29 (zs_1 _) h0 ?_
    refine PW_callS1i zd_K_isLikeFirst_30 zl_K_35 zk_K_isDigit zv_K_isDigit (fr' := 0) (by decide) (Nat.le_of_ble_eq_true rfl) ?_
    refine ms_mono h ?_
    rintro v σ1 ⟨z, hz, rfl, h⟩
    refine ⟨z, rfl, ?_⟩
    exact PW_zret zd_K_isLikeFirst_33 rfl h.1 h.2
  · refine ⟨1, rfl, ?_⟩
    refine PW_if_eq zd_K_isLikeFirst_9 (by decide) (fun q => absurd q (by decide)) (fun _ => ?_)
    refine PW_aload_n zd_K_isLikeFirst_12 rfl ?_
    obtain ⟨h0, h⟩ := h
    refine PW_getD zd_K_isLikeFirst_13 zf_K_24 (zs_8 _) rfl h0 ?_
    refine PW_iload_n zd_K_isLikeFirst_16 rfl ?_
    obtain ⟨h0, h⟩ := h
    refine PW_iaload zd_K_isLikeFirst_17 (zs_1 _) h0 ?_
    refine PW_callS1i zd_K_isLikeFirst_18 zl_K_31 zk_K_isLetter zv_K_isLetter (fr' := 0) (by decide) (Nat.le_of_ble_eq_true rfl) ?_
    refine ms_mono h ?_
    rintro v σ1 ⟨z, hz, rfl, h⟩
    refine ⟨z, rfl, ?_⟩
    refine PW_goto zd_K_isLikeFirst_21 ?_
    exact PW_zret zd_K_isLikeFirst_33 rfl h.1 h.2
def w_K_isLetter (G : zG) (sign : Int) (X : zX) (σ : zPH) : Prop :=
  (zI sign) ∧
  (sign < 97 →
    X (some (iZ 0)) σ) ∧
  (97 ≤ sign →
    (zI sign) ∧
    (122 < sign →
      X (some (iZ 0)) σ) ∧
    (sign ≤ 122 →
      X (some (iZ 1)) σ))
set_option maxHeartbeats 4000000 in
theorem k_K_isLetter {G : zG} {sign : Int} {X : zX} {σ : zPH} (h : w_K_isLetter G sign X σ) : MS G zm_K_isLetter 0 [iZ sign] σ X := by
  refine ms_of zk_K_isLetter (Nat.le_of_ble_eq_true rfl) (ls := [some (iZ sign)]) rfl ?_
  unfold w_K_isLetter at h
  refine PW_iload_n zd_K_isLetter_0 rfl ?_
  refine PW_bipush zd_K_isLetter_1 rfl ?_
  obtain ⟨h0, hT, hF⟩ := h
  refine PW_icmp_lt zd_K_isLetter_3 ⟨h0, by decide⟩ (fun q => ?_) (fun q => ?_)
  · have h := hT q
    refine PW_iconst zd_K_isLetter_16 ?_
    exact PW_zret zd_K_isLetter_17 rfl (by decide) h
  · have h := hF q
    refine PW_iload_n zd_K_isLetter_6 rfl ?_
    refine PW_bipush zd_K_isLetter_7 rfl ?_
    obtain ⟨h0, hT, hF⟩ := h
    refine PW_icmp_gt zd_K_isLetter_9 ⟨h0, by decide⟩ (fun q => ?_) (fun q => ?_)
    · have h := hT q
      refine PW_iconst zd_K_isLetter_16 ?_
      exact PW_zret zd_K_isLetter_17 rfl (by decide) h
    · have h := hF q
      refine PW_iconst zd_K_isLetter_12 ?_
      refine PW_goto zd_K_isLetter_13 ?_
      exact PW_zret zd_K_isLetter_17 rfl (by decide) h
def w_K_isDigit (G : zG) (sign : Int) (X : zX) (σ : zPH) : Prop :=
  (zI sign) ∧
  (sign < 48 →
    X (some (iZ 0)) σ) ∧
  (48 ≤ sign →
    (zI sign) ∧
    (57 < sign →
      X (some (iZ 0)) σ) ∧
    (sign ≤ 57 →
      X (some (iZ 1)) σ))
set_option maxHeartbeats 4000000 in
theorem k_K_isDigit {G : zG} {sign : Int} {X : zX} {σ : zPH} (h : w_K_isDigit G sign X σ) : MS G zm_K_isDigit 0 [iZ sign] σ X := by
  refine ms_of zk_K_isDigit (Nat.le_of_ble_eq_true rfl) (ls := [some (iZ sign)]) rfl ?_
  unfold w_K_isDigit at h
  refine PW_iload_n zd_K_isDigit_0 rfl ?_
  refine PW_bipush zd_K_isDigit_1 rfl ?_
  obtain ⟨h0, hT, hF⟩ := h
  refine PW_icmp_lt zd_K_isDigit_3 ⟨h0, by decide⟩ (fun q => ?_) (fun q => ?_)
  · have h := hT q
    refine PW_iconst zd_K_isDigit_16 ?_
    exact PW_zret zd_K_isDigit_17 rfl (by decide) h
  · have h := hF q
    refine PW_iload_n zd_K_isDigit_6 rfl ?_
    refine PW_bipush zd_K_isDigit_7 rfl ?_
    obtain ⟨h0, hT, hF⟩ := h
    refine PW_icmp_gt zd_K_isDigit_9 ⟨h0, by decide⟩ (fun q => ?_) (fun q => ?_)
    · have h := hT q
      refine PW_iconst zd_K_isDigit_16 ?_
      exact PW_zret zd_K_isDigit_17 rfl (by decide) h
    · have h := hF q
      refine PW_iconst zd_K_isDigit_12 ?_
      refine PW_goto zd_K_isDigit_13 ?_
      exact PW_zret zd_K_isDigit_17 rfl (by decide) h
