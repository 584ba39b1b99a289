def w_M_fault (G : zG) (what : Int) (X : zX) (σ : zPH) : Prop :=
  (zI what) ∧
  (what ≠ 0 →
    (zI what) ∧
    (what ≠ 1 →
      X (some (iZ (-1))) σ) ∧
    (what = 1 →
      X (some (iZ (σ 58 3))) σ)) ∧
  (what = 0 →
    X (some (iZ (σ 58 2))) σ)
set_option maxHeartbeats 4000000 in
theorem k_M_fault {G : zG} {what : Int} {X : zX} {σ : zPH} (h : w_M_fault G what X σ) : MS G zm_M_fault 0 [zr G 58, iZ what] σ X := by
  refine ms_of zk_M_fault (Nat.le_of_ble_eq_true rfl) (ls := [some (zr G 58), some (iZ what)]) rfl ?_
  unfold w_M_fault at h
  refine PW_iload_n zd_M_fault_0 rfl ?_
  obtain ⟨h0, hT, hF⟩ := h
  refine PW_if_ne zd_M_fault_1 h0 (fun q => ?_) (fun q => ?_)
  · have h := hT q
    refine PW_iload_n zd_M_fault_11 rfl ?_
    refine PW_iconst zd_M_fault_12 ?_
    obtain ⟨h0, hT, hF⟩ := h
    refine PW_icmp_ne zd_M_fault_13 ⟨h0, by decide⟩ (fun q => ?_) (fun q => ?_)
    · have h := hT q
      refine PW_iconst zd_M_fault_23 ?_
      exact PW_iret zd_M_fault_24 rfl h
    · have h := hF q
      refine PW_aload_n zd_M_fault_16 rfl ?_
      refine PW_getI zd_M_fault_17 zf_M_20 (zs_58 _) rfl ?_
      refine PW_goto zd_M_fault_20 ?_
      exact PW_iret zd_M_fault_24 rfl h
  · have h := hF q
    refine PW_aload_n zd_M_fault_4 rfl ?_
    refine PW_getI zd_M_fault_5 zf_M_17 (zs_58 _) rfl ?_
    refine PW_goto zd_M_fault_8 ?_
    exact PW_iret zd_M_fault_24 rfl h
def w_M_isSquare (G : zG) (c r : Int) (X : zX) (σ : zPH) : Prop :=
  (0 ≤ (σ 58 13) ∧ (σ 58 13) < 2) ∧
  MS G zm_M_is 0 [iZ c, iZ 0, iZ ((σ 60 (σ 58 13).toNat) - 1)] σ (fun v σ13 =>
    (v = some (iZ 0) ∧
      X (some (iZ 0)) σ13) ∨
    (v = some (iZ 1) ∧
      (0 ≤ (σ13 58 13) ∧ (σ13 58 13) < 2) ∧
      MS G zm_M_is 0 [iZ r, iZ 0, iZ ((σ13 61 (σ13 58 13).toNat) - 1)] σ13 (fun v σ32 =>
        (v = some (iZ 0) ∧
          X (some (iZ 0)) σ32) ∨
        (v = some (iZ 1) ∧
          X (some (iZ 1)) σ32))))
set_option maxHeartbeats 4000000 in
theorem k_M_isSquare {G : zG} {c r : Int} {X : zX} {σ : zPH} (h : w_M_isSquare G c r X σ) : MS G zm_M_isSquare 1 [zr G 58, iZ c, iZ r] σ X := by
  refine ms_of zk_M_isSquare (Nat.le_of_ble_eq_true rfl) (ls := [some (zr G 58), some (iZ c), some (iZ r)]) rfl ?_
  unfold w_M_isSquare at h
  refine PW_iload_n zd_M_isSquare_0 rfl ?_
  refine PW_iconst zd_M_isSquare_1 ?_
  refine PW_aload_n zd_M_isSquare_2 rfl ?_
  refine PW_getR zd_M_isSquare_3 zf_M_54 (zs_58 _) rfl ?_
  refine PW_aload_n zd_M_isSquare_6 rfl ?_
  refine PW_getI zd_M_isSquare_7 zf_M_51 (zs_58 _) rfl ?_
  obtain ⟨h0, h⟩ := h
  refine PW_iaload zd_M_isSquare_10 (zs_60 _) h0 ?_
  refine PW_iconst zd_M_isSquare_11 ?_
  refine PW_isub zd_M_isSquare_12 ?_
  refine PW_callS3i zd_M_isSquare_13 zl_M_320 zk_M_is zv_M_is (fr' := 0) (by decide) (Nat.le_of_ble_eq_true rfl) ?_
  refine ms_mono h ?_
  rintro v σ1 (⟨rfl, h⟩ | ⟨rfl, h⟩)
  · refine ⟨0, rfl, ?_⟩
    refine PW_if_eq zd_M_isSquare_16 (by decide) (fun _ => ?_) (fun q => absurd rfl q)
    refine PW_iconst zd_M_isSquare_42 ?_
    exact PW_zret zd_M_isSquare_43 rfl (by decide) h
  · refine ⟨1, rfl, ?_⟩
    refine PW_if_eq zd_M_isSquare_16 (by decide) (fun q => absurd q (by decide)) (fun _ => ?_)
    refine PW_iload_n zd_M_isSquare_19 rfl ?_
    refine PW_iconst zd_M_isSquare_20 ?_
    refine PW_aload_n zd_M_isSquare_21 rfl ?_
    refine PW_getR zd_M_isSquare_22 zf_M_57 (zs_58 _) rfl ?_
    refine PW_aload_n zd_M_isSquare_25 rfl ?_
    refine PW_getI zd_M_isSquare_26 zf_M_51 (zs_58 _) rfl ?_
    obtain ⟨h0, h⟩ := h
    refine PW_iaload zd_M_isSquare_29 (zs_61 _) h0 ?_
    refine PW_iconst zd_M_isSquare_30 ?_
    refine PW_isub zd_M_isSquare_31 ?_
    refine PW_callS3i zd_M_isSquare_32 zl_M_320 zk_M_is zv_M_is (fr' := 0) (by decide) (Nat.le_of_ble_eq_true rfl) ?_
    refine ms_mono h ?_
    rintro v σ1 (⟨rfl, h⟩ | ⟨rfl, h⟩)
    · refine ⟨0, rfl, ?_⟩
      refine PW_if_eq zd_M_isSquare_35 (by decide) (fun _ => ?_) (fun q => absurd rfl q)
      refine PW_iconst zd_M_isSquare_42 ?_
      exact PW_zret zd_M_isSquare_43 rfl (by decide) h
    · refine ⟨1, rfl, ?_⟩
      refine PW_if_eq zd_M_isSquare_35 (by decide) (fun q => absurd q (by decide)) (fun _ => ?_)
      refine PW_iconst zd_M_isSquare_38 ?_
      refine PW_goto zd_M_isSquare_39 ?_
      exact PW_zret zd_M_isSquare_43 rfl (by decide) h
def w_M_has (G : zG) (what : Int) (X : zX) (σ : zPH) : Prop :=
  zI what ∧
  (what = 0 →
    (0 ≤ (σ 58 13) ∧ (σ 58 13) < 2) ∧
    X (some (iZ (σ 60 (σ 58 13).toNat))) σ) ∧
  (what = 1 →
    (0 ≤ (σ 58 13) ∧ (σ 58 13) < 2) ∧
    X (some (iZ (σ 61 (σ 58 13).toNat))) σ) ∧
  (what = 2 →
    (0 ≤ (σ 58 13) ∧ (σ 58 13) < 2) ∧
    X (some (iZ (σ 63 (σ 58 13).toNat))) σ) ∧
  (what = 3 →
    (0 ≤ (σ 58 13) ∧ (σ 58 13) < 2) ∧
    X (some (iZ (σ 64 (σ 58 13).toNat))) σ) ∧
  (what = 4 →
    (0 ≤ (σ 58 13) ∧ (σ 58 13) < 2) ∧
    X (some (iZ (σ 65 (σ 58 13).toNat))) σ) ∧
  (what = 5 →
    (0 ≤ (σ 58 13) ∧ (σ 58 13) < 2) ∧
    X (some (iZ (σ 66 (σ 58 13).toNat))) σ) ∧
  (what = 6 →
    (0 ≤ (σ 58 13) ∧ (σ 58 13) < 2) ∧
    X (some (iZ (σ 62 (σ 58 13).toNat))) σ) ∧
  ((what < 0 ∨ 6 < what) →
    X (some (iZ (-1))) σ)
set_option maxHeartbeats 4000000 in
theorem k_M_has {G : zG} {what : Int} {X : zX} {σ : zPH} (h : w_M_has G what X σ) : MS G zm_M_has 0 [zr G 58, iZ what] σ X := by
  refine ms_of zk_M_has (Nat.le_of_ble_eq_true rfl) (ls := [some (zr G 58), some (iZ what)]) rfl ?_
  unfold w_M_has at h
  refine PW_iload_n zd_M_has_0 rfl ?_
  obtain ⟨h0, h⟩ := h
  obtain ⟨hc0, hc1, hc2, hc3, hc4, hc5, hc6, hcd⟩ := h
  refine PW_tsplit 0 6 (fun c hx hlo hhi => ?_) (fun hx => ?_)
  · rcases (show c = 0 ∨ c = 1 ∨ c = 2 ∨ c = 3 ∨ c = 4 ∨ c = 5 ∨ c = 6 by omega) with rfl | rfl | rfl | rfl | rfl | rfl | rfl
    · refine PW_tsin (tgt := 44) zd_M_has_1 0 hx (by decide) rfl (by decide) ?_
      have h := hc0 (by omega)
      refine PW_aload_n zd_M_has_44 rfl ?_
      refine PW_getR zd_M_has_45 zf_M_54 (zs_58 _) rfl ?_
      refine PW_aload_n zd_M_has_48 rfl ?_
      refine PW_getI zd_M_has_49 zf_M_51 (zs_58 _) rfl ?_
      obtain ⟨h0, h⟩ := h
      refine PW_iaload zd_M_has_52 (zs_60 _) h0 ?_
      exact PW_iret zd_M_has_53 rfl h
    · refine PW_tsin (tgt := 54) zd_M_has_1 1 hx (by decide) rfl (by decide) ?_
      have h := hc1 (by omega)
      refine PW_aload_n zd_M_has_54 rfl ?_
      refine PW_getR zd_M_has_55 zf_M_57 (zs_58 _) rfl ?_
      refine PW_aload_n zd_M_has_58 rfl ?_
      refine PW_getI zd_M_has_59 zf_M_51 (zs_58 _) rfl ?_
      obtain ⟨h0, h⟩ := h
      refine PW_iaload zd_M_has_62 (zs_61 _) h0 ?_
      exact PW_iret zd_M_has_63 rfl h
    · refine PW_tsin (tgt := 64) zd_M_has_1 2 hx (by decide) rfl (by decide) ?_
      have h := hc2 (by omega)
      refine PW_aload_n zd_M_has_64 rfl ?_
      refine PW_getR zd_M_has_65 zf_M_63 (zs_58 _) rfl ?_
      refine PW_aload_n zd_M_has_68 rfl ?_
      refine PW_getI zd_M_has_69 zf_M_51 (zs_58 _) rfl ?_
      obtain ⟨h0, h⟩ := h
      refine PW_iaload zd_M_has_72 (zs_63 _) h0 ?_
      exact PW_iret zd_M_has_73 rfl h
    · refine PW_tsin (tgt := 74) zd_M_has_1 3 hx (by decide) rfl (by decide) ?_
      have h := hc3 (by omega)
      refine PW_aload_n zd_M_has_74 rfl ?_
      refine PW_getR zd_M_has_75 zf_M_66 (zs_58 _) rfl ?_
      refine PW_aload_n zd_M_has_78 rfl ?_
      refine PW_getI zd_M_has_79 zf_M_51 (zs_58 _) rfl ?_
      obtain ⟨h0, h⟩ := h
      refine PW_iaload zd_M_has_82 (zs_64 _) h0 ?_
      exact PW_iret zd_M_has_83 rfl h
    · refine PW_tsin (tgt := 84) zd_M_has_1 4 hx (by decide) rfl (by decide) ?_
      have h := hc4 (by omega)
      refine PW_aload_n zd_M_has_84 rfl ?_
      refine PW_getR zd_M_has_85 zf_M_69 (zs_58 _) rfl ?_
      refine PW_aload_n zd_M_has_88 rfl ?_
      refine PW_getI zd_M_has_89 zf_M_51 (zs_58 _) rfl ?_
      obtain ⟨h0, h⟩ := h
      refine PW_iaload zd_M_has_92 (zs_65 _) h0 ?_
      exact PW_iret zd_M_has_93 rfl h
    · refine PW_tsin (tgt := 94) zd_M_has_1 5 hx (by decide) rfl (by decide) ?_
      have h := hc5 (by omega)
      refine PW_aload_n zd_M_has_94 rfl ?_
      refine PW_getR zd_M_has_95 zf_M_72 (zs_58 _) rfl ?_
      refine PW_aload_n zd_M_has_98 rfl ?_
      refine PW_getI zd_M_has_99 zf_M_51 (zs_58 _) rfl ?_
      obtain ⟨h0, h⟩ := h
      refine PW_iaload zd_M_has_102 (zs_66 _) h0 ?_
      exact PW_iret zd_M_has_103 rfl h
    · refine PW_tsin (tgt := 104) zd_M_has_1 6 hx (by decide) rfl (by decide) ?_
      have h := hc6 (by omega)
      refine PW_aload_n zd_M_has_104 rfl ?_
      refine PW_getR zd_M_has_105 zf_M_60 (zs_58 _) rfl ?_
      refine PW_aload_n zd_M_has_108 rfl ?_
      refine PW_getI zd_M_has_109 zf_M_51 (zs_58 _) rfl ?_
      obtain ⟨h0, h⟩ := h
      refine PW_iaload zd_M_has_112 (zs_62 _) h0 ?_
      exact PW_iret zd_M_has_113 rfl h
  · refine PW_tsout (tgt := 114) zd_M_has_1 (by omega) (by decide) ?_
    have h := hcd (by omega)
    refine PW_iconst zd_M_has_114 ?_
    exact PW_iret zd_M_has_115 rfl h
def w_M_isEye (G : zG) (k : Int) (X : zX) (σ : zPH) : Prop :=
  (0 ≤ (σ 58 13) ∧ (σ 58 13) < 2) ∧
  MS G zm_M_is 0 [iZ k, iZ 0, iZ ((σ 66 (σ 58 13).toNat) - 1)] σ (fun v σ13 =>
    ∃ z13 : Int, (z13 = 0 ∨ z13 = 1) ∧ v = some (iZ z13) ∧
    (z13 = 0 ∨ z13 = 1) ∧
    X (some (iZ z13)) σ13)
set_option maxHeartbeats 4000000 in
theorem k_M_isEye {G : zG} {k : Int} {X : zX} {σ : zPH} (h : w_M_isEye G k X σ) : MS G zm_M_isEye 1 [zr G 58, iZ k] σ X := by
  refine ms_of zk_M_isEye (Nat.le_of_ble_eq_true rfl) (ls := [some (zr G 58), some (iZ k)]) rfl ?_
  unfold w_M_isEye at h
  refine PW_iload_n zd_M_isEye_0 rfl ?_
  refine PW_iconst zd_M_isEye_1 ?_
  refine PW_aload_n zd_M_isEye_2 rfl ?_
  refine PW_getR zd_M_isEye_3 zf_M_72 (zs_58 _) rfl ?_
  refine PW_aload_n zd_M_isEye_6 rfl ?_
  refine PW_getI zd_M_isEye_7 zf_M_51 (zs_58 _) rfl ?_
  obtain ⟨h0, h⟩ := h
  refine PW_iaload zd_M_isEye_10 (zs_66 _) h0 ?_
  refine PW_iconst zd_M_isEye_11 ?_
  refine PW_isub zd_M_isEye_12 ?_
  refine PW_callS3i zd_M_isEye_13 zl_M_320 zk_M_is zv_M_is (fr' := 0) (by decide) (Nat.le_of_ble_eq_true rfl) ?_
  refine ms_mono h ?_
  rintro v σ1 ⟨z, hz, rfl, h⟩
  refine ⟨z, rfl, ?_⟩
  exact PW_zret zd_M_isEye_16 rfl h.1 h.2
def b_M_letter_35 (G : zG) (eye0 k : Int) (X : zX) (K35 : Int → Int → Int → zPH → Prop) (x3 x5 x6 : Int) (σ : zPH) : Prop :=
  (zJ x6) ∧
  (x6 = 0 →
    (zI k ∧ zI x5) ∧
    (k < x5 →
      ((0 ≤ x3 ∧ x3 < 9223372036854775808) ∧ 0 ≤ (8 * ((x5 - 1) - k)) ∧ (8 * ((x5 - 1) - k)) < 64) ∧
      X (some (iZ ((x3 / 2 ^ (8 * ((x5 - 1) - k)).toNat) % 256))) σ) ∧
    (x5 ≤ k →
      X (some (iZ (-1))) σ)) ∧
  (x6 ≠ 0 →
    ((0 ≤ x6 ∧ x6 < 9223372036854775808)) ∧
    ∀ x6_ : Int, x6_ = (x6 / 256) →
    K35 x3 (x5 + 1) x6_ σ)
set_option maxHeartbeats 4000000 in
theorem kb_M_letter_35 {G : zG} {eye0 k : Int} {X : zX} {K35 : Int → Int → Int → zPH → Prop} (hK35 : ∀ (y0 y1 y2 : Int) (σ : zPH), K35 y0 y1 y2 σ → PW G zm_M_letter 2 X 35 [none, none, some (iZ k), some (lZ y0), none, some (iZ y1), some (lZ y2), none] [] σ) {x3 x5 x6 : Int} {σ : zPH} (h : b_M_letter_35 G eye0 k X K35 x3 x5 x6 σ) : PW G zm_M_letter 2 X 35 [none, none, some (iZ k), some (lZ x3), none, some (iZ x5), some (lZ x6), none] [] σ := by
  unfold b_M_letter_35 at h
  refine PW_lload zd_M_letter_35 rfl ?_
  refine PW_lconst zd_M_letter_37 ?_
  obtain ⟨h0, hT, hF⟩ := h
  refine PW_lcmpeq zd_M_letter_38 zd_M_letter_39 ⟨h0, by decide⟩ (fun q => ?_) (fun q => ?_)
  · have h := hT q
    refine PW_iload_n zd_M_letter_55 rfl ?_
    refine PW_iload zd_M_letter_56 rfl ?_
    obtain ⟨h0, hT, hF⟩ := h
    refine PW_icmp_lt zd_M_letter_58 h0 (fun q => ?_) (fun q => ?_)
    · have h := hT q
      refine PW_lload_n zd_M_letter_65 rfl ?_
      refine PW_bipush zd_M_letter_66 rfl ?_
      refine PW_iload zd_M_letter_68 rfl ?_
      refine PW_iconst zd_M_letter_70 ?_
      refine PW_isub zd_M_letter_71 ?_
      refine PW_iload_n zd_M_letter_72 rfl ?_
      refine PW_isub zd_M_letter_73 ?_
      refine PW_imul zd_M_letter_74 ?_
      obtain ⟨h0, h⟩ := h
      refine PW_lushr zd_M_letter_75 h0 ?_
      refine PW_ldc2 zd_M_letter_76 zcst_M_412 ?_
      refine PW_landm255 zd_M_letter_79 ?_
      refine PW_l2i zd_M_letter_80 ?_
      exact PW_iret zd_M_letter_81 rfl h
    · have h := hF q
      refine PW_iconst zd_M_letter_61 ?_
      refine PW_goto zd_M_letter_62 ?_
      exact PW_iret zd_M_letter_81 rfl h
  · have h := hF q
    refine PW_iinc zd_M_letter_42 rfl rfl (by decide) (ls2 := [_, _, _, _, _, _, _, _]) rfl ?_
    refine PW_lload zd_M_letter_45 rfl ?_
    refine PW_bipush zd_M_letter_47 rfl ?_
    obtain ⟨h0, h⟩ := h
    refine PW_lushr zd_M_letter_49 ⟨h0, by decide⟩ ?_
    refine PW_lstore zd_M_letter_50 rfl (by decide) (ls2 := [_, _, _, _, _, _, _, _]) rfl ?_
    have h := h _ rfl
    refine PW_goto zd_M_letter_52 ?_
    exact PW_sub (by exact ⟨rfl, rfl, rfl, rfl, trivial⟩) (hK35 _ _ _ _ h)
theorem kl_M_letter_35 {G : zG} {eye0 k : Int} {X : zX} {x3 x5 x6 : Int} {σ : zPH} (h : zLP3 (b_M_letter_35 G eye0 k X ) x3 x5 x6 σ) : PW G zm_M_letter 2 X 35 [none, none, some (iZ k), some (lZ x3), none, some (iZ x5), some (lZ x6), none] [] σ := by
  obtain ⟨n, h⟩ := h
  induction n generalizing x3 x5 x6 σ with
  | zero => exact h.elim
  | succ n ih => exact kb_M_letter_35   (fun _ _ _ _ h => ih h) h
def w_M_letter (G : zG) (eye0 k : Int) (X : zX) (σ : zPH) : Prop :=
  MS G zm_M_isEye 1 [zr G 58, iZ eye0] σ (fun v σ2 =>
    (v = some (iZ 0) ∧
      X (some (iZ (-1))) σ2) ∨
    (v = some (iZ 1) ∧
      (zI k) ∧
      (0 ≤ k →
        (0 ≤ ((8 * (σ2 58 13)) + eye0) ∧ ((8 * (σ2 58 13)) + eye0) < 16) ∧
        ∀ x3 : Int, x3 = (σ2 71 ((8 * (σ2 58 13)) + eye0).toNat) →
        zLP3 (b_M_letter_35 G eye0 k X ) x3 0 x3 σ2) ∧
      (k < 0 →
        X (some (iZ (-1))) σ2)))
set_option maxHeartbeats 4000000 in
theorem k_M_letter {G : zG} {eye0 k : Int} {X : zX} {σ : zPH} (h : w_M_letter G eye0 k X σ) : MS G zm_M_letter 2 [zr G 58, iZ eye0, iZ k] σ X := by
  refine ms_of zk_M_letter (Nat.le_of_ble_eq_true rfl) (ls := [some (zr G 58), some (iZ eye0), some (iZ k), none, none, none, none, none]) rfl ?_
  unfold w_M_letter at h
  refine PW_aload_n zd_M_letter_0 rfl ?_
  refine PW_iload_n zd_M_letter_1 rfl ?_
  refine PW_callV1i zd_M_letter_2 zl_M_409 zk_M_isEye zv_M_isEye (fr' := 1) (by decide) (zs_58 _) rfl rfl (Nat.le_of_ble_eq_true rfl) ?_
  refine ms_mono h ?_
  rintro v σ1 (⟨rfl, h⟩ | ⟨rfl, h⟩)
  · refine ⟨0, rfl, ?_⟩
    refine PW_if_eq zd_M_letter_5 (by decide) (fun _ => ?_) (fun q => absurd rfl q)
    refine PW_iconst zd_M_letter_12 ?_
    exact PW_iret zd_M_letter_13 rfl h
  · refine ⟨1, rfl, ?_⟩
    refine PW_if_eq zd_M_letter_5 (by decide) (fun q => absurd q (by decide)) (fun _ => ?_)
    refine PW_iload_n zd_M_letter_8 rfl ?_
    obtain ⟨h0, hT, hF⟩ := h
    refine PW_if_ge zd_M_letter_9 h0 (fun q => ?_) (fun q => ?_)
    · have h := hT q
      refine PW_aload_n zd_M_letter_14 rfl ?_
      refine PW_getR zd_M_letter_15 zf_M_87 (zs_58 _) rfl ?_
      refine PW_bipush zd_M_letter_18 rfl ?_
      refine PW_aload_n zd_M_letter_20 rfl ?_
      refine PW_getI zd_M_letter_21 zf_M_51 (zs_58 _) rfl ?_
      refine PW_imul zd_M_letter_24 ?_
      refine PW_iload_n zd_M_letter_25 rfl ?_
      refine PW_iadd zd_M_letter_26 ?_
      obtain ⟨h0, h⟩ := h
      refine PW_laload zd_M_letter_27 (zs_71 _) h0 ?_
      refine PW_lstore_n zd_M_letter_28 rfl (by decide) (ls2 := [_, _, _, _, _, _, _, _]) rfl ?_
      have h := h _ rfl
      refine PW_iconst zd_M_letter_29 ?_
      refine PW_istore zd_M_letter_30 rfl (by decide) (ls2 := [_, _, _, _, _, _, _, _]) rfl ?_
      refine PW_lload_n zd_M_letter_32 rfl ?_
      refine PW_lstore zd_M_letter_33 rfl (by decide) (ls2 := [_, _, _, _, _, _, _, _]) rfl ?_
      exact PW_sub (by exact ⟨rfl, rfl, rfl, rfl, trivial⟩) (kl_M_letter_35   h)
    · have h := hF q
      refine PW_iconst zd_M_letter_12 ?_
      exact PW_iret zd_M_letter_13 rfl h
def w_M_from (G : zG) (q : Int) (X : zX) (σ : zPH) : Prop :=
  (zI q ∧ zI (σ 58 49)) ∧
  (q ≠ (σ 58 49) →
    (zI q ∧ zI (σ 58 50)) ∧
    (q ≠ (σ 58 50) →
      X (some (iZ ((144 * (σ 58 13)) + q))) σ) ∧
    (q = (σ 58 50) →
      X (some (iZ ((144 * (σ 58 13)) + (σ 58 49)))) σ)) ∧
  (q = (σ 58 49) →
    X (some (iZ ((144 * (σ 58 13)) + (σ 58 50)))) σ)
set_option maxHeartbeats 4000000 in
theorem k_M_from {G : zG} {q : Int} {X : zX} {σ : zPH} (h : w_M_from G q X σ) : MS G zm_M_from 0 [zr G 58, iZ q] σ X := by
  refine ms_of zk_M_from (Nat.le_of_ble_eq_true rfl) (ls := [some (zr G 58), some (iZ q)]) rfl ?_
  unfold w_M_from at h
  refine PW_sipush zd_M_from_0 rfl ?_
  refine PW_aload_n zd_M_from_3 rfl ?_
  refine PW_getI zd_M_from_4 zf_M_51 (zs_58 _) rfl ?_
  refine PW_imul zd_M_from_7 ?_
  refine PW_iload_n zd_M_from_8 rfl ?_
  refine PW_aload_n zd_M_from_9 rfl ?_
  refine PW_getI zd_M_from_10 zf_M_162 (zs_58 _) rfl ?_
  obtain ⟨h0, hT, hF⟩ := h
  refine PW_icmp_ne zd_M_from_13 h0 (fun q => ?_) (fun q => ?_)
  · have h := hT q
    refine PW_iload_n zd_M_from_23 rfl ?_
    refine PW_aload_n zd_M_from_24 rfl ?_
    refine PW_getI zd_M_from_25 zf_M_165 (zs_58 _) rfl ?_
    obtain ⟨h0, hT, hF⟩ := h
    refine PW_icmp_ne zd_M_from_28 h0 (fun q => ?_) (fun q => ?_)
    · have h := hT q
      refine PW_iload_n zd_M_from_38 rfl ?_
      refine PW_iadd zd_M_from_39 ?_
      exact PW_iret zd_M_from_40 rfl h
    · have h := hF q
      refine PW_aload_n zd_M_from_31 rfl ?_
      refine PW_getI zd_M_from_32 zf_M_162 (zs_58 _) rfl ?_
      refine PW_goto zd_M_from_35 ?_
      refine PW_iadd zd_M_from_39 ?_
      exact PW_iret zd_M_from_40 rfl h
  · have h := hF q
    refine PW_aload_n zd_M_from_16 rfl ?_
    refine PW_getI zd_M_from_17 zf_M_165 (zs_58 _) rfl ?_
    refine PW_goto zd_M_from_20 ?_
    refine PW_iadd zd_M_from_39 ?_
    exact PW_iret zd_M_from_40 rfl h
def w_M_sortAt (G : zG) (q : Int) (X : zX) (σ : zPH) : Prop :=
  (zI q ∧ zI (σ 58 45)) ∧
  (q ≠ (σ 58 45) →
    (zI q ∧ zI (σ 58 46)) ∧
    (q ≠ (σ 58 46) →
      MS G zm_M_from 0 [zr G 58, iZ q] σ (fun v σ33 =>
        ∃ z33 : Int, v = some (iZ z33) ∧
        (0 ≤ z33 ∧ z33 < 288) ∧
        X (some (iZ (σ33 67 z33.toNat))) σ33)) ∧
    (q = (σ 58 46) →
      X (some (iZ (σ 58 47))) σ)) ∧
  (q = (σ 58 45) →
    X (some (iZ 0)) σ)
set_option maxHeartbeats 4000000 in
theorem k_M_sortAt {G : zG} {q : Int} {X : zX} {σ : zPH} (h : w_M_sortAt G q X σ) : MS G zm_M_sortAt 1 [zr G 58, iZ q] σ X := by
  refine ms_of zk_M_sortAt (Nat.le_of_ble_eq_true rfl) (ls := [some (zr G 58), some (iZ q)]) rfl ?_
  unfold w_M_sortAt at h
  refine PW_iload_n zd_M_sortAt_0 rfl ?_
  refine PW_aload_n zd_M_sortAt_1 rfl ?_
  refine PW_getI zd_M_sortAt_2 zf_M_150 (zs_58 _) rfl ?_
  obtain ⟨h0, hT, hF⟩ := h
  refine PW_icmp_ne zd_M_sortAt_5 h0 (fun q => ?_) (fun q => ?_)
  · have h := hT q
    refine PW_iload_n zd_M_sortAt_12 rfl ?_
    refine PW_aload_n zd_M_sortAt_13 rfl ?_
    refine PW_getI zd_M_sortAt_14 zf_M_153 (zs_58 _) rfl ?_
    obtain ⟨h0, hT, hF⟩ := h
    refine PW_icmp_ne zd_M_sortAt_17 h0 (fun q => ?_) (fun q => ?_)
    · have h := hT q
      refine PW_aload_n zd_M_sortAt_27 rfl ?_
      refine PW_getR zd_M_sortAt_28 zf_M_75 (zs_58 _) rfl ?_
      refine PW_aload_n zd_M_sortAt_31 rfl ?_
      refine PW_iload_n zd_M_sortAt_32 rfl ?_
      refine PW_callV1i zd_M_sortAt_33 zl_M_414 zk_M_from zv_M_from (fr' := 0) (by decide) (zs_58 _) rfl rfl (Nat.le_of_ble_eq_true rfl) ?_
      refine ms_mono h ?_
      rintro v σ1 ⟨z, rfl, h⟩
      refine ⟨z, rfl, ?_⟩
      obtain ⟨h0, h⟩ := h
      refine PW_iaload zd_M_sortAt_36 (zs_67 _) h0 ?_
      exact PW_iret zd_M_sortAt_37 rfl h
    · have h := hF q
      refine PW_aload_n zd_M_sortAt_20 rfl ?_
      refine PW_getI zd_M_sortAt_21 zf_M_156 (zs_58 _) rfl ?_
      refine PW_goto zd_M_sortAt_24 ?_
      exact PW_iret zd_M_sortAt_37 rfl h
  · have h := hF q
    refine PW_iconst zd_M_sortAt_8 ?_
    refine PW_goto zd_M_sortAt_9 ?_
    exact PW_iret zd_M_sortAt_37 rfl h
def w_M_numberAt (G : zG) (q : Int) (X : zX) (σ : zPH) : Prop :=
  MS G zm_M_from 0 [zr G 58, iZ q] σ (fun v σ6 =>
    ∃ z6 : Int, v = some (iZ z6) ∧
    (0 ≤ z6 ∧ z6 < 288) ∧
    X (some (iZ (σ6 68 z6.toNat))) σ6)
set_option maxHeartbeats 4000000 in
theorem k_M_numberAt {G : zG} {q : Int} {X : zX} {σ : zPH} (h : w_M_numberAt G q X σ) : MS G zm_M_numberAt 1 [zr G 58, iZ q] σ X := by
  refine ms_of zk_M_numberAt (Nat.le_of_ble_eq_true rfl) (ls := [some (zr G 58), some (iZ q)]) rfl ?_
  unfold w_M_numberAt at h
  refine PW_aload_n zd_M_numberAt_0 rfl ?_
  refine PW_getR zd_M_numberAt_1 zf_M_78 (zs_58 _) rfl ?_
  refine PW_aload_n zd_M_numberAt_4 rfl ?_
  refine PW_iload_n zd_M_numberAt_5 rfl ?_
  refine PW_callV1i zd_M_numberAt_6 zl_M_414 zk_M_from zv_M_from (fr' := 0) (by decide) (zs_58 _) rfl rfl (Nat.le_of_ble_eq_true rfl) ?_
  refine ms_mono h ?_
  rintro v σ1 ⟨z, rfl, h⟩
  refine ⟨z, rfl, ?_⟩
  obtain ⟨h0, h⟩ := h
  refine PW_iaload zd_M_numberAt_9 (zs_68 _) h0 ?_
  exact PW_iret zd_M_numberAt_10 rfl h
def b_M_formAt_61 (G : zG) (q st : Int) (X : zX) (x3 : Int) (σ : zPH) : Prop :=
  MS G zm_M_numberAt 1 [zr G 58, iZ q] σ (fun v σ68 =>
    ∃ z68 : Int, v = some (iZ z68) ∧
    (zI (σ 58 42) ∧ 0 ≤ z68 ∧ z68 < 32) ∧
    (0 ≤ x3 ∧ 0 ≤ (((σ 58 42) / 2 ^ z68.toNat) % 2)) ∧
    X (some (iZ (zxor x3 (((σ 58 42) / 2 ^ z68.toNat) % 2)))) σ68)
set_option maxHeartbeats 4000000 in
theorem kb_M_formAt_61 {G : zG} {q st : Int} {X : zX} {x3 : Int} {σ : zPH} (h : b_M_formAt_61 G q st X  x3 σ) : PW G zm_M_formAt 2 X 61 [some (zr G 58), some (iZ q), none, some (iZ x3), none] [] σ := by
  unfold b_M_formAt_61 at h
  refine PW_iload_n zd_M_formAt_61 rfl ?_
  refine PW_aload_n zd_M_formAt_62 rfl ?_
  refine PW_getI zd_M_formAt_63 zf_M_141 (zs_58 _) rfl ?_
  refine PW_aload_n zd_M_formAt_66 rfl ?_
  refine PW_iload_n zd_M_formAt_67 rfl ?_
  refine PW_callV1i zd_M_formAt_68 zl_M_417 zk_M_numberAt zv_M_numberAt (fr' := 1) (by decide) (zs_58 _) rfl rfl (Nat.le_of_ble_eq_true rfl) ?_
  refine ms_mono h ?_
  rintro v σ1 ⟨z, rfl, h⟩
  refine ⟨z, rfl, ?_⟩
  obtain ⟨h0, h⟩ := h
  refine PW_ishr zd_M_formAt_71 h0 ?_
  refine PW_iconst zd_M_formAt_72 ?_
  refine PW_iandm1 zd_M_formAt_73 ?_
  obtain ⟨h0, h⟩ := h
  refine PW_ixor zd_M_formAt_74 h0 ?_
  exact PW_iret zd_M_formAt_75 rfl h
def w_M_formAt (G : zG) (q st : Int) (X : zX) (σ : zPH) : Prop :=
  (zI q ∧ zI (σ 58 46)) ∧
  (q ≠ (σ 58 46) →
    (zI q ∧ zI (σ 58 51)) ∧
    (q ≠ (σ 58 51) →
      MS G zm_M_from 0 [zr G 58, iZ q] σ (fun v σ32 =>
        ∃ z32 : Int, v = some (iZ z32) ∧
        (0 ≤ z32 ∧ z32 < 288) ∧
        ∀ x3 : Int, x3 = (σ32 69 z32.toNat) →
        MS G zm_M_from 0 [zr G 58, iZ q] σ32 (fun v σ43 =>
          ∃ z43 : Int, v = some (iZ z43) ∧
          (0 ≤ z43 ∧ z43 < 288) ∧
          ∀ x4 : Int, x4 = (σ43 67 z43.toNat) →
          (zI x4) ∧
          (x4 = 2 →
            b_M_formAt_61 G q st X  x3 σ43) ∧
          (x4 ≠ 2 →
            (zI x4) ∧
            (x4 ≠ 3 →
              (zI x4) ∧
              (x4 ≠ 9 →
                (zI x4) ∧
                (x4 ≠ 8 →
                  X (some (iZ x3)) σ43) ∧
                (x4 = 8 →
                  MS G zm_M_numberAt 1 [zr G 58, iZ q] σ43 (fun v σ105 =>
                    ∃ z105 : Int, v = some (iZ z105) ∧
                    (zI st ∧ 0 ≤ z105 ∧ z105 < 32) ∧
                    X (some (iZ ((st / 2 ^ z105.toNat) % 2))) σ105))) ∧
              (x4 = 9 →
                MS G zm_M_numberAt 1 [zr G 58, iZ q] σ43 (fun v σ87 =>
                  ∃ z87 : Int, v = some (iZ z87) ∧
                  (zI st ∧ 0 ≤ z87 ∧ z87 < 32) ∧
                  (0 ≤ x3 ∧ 0 ≤ ((st / 2 ^ z87.toNat) % 2)) ∧
                  X (some (iZ (zxor x3 ((st / 2 ^ z87.toNat) % 2)))) σ87))) ∧
            (x4 = 3 →
              b_M_formAt_61 G q st X  x3 σ43))))) ∧
    (q = (σ 58 51) →
      X (some (iZ (σ 58 52))) σ)) ∧
  (q = (σ 58 46) →
    X (some (iZ (σ 58 48))) σ)
set_option maxHeartbeats 4000000 in
theorem k_M_formAt {G : zG} {q st : Int} {X : zX} {σ : zPH} (h : w_M_formAt G q st X σ) : MS G zm_M_formAt 2 [zr G 58, iZ q, iZ st] σ X := by
  refine ms_of zk_M_formAt (Nat.le_of_ble_eq_true rfl) (ls := [some (zr G 58), some (iZ q), some (iZ st), none, none]) rfl ?_
  unfold w_M_formAt at h
  refine PW_iload_n zd_M_formAt_0 rfl ?_
  refine PW_aload_n zd_M_formAt_1 rfl ?_
  refine PW_getI zd_M_formAt_2 zf_M_153 (zs_58 _) rfl ?_
  obtain ⟨h0, hT, hF⟩ := h
  refine PW_icmp_ne zd_M_formAt_5 h0 (fun q => ?_) (fun q => ?_)
  · have h := hT q
    refine PW_iload_n zd_M_formAt_13 rfl ?_
    refine PW_aload_n zd_M_formAt_14 rfl ?_
    refine PW_getI zd_M_formAt_15 zf_M_168 (zs_58 _) rfl ?_
    obtain ⟨h0, hT, hF⟩ := h
    refine PW_icmp_ne zd_M_formAt_18 h0 (fun q => ?_) (fun q => ?_)
    · have h := hT q
      refine PW_aload_n zd_M_formAt_26 rfl ?_
      refine PW_getR zd_M_formAt_27 zf_M_81 (zs_58 _) rfl ?_
      refine PW_aload_n zd_M_formAt_30 rfl ?_
      refine PW_iload_n zd_M_formAt_31 rfl ?_
      refine PW_callV1i zd_M_formAt_32 zl_M_414 zk_M_from zv_M_from (fr' := 0) (by decide) (zs_58 _) rfl rfl (Nat.le_of_ble_eq_true rfl) ?_
      refine ms_mono h ?_
      rintro v σ1 ⟨z, rfl, h⟩
      refine ⟨z, rfl, ?_⟩
      obtain ⟨h0, h⟩ := h
      refine PW_iaload zd_M_formAt_35 (zs_69 _) h0 ?_
      refine PW_istore_n zd_M_formAt_36 rfl (by decide) (ls2 := [_, _, _, _, _]) rfl ?_
      have h := h _ rfl
      refine PW_aload_n zd_M_formAt_37 rfl ?_
      refine PW_getR zd_M_formAt_38 zf_M_75 (zs_58 _) rfl ?_
      refine PW_aload_n zd_M_formAt_41 rfl ?_
      refine PW_iload_n zd_M_formAt_42 rfl ?_
      refine PW_callV1i zd_M_formAt_43 zl_M_414 zk_M_from zv_M_from (fr' := 0) (by decide) (zs_58 _) rfl rfl (Nat.le_of_ble_eq_true rfl) ?_
      refine ms_mono h ?_
      rintro v σ1 ⟨z, rfl, h⟩
      refine ⟨z, rfl, ?_⟩
      obtain ⟨h0, h⟩ := h
      refine PW_iaload zd_M_formAt_46 (zs_67 _) h0 ?_
      refine PW_istore zd_M_formAt_47 rfl (by decide) (ls2 := [_, _, _, _, _]) rfl ?_
      have h := h _ rfl
      refine PW_iload zd_M_formAt_49 rfl ?_
      refine PW_iconst zd_M_formAt_51 ?_
      obtain ⟨h0, hT, hF⟩ := h
      refine PW_icmp_eq zd_M_formAt_52 ⟨h0, by decide⟩ (fun q => ?_) (fun q => ?_)
      · have h := hT q
        exact PW_sub (by exact ⟨rfl, rfl, rfl, trivial⟩) (kb_M_formAt_61   h)
      · have h := hF q
        refine PW_iload zd_M_formAt_55 rfl ?_
        refine PW_iconst zd_M_formAt_57 ?_
        obtain ⟨h0, hT, hF⟩ := h
        refine PW_icmp_ne zd_M_formAt_58 ⟨h0, by decide⟩ (fun q => ?_) (fun q => ?_)
        · have h := hT q
          refine PW_iload zd_M_formAt_76 rfl ?_
          refine PW_bipush zd_M_formAt_78 rfl ?_
          obtain ⟨h0, hT, hF⟩ := h
          refine PW_icmp_ne zd_M_formAt_80 ⟨h0, by decide⟩ (fun q => ?_) (fun q => ?_)
          · have h := hT q
            refine PW_iload zd_M_formAt_95 rfl ?_
            refine PW_bipush zd_M_formAt_97 rfl ?_
            obtain ⟨h0, hT, hF⟩ := h
            refine PW_icmp_ne zd_M_formAt_99 ⟨h0, by decide⟩ (fun q => ?_) (fun q => ?_)
            · have h := hT q
              refine PW_iload_n zd_M_formAt_114 rfl ?_
              exact PW_iret zd_M_formAt_115 rfl h
            · have h := hF q
              refine PW_iload_n zd_M_formAt_102 rfl ?_
              refine PW_aload_n zd_M_formAt_103 rfl ?_
              refine PW_iload_n zd_M_formAt_104 rfl ?_
              refine PW_callV1i zd_M_formAt_105 zl_M_417 zk_M_numberAt zv_M_numberAt (fr' := 1) (by decide) (zs_58 _) rfl rfl (Nat.le_of_ble_eq_true rfl) ?_
              refine ms_mono h ?_
              rintro v σ1 ⟨z, rfl, h⟩
              refine ⟨z, rfl, ?_⟩
              obtain ⟨h0, h⟩ := h
              refine PW_ishr zd_M_formAt_108 h0 ?_
              refine PW_iconst zd_M_formAt_109 ?_
              refine PW_iandm1 zd_M_formAt_110 ?_
              refine PW_goto zd_M_formAt_111 ?_
              exact PW_iret zd_M_formAt_115 rfl h
          · have h := hF q
            refine PW_iload_n zd_M_formAt_83 rfl ?_
            refine PW_iload_n zd_M_formAt_84 rfl ?_
            refine PW_aload_n zd_M_formAt_85 rfl ?_
            refine PW_iload_n zd_M_formAt_86 rfl ?_
            refine PW_callV1i zd_M_formAt_87 zl_M_417 zk_M_numberAt zv_M_numberAt (fr' := 1) (by decide) (zs_58 _) rfl rfl (Nat.le_of_ble_eq_true rfl) ?_
            refine ms_mono h ?_
            rintro v σ1 ⟨z, rfl, h⟩
            refine ⟨z, rfl, ?_⟩
            obtain ⟨h0, h⟩ := h
            refine PW_ishr zd_M_formAt_90 h0 ?_
            refine PW_iconst zd_M_formAt_91 ?_
            refine PW_iandm1 zd_M_formAt_92 ?_
            obtain ⟨h0, h⟩ := h
            refine PW_ixor zd_M_formAt_93 h0 ?_
            exact PW_iret zd_M_formAt_94 rfl h
        · have h := hF q
          exact PW_sub (by exact ⟨rfl, rfl, rfl, trivial⟩) (kb_M_formAt_61   h)
    · have h := hF q
      refine PW_aload_n zd_M_formAt_21 rfl ?_
      refine PW_getI zd_M_formAt_22 zf_M_171 (zs_58 _) rfl ?_
      exact PW_iret zd_M_formAt_25 rfl h
  · have h := hF q
    refine PW_aload_n zd_M_formAt_8 rfl ?_
    refine PW_getI zd_M_formAt_9 zf_M_159 (zs_58 _) rfl ?_
    exact PW_iret zd_M_formAt_12 rfl h
def b_M_square_51 (G : zG) (column row what : Int) (X : zX) (x4 x5 : Int) (σ : zPH) : Prop :=
  (zI what) ∧
  (what ≠ 1 →
    (zI x5) ∧
    (x5 = 5 →
      X (some (iZ (-1))) σ) ∧
    (x5 ≠ 5 →
      (zI x5) ∧
      (x5 = 6 →
        X (some (iZ (-1))) σ) ∧
      (x5 ≠ 6 →
        (zI x5) ∧
        (x5 ≠ 7 →
          MS G zm_M_formAt 2 [zr G 58, iZ x4, iZ (σ 58 43)] σ (fun v σ117 =>
            ∃ z117 : Int, v = some (iZ z117) ∧
            X (some (iZ z117)) σ117)) ∧
        (x5 = 7 →
          X (some (iZ (-1))) σ)))) ∧
  (what = 1 →
    (zI x5) ∧
    (x5 = 4 →
      X (some (iZ (-1))) σ) ∧
    (x5 ≠ 4 →
      (zI x5) ∧
      (x5 = 5 →
        X (some (iZ (-1))) σ) ∧
      (x5 ≠ 5 →
        (zI x5) ∧
        (x5 ≠ 6 →
          MS G zm_M_numberAt 1 [zr G 58, iZ x4] σ (fun v σ82 =>
            ∃ z82 : Int, v = some (iZ z82) ∧
            X (some (iZ z82)) σ82)) ∧
        (x5 = 6 →
          X (some (iZ (-1))) σ))))
set_option maxHeartbeats 4000000 in
theorem kb_M_square_51 {G : zG} {column row what : Int} {X : zX} {x4 x5 : Int} {σ : zPH} (h : b_M_square_51 G column row what X  x4 x5 σ) : PW G zm_M_square 3 X 51 [some (zr G 58), none, none, some (iZ what), some (iZ x4), some (iZ x5)] [] σ := by
  unfold b_M_square_51 at h
  refine PW_iload_n zd_M_square_51 rfl ?_
  refine PW_iconst zd_M_square_52 ?_
  obtain ⟨h0, hT, hF⟩ := h
  refine PW_icmp_ne zd_M_square_53 ⟨h0, by decide⟩ (fun q => ?_) (fun q => ?_)
  · have h := hT q
    refine PW_iload zd_M_square_86 rfl ?_
    refine PW_iconst zd_M_square_88 ?_
    obtain ⟨h0, hT, hF⟩ := h
    refine PW_icmp_eq zd_M_square_89 ⟨h0, by decide⟩ (fun q => ?_) (fun q => ?_)
    · have h := hT q
      refine PW_iconst zd_M_square_106 ?_
      refine PW_goto zd_M_square_107 ?_
      exact PW_iret zd_M_square_120 rfl h
    · have h := hF q
      refine PW_iload zd_M_square_92 rfl ?_
      refine PW_bipush zd_M_square_94 rfl ?_
      obtain ⟨h0, hT, hF⟩ := h
      refine PW_icmp_eq zd_M_square_96 ⟨h0, by decide⟩ (fun q => ?_) (fun q => ?_)
      · have h := hT q
        refine PW_iconst zd_M_square_106 ?_
        refine PW_goto zd_M_square_107 ?_
        exact PW_iret zd_M_square_120 rfl h
      · have h := hF q
        refine PW_iload zd_M_square_99 rfl ?_
        refine PW_bipush zd_M_square_101 rfl ?_
        obtain ⟨h0, hT, hF⟩ := h
        refine PW_icmp_ne zd_M_square_103 ⟨h0, by decide⟩ (fun q => ?_) (fun q => ?_)
        · have h := hT q
          refine PW_aload_n zd_M_square_110 rfl ?_
          refine PW_iload zd_M_square_111 rfl ?_
          refine PW_aload_n zd_M_square_113 rfl ?_
          refine PW_getI zd_M_square_114 zf_M_144 (zs_58 _) rfl ?_
          refine PW_callV2i zd_M_square_117 zl_M_427 zk_M_formAt zv_M_formAt (fr' := 2) (by decide) (zs_58 _) rfl rfl (Nat.le_of_ble_eq_true rfl) ?_
          refine ms_mono h ?_
          rintro v σ1 ⟨z, rfl, h⟩
          refine ⟨z, rfl, ?_⟩
          exact PW_iret zd_M_square_120 rfl h
        · have h := hF q
          refine PW_iconst zd_M_square_106 ?_
          refine PW_goto zd_M_square_107 ?_
          exact PW_iret zd_M_square_120 rfl h
  · have h := hF q
    refine PW_iload zd_M_square_56 rfl ?_
    refine PW_iconst zd_M_square_58 ?_
    obtain ⟨h0, hT, hF⟩ := h
    refine PW_icmp_eq zd_M_square_59 ⟨h0, by decide⟩ (fun q => ?_) (fun q => ?_)
    · have h := hT q
      refine PW_iconst zd_M_square_75 ?_
      refine PW_goto zd_M_square_76 ?_
      exact PW_iret zd_M_square_85 rfl h
    · have h := hF q
      refine PW_iload zd_M_square_62 rfl ?_
      refine PW_iconst zd_M_square_64 ?_
      obtain ⟨h0, hT, hF⟩ := h
      refine PW_icmp_eq zd_M_square_65 ⟨h0, by decide⟩ (fun q => ?_) (fun q => ?_)
      · have h := hT q
        refine PW_iconst zd_M_square_75 ?_
        refine PW_goto zd_M_square_76 ?_
        exact PW_iret zd_M_square_85 rfl h
      · have h := hF q
        refine PW_iload zd_M_square_68 rfl ?_
        refine PW_bipush zd_M_square_70 rfl ?_
        obtain ⟨h0, hT, hF⟩ := h
        refine PW_icmp_ne zd_M_square_72 ⟨h0, by decide⟩ (fun q => ?_) (fun q => ?_)
        · have h := hT q
          refine PW_aload_n zd_M_square_79 rfl ?_
          refine PW_iload zd_M_square_80 rfl ?_
          refine PW_callV1i zd_M_square_82 zl_M_417 zk_M_numberAt zv_M_numberAt (fr' := 1) (by decide) (zs_58 _) rfl rfl (Nat.le_of_ble_eq_true rfl) ?_
          refine ms_mono h ?_
          rintro v σ1 ⟨z, rfl, h⟩
          refine ⟨z, rfl, ?_⟩
          exact PW_iret zd_M_square_85 rfl h
        · have h := hF q
          refine PW_iconst zd_M_square_75 ?_
          refine PW_goto zd_M_square_76 ?_
          exact PW_iret zd_M_square_85 rfl h
def w_M_square (G : zG) (column row what : Int) (X : zX) (σ : zPH) : Prop :=
  MS G zm_M_isSquare 1 [zr G 58, iZ column, iZ row] σ (fun v σ3 =>
    (v = some (iZ 0) ∧
      X (some (iZ (-1))) σ3) ∨
    (v = some (iZ 1) ∧
      ∀ x4 : Int, x4 = ((12 * row) + column) →
      MS G zm_M_sortAt 1 [zr G 58, iZ x4] σ3 (fun v σ22 =>
        ∃ z22 : Int, v = some (iZ z22) ∧
        (zI what) ∧
        (what ≠ 0 →
          (zI z22) ∧
          (z22 = 0 →
            X (some (iZ (-1))) σ22) ∧
          (z22 ≠ 0 →
            (zI what) ∧
            (what = 1 →
              b_M_square_51 G column row what X  x4 z22 σ22) ∧
            (what ≠ 1 →
              (zI what) ∧
              (what = 2 →
                b_M_square_51 G column row what X  x4 z22 σ22) ∧
              (what ≠ 2 →
                X (some (iZ (-1))) σ22)))) ∧
        (what = 0 →
          X (some (iZ z22)) σ22))))
set_option maxHeartbeats 4000000 in
theorem k_M_square {G : zG} {column row what : Int} {X : zX} {σ : zPH} (h : w_M_square G column row what X σ) : MS G zm_M_square 3 [zr G 58, iZ column, iZ row, iZ what] σ X := by
  refine ms_of zk_M_square (Nat.le_of_ble_eq_true rfl) (ls := [some (zr G 58), some (iZ column), some (iZ row), some (iZ what), none, none]) rfl ?_
  unfold w_M_square at h
  refine PW_aload_n zd_M_square_0 rfl ?_
  refine PW_iload_n zd_M_square_1 rfl ?_
  refine PW_iload_n zd_M_square_2 rfl ?_
  refine PW_callV2i zd_M_square_3 zl_M_420 zk_M_isSquare zv_M_isSquare (fr' := 1) (by decide) (zs_58 _) rfl rfl (Nat.le_of_ble_eq_true rfl) ?_
  refine ms_mono h ?_
  rintro v σ1 (⟨rfl, h⟩ | ⟨rfl, h⟩)
  · refine ⟨0, rfl, ?_⟩
    refine PW_if_ne zd_M_square_6 (by decide) (fun q => absurd rfl q) (fun _ => ?_)
    refine PW_iconst zd_M_square_9 ?_
    exact PW_iret zd_M_square_10 rfl h
  · refine ⟨1, rfl, ?_⟩
    refine PW_if_ne zd_M_square_6 (by decide) (fun _ => ?_) (fun q => absurd q (by decide))
    refine PW_bipush zd_M_square_11 rfl ?_
    refine PW_iload_n zd_M_square_13 rfl ?_
    refine PW_imul zd_M_square_14 ?_
    refine PW_iload_n zd_M_square_15 rfl ?_
    refine PW_iadd zd_M_square_16 ?_
    refine PW_istore zd_M_square_17 rfl (by decide) (ls2 := [_, _, _, _, _, _]) rfl ?_
    have h := h _ rfl
    refine PW_aload_n zd_M_square_19 rfl ?_
    refine PW_iload zd_M_square_20 rfl ?_
    refine PW_callV1i zd_M_square_22 zl_M_424 zk_M_sortAt zv_M_sortAt (fr' := 1) (by decide) (zs_58 _) rfl rfl (Nat.le_of_ble_eq_true rfl) ?_
    refine ms_mono h ?_
    rintro v σ1 ⟨z, rfl, h⟩
    refine ⟨z, rfl, ?_⟩
    refine PW_istore zd_M_square_25 rfl (by decide) (ls2 := [_, _, _, _, _, _]) rfl ?_
    refine PW_iload_n zd_M_square_27 rfl ?_
    obtain ⟨h0, hT, hF⟩ := h
    refine PW_if_ne zd_M_square_28 h0 (fun q => ?_) (fun q => ?_)
    · have h := hT q
      refine PW_iload zd_M_square_34 rfl ?_
      obtain ⟨h0, hT, hF⟩ := h
      refine PW_if_eq zd_M_square_36 h0 (fun q => ?_) (fun q => ?_)
      · have h := hT q
        refine PW_iconst zd_M_square_49 ?_
        exact PW_iret zd_M_square_50 rfl h
      · have h := hF q
        refine PW_iload_n zd_M_square_39 rfl ?_
        refine PW_iconst zd_M_square_40 ?_
        obtain ⟨h0, hT, hF⟩ := h
        refine PW_icmp_eq zd_M_square_41 ⟨h0, by decide⟩ (fun q => ?_) (fun q => ?_)
        · have h := hT q
          exact PW_sub (by exact ⟨rfl, rfl, rfl, rfl, trivial⟩) (kb_M_square_51   h)
        · have h := hF q
          refine PW_iload_n zd_M_square_44 rfl ?_
          refine PW_iconst zd_M_square_45 ?_
          obtain ⟨h0, hT, hF⟩ := h
          refine PW_icmp_eq zd_M_square_46 ⟨h0, by decide⟩ (fun q => ?_) (fun q => ?_)
          · have h := hT q
            exact PW_sub (by exact ⟨rfl, rfl, rfl, rfl, trivial⟩) (kb_M_square_51   h)
          · have h := hF q
            refine PW_iconst zd_M_square_49 ?_
            exact PW_iret zd_M_square_50 rfl h
    · have h := hF q
      refine PW_iload zd_M_square_31 rfl ?_
      exact PW_iret zd_M_square_33 rfl h
def b_M_sends_48 (G : zG) (q w light : Int) (X : zX) (x4 s0 s1 : Int) (σ : zPH) : Prop :=
  ∀ x5 : Int, x5 = (s1 + s0) →
  MS G zm_M_isSquare 1 [zr G 58, iZ x4, iZ x5] σ (fun v σ56 =>
    (v = some (iZ 0) ∧
      X none σ56) ∨
    (v = some (iZ 1) ∧
      ∀ x6 : Int, x6 = ((4 * ((12 * x5) + x4)) + w) →
      (0 ≤ x6 ∧ x6 < 576) ∧
      (0 ≤ (σ56 84 x6.toNat) ∧ 0 ≤ light) ∧
      (0 ≤ x6 ∧ x6 < 576) ∧
      (zI (zor (σ56 84 x6.toNat) light) ∧ zI (σ56 84 x6.toNat)) ∧
      ((zor (σ56 84 x6.toNat) light) ≠ (σ56 84 x6.toNat) →
        (0 ≤ x6 ∧ x6 < 576) ∧
        (0 ≤ (σ56 84 x6.toNat) ∧ 0 ≤ light) ∧
        (0 ≤ x6 ∧ x6 < 576) ∧
        ∀ σ107 : zPH, σ107 = zupd σ56 84 x6.toNat (zor (σ56 84 x6.toNat) light) →
        (0 ≤ (σ107 58 55) ∧ (σ107 58 55) < 2400) ∧
        ∀ σ118 : zPH, σ118 = zupd σ107 85 (σ107 58 55).toNat x6 →
        ∀ σ126 : zPH, σ126 = zupd σ118 58 55 ((σ118 58 55) + 1) →
        X none σ126) ∧
      ((zor (σ56 84 x6.toNat) light) = (σ56 84 x6.toNat) →
        X none σ56)))
set_option maxHeartbeats 4000000 in
theorem kb_M_sends_48 {G : zG} {q w light : Int} {X : zX} {x4 s0 s1 : Int} {σ : zPH} (h : b_M_sends_48 G q w light X  x4 s0 s1 σ) : PW G zm_M_sends 2 X 48 [some (zr G 58), none, some (iZ w), some (iZ light), some (iZ x4), none, none] [iZ s0, iZ s1] σ := by
  unfold b_M_sends_48 at h
  refine PW_iadd zd_M_sends_48 ?_
  refine PW_istore zd_M_sends_49 rfl (by decide) (ls2 := [_, _, _, _, _, _, _]) rfl ?_
  have h := h _ rfl
  refine PW_aload_n zd_M_sends_51 rfl ?_
  refine PW_iload zd_M_sends_52 rfl ?_
  refine PW_iload zd_M_sends_54 rfl ?_
  refine PW_callV2i zd_M_sends_56 zl_M_420 zk_M_isSquare zv_M_isSquare (fr' := 1) (by decide) (zs_58 _) rfl rfl (Nat.le_of_ble_eq_true rfl) ?_
  refine ms_mono h ?_
  rintro v σ1 (⟨rfl, h⟩ | ⟨rfl, h⟩)
  · refine ⟨0, rfl, ?_⟩
    refine PW_if_ne zd_M_sends_59 (by decide) (fun q => absurd rfl q) (fun _ => ?_)
    exact PW_vret zd_M_sends_62 rfl h
  · refine ⟨1, rfl, ?_⟩
    refine PW_if_ne zd_M_sends_59 (by decide) (fun _ => ?_) (fun q => absurd q (by decide))
    refine PW_iconst zd_M_sends_63 ?_
    refine PW_bipush zd_M_sends_64 rfl ?_
    refine PW_iload zd_M_sends_66 rfl ?_
    refine PW_imul zd_M_sends_68 ?_
    refine PW_iload zd_M_sends_69 rfl ?_
    refine PW_iadd zd_M_sends_71 ?_
    refine PW_imul zd_M_sends_72 ?_
    refine PW_iload_n zd_M_sends_73 rfl ?_
    refine PW_iadd zd_M_sends_74 ?_
    refine PW_istore zd_M_sends_75 rfl (by decide) (ls2 := [_, _, _, _, _, _, _]) rfl ?_
    have h := h _ rfl
    refine PW_aload_n zd_M_sends_77 rfl ?_
    refine PW_getR zd_M_sends_78 zf_M_174 (zs_58 _) rfl ?_
    refine PW_iload zd_M_sends_81 rfl ?_
    obtain ⟨h0, h⟩ := h
    refine PW_iaload zd_M_sends_83 (zs_84 _) h0 ?_
    refine PW_iload_n zd_M_sends_84 rfl ?_
    obtain ⟨h0, h⟩ := h
    refine PW_ior zd_M_sends_85 h0 ?_
    refine PW_aload_n zd_M_sends_86 rfl ?_
    refine PW_getR zd_M_sends_87 zf_M_174 (zs_58 _) rfl ?_
    refine PW_iload zd_M_sends_90 rfl ?_
    obtain ⟨h0, h⟩ := h
    refine PW_iaload zd_M_sends_92 (zs_84 _) h0 ?_
    obtain ⟨h0, hT, hF⟩ := h
    refine PW_icmp_ne zd_M_sends_93 h0 (fun q => ?_) (fun q => ?_)
    · have h := hT q
      refine PW_aload_n zd_M_sends_97 rfl ?_
      refine PW_getR zd_M_sends_98 zf_M_174 (zs_58 _) rfl ?_
      refine PW_iload zd_M_sends_101 rfl ?_
      refine PW_dup2 zd_M_sends_103 rfl rfl ?_
      obtain ⟨h0, h⟩ := h
      refine PW_iaload zd_M_sends_104 (zs_84 _) h0 ?_
      refine PW_iload_n zd_M_sends_105 rfl ?_
      obtain ⟨h0, h⟩ := h
      refine PW_ior zd_M_sends_106 h0 ?_
      obtain ⟨h0, h⟩ := h
      refine PW_iastore zd_M_sends_107 (zs_84 _) h0 ?_
      have h := h _ rfl
      refine PW_aload_n zd_M_sends_108 rfl ?_
      refine PW_getR zd_M_sends_109 zf_M_177 (zs_58 _) rfl ?_
      refine PW_aload_n zd_M_sends_112 rfl ?_
      refine PW_getI zd_M_sends_113 zf_M_180 (zs_58 _) rfl ?_
      refine PW_iload zd_M_sends_116 rfl ?_
      obtain ⟨h0, h⟩ := h
      refine PW_iastore zd_M_sends_118 (zs_85 _) h0 ?_
      have h := h _ rfl
      refine PW_aload_n zd_M_sends_119 rfl ?_
      refine PW_dup zd_M_sends_120 rfl ?_
      refine PW_getI zd_M_sends_121 zf_M_180 (zs_58 _) rfl ?_
      refine PW_iconst zd_M_sends_124 ?_
      refine PW_iadd zd_M_sends_125 ?_
      refine PW_putI zd_M_sends_126 zp_M_180 (zs_58 _) rfl ?_
      have h := h _ rfl
      exact PW_vret zd_M_sends_129 rfl h
    · have h := hF q
      exact PW_vret zd_M_sends_96 rfl h
def b_M_sends_23 (G : zG) (q w light : Int) (X : zX) (s0 s1 : Int) (σ : zPH) : Prop :=
  ∀ x4 : Int, x4 = (s1 + s0) →
  (0 ≤ q ∧ q < 2147483648) ∧
  (zI w) ∧
  (w ≠ 2 →
    (zI w) ∧
    (w ≠ 0 →
      b_M_sends_48 G q w light X  x4 0 (q / 12) σ) ∧
    (w = 0 →
      b_M_sends_48 G q w light X  x4 (-1) (q / 12) σ)) ∧
  (w = 2 →
    b_M_sends_48 G q w light X  x4 1 (q / 12) σ)
set_option maxHeartbeats 4000000 in
theorem kb_M_sends_23 {G : zG} {q w light : Int} {X : zX} {s0 s1 : Int} {σ : zPH} (h : b_M_sends_23 G q w light X  s0 s1 σ) : PW G zm_M_sends 2 X 23 [some (zr G 58), some (iZ q), some (iZ w), some (iZ light), none, none, none] [iZ s0, iZ s1] σ := by
  unfold b_M_sends_23 at h
  refine PW_iadd zd_M_sends_23 ?_
  refine PW_istore zd_M_sends_24 rfl (by decide) (ls2 := [_, _, _, _, _, _, _]) rfl ?_
  have h := h _ rfl
  refine PW_iload_n zd_M_sends_26 rfl ?_
  refine PW_bipush zd_M_sends_27 rfl ?_
  obtain ⟨h0, h⟩ := h
  refine PW_idiv zd_M_sends_29 ⟨h0, by decide⟩ ?_
  refine PW_iload_n zd_M_sends_30 rfl ?_
  refine PW_iconst zd_M_sends_31 ?_
  obtain ⟨h0, hT, hF⟩ := h
  refine PW_icmp_ne zd_M_sends_32 ⟨h0, by decide⟩ (fun q => ?_) (fun q => ?_)
  · have h := hT q
    refine PW_iload_n zd_M_sends_39 rfl ?_
    obtain ⟨h0, hT, hF⟩ := h
    refine PW_if_ne zd_M_sends_40 h0 (fun q => ?_) (fun q => ?_)
    · have h := hT q
      refine PW_iconst zd_M_sends_47 ?_
      exact PW_sub (by exact ⟨rfl, rfl, rfl, rfl, trivial⟩) (kb_M_sends_48   h)
    · have h := hF q
      refine PW_iconst zd_M_sends_43 ?_
      refine PW_goto zd_M_sends_44 ?_
      exact PW_sub (by exact ⟨rfl, rfl, rfl, rfl, trivial⟩) (kb_M_sends_48   h)
  · have h := hF q
    refine PW_iconst zd_M_sends_35 ?_
    refine PW_goto zd_M_sends_36 ?_
    exact PW_sub (by exact ⟨rfl, rfl, rfl, rfl, trivial⟩) (kb_M_sends_48   h)
def w_M_sends (G : zG) (q w light : Int) (X : zX) (σ : zPH) : Prop :=
  (0 ≤ q ∧ q < 2147483648) ∧
  (zI w) ∧
  (w ≠ 1 →
    (zI w) ∧
    (w ≠ 3 →
      b_M_sends_23 G q w light X  0 (q % 12) σ) ∧
    (w = 3 →
      b_M_sends_23 G q w light X  (-1) (q % 12) σ)) ∧
  (w = 1 →
    b_M_sends_23 G q w light X  1 (q % 12) σ)
set_option maxHeartbeats 4000000 in
theorem k_M_sends {G : zG} {q w light : Int} {X : zX} {σ : zPH} (h : w_M_sends G q w light X σ) : MS G zm_M_sends 2 [zr G 58, iZ q, iZ w, iZ light] σ X := by
  refine ms_of zk_M_sends (Nat.le_of_ble_eq_true rfl) (ls := [some (zr G 58), some (iZ q), some (iZ w), some (iZ light), none, none, none]) rfl ?_
  unfold w_M_sends at h
  refine PW_iload_n zd_M_sends_0 rfl ?_
  refine PW_bipush zd_M_sends_1 rfl ?_
  obtain ⟨h0, h⟩ := h
  refine PW_irem zd_M_sends_3 ⟨h0, by decide⟩ ?_
  refine PW_iload_n zd_M_sends_4 rfl ?_
  refine PW_iconst zd_M_sends_5 ?_
  obtain ⟨h0, hT, hF⟩ := h
  refine PW_icmp_ne zd_M_sends_6 ⟨h0, by decide⟩ (fun q => ?_) (fun q => ?_)
  · have h := hT q
    refine PW_iload_n zd_M_sends_13 rfl ?_
    refine PW_iconst zd_M_sends_14 ?_
    obtain ⟨h0, hT, hF⟩ := h
    refine PW_icmp_ne zd_M_sends_15 ⟨h0, by decide⟩ (fun q => ?_) (fun q => ?_)
    · have h := hT q
      refine PW_iconst zd_M_sends_22 ?_
      exact PW_sub (by exact ⟨rfl, rfl, rfl, rfl, trivial⟩) (kb_M_sends_23   h)
    · have h := hF q
      refine PW_iconst zd_M_sends_18 ?_
      refine PW_goto zd_M_sends_19 ?_
      exact PW_sub (by exact ⟨rfl, rfl, rfl, rfl, trivial⟩) (kb_M_sends_23   h)
  · have h := hF q
    refine PW_iconst zd_M_sends_9 ?_
    refine PW_goto zd_M_sends_10 ?_
    exact PW_sub (by exact ⟨rfl, rfl, rfl, rfl, trivial⟩) (kb_M_sends_23   h)
def w_M_mirrored (G : zG) (w f : Int) (X : zX) (σ : zPH) : Prop :=
  (zI f) ∧
  (f ≠ 0 →
    X (some (iZ (3 - w))) σ) ∧
  (f = 0 →
    (0 ≤ w) ∧
    X (some (iZ (zxor w 1))) σ)
set_option maxHeartbeats 4000000 in
theorem k_M_mirrored {G : zG} {w f : Int} {X : zX} {σ : zPH} (h : w_M_mirrored G w f X σ) : MS G zm_M_mirrored 0 [iZ w, iZ f] σ X := by
  refine ms_of zk_M_mirrored (Nat.le_of_ble_eq_true rfl) (ls := [some (iZ w), some (iZ f)]) rfl ?_
  unfold w_M_mirrored at h
  refine PW_iload_n zd_M_mirrored_0 rfl ?_
  obtain ⟨h0, hT, hF⟩ := h
  refine PW_if_ne zd_M_mirrored_1 h0 (fun q => ?_) (fun q => ?_)
  · have h := hT q
    refine PW_iconst zd_M_mirrored_10 ?_
    refine PW_iload_n zd_M_mirrored_11 rfl ?_
    refine PW_isub zd_M_mirrored_12 ?_
    exact PW_iret zd_M_mirrored_13 rfl h
  · have h := hF q
    refine PW_iload_n zd_M_mirrored_4 rfl ?_
    refine PW_iconst zd_M_mirrored_5 ?_
    obtain ⟨h0, h⟩ := h
    refine PW_ixor zd_M_mirrored_6 ⟨h0, by decide⟩ ?_
    refine PW_goto zd_M_mirrored_7 ?_
    exact PW_iret zd_M_mirrored_13 rfl h
def w_M_goes (G : zG) (q w light st : Int) (X : zX) (σ : zPH) : Prop :=
  MS G zm_M_sortAt 1 [zr G 58, iZ q] σ (fun v σ2 =>
    ∃ z2 : Int, v = some (iZ z2) ∧
    zI z2 ∧
    (z2 = 0 →
      MS G zm_M_sends 2 [zr G 58, iZ q, iZ w, iZ light] σ2 (fun v σ64 =>
        v = none ∧
        X none σ64)) ∧
    (z2 = 2 ∨ z2 = 9 →
      MS G zm_M_formAt 2 [zr G 58, iZ q, iZ st] σ2 (fun v σ100 =>
        ∃ z100 : Int, v = some (iZ z100) ∧
        MS G zm_M_mirrored 0 [iZ w, iZ z100] σ100 (fun v σ103 =>
          ∃ z103 : Int, v = some (iZ z103) ∧
          MS G zm_M_sends 2 [zr G 58, iZ q, iZ z103, iZ light] σ103 (fun v σ107 =>
            v = none ∧
            X none σ107)))) ∧
    (z2 = 3 →
      MS G zm_M_sends 2 [zr G 58, iZ q, iZ w, iZ light] σ2 (fun v σ72 =>
        v = none ∧
        MS G zm_M_formAt 2 [zr G 58, iZ q, iZ st] σ72 (fun v σ82 =>
          ∃ z82 : Int, v = some (iZ z82) ∧
          MS G zm_M_mirrored 0 [iZ w, iZ z82] σ82 (fun v σ85 =>
            ∃ z85 : Int, v = some (iZ z85) ∧
            MS G zm_M_sends 2 [zr G 58, iZ q, iZ z85, iZ light] σ85 (fun v σ89 =>
              v = none ∧
              X none σ89))))) ∧
    (z2 = 4 →
      MS G zm_M_formAt 2 [zr G 58, iZ q, iZ st] σ2 (fun v σ119 =>
        ∃ z119 : Int, v = some (iZ z119) ∧
        (0 ≤ light ∧ 0 ≤ z119) ∧
        MS G zm_M_sends 2 [zr G 58, iZ q, iZ w, iZ (zand light z119)] σ119 (fun v σ123 =>
          v = none ∧
          X none σ123))) ∧
    (z2 = 5 →
      MS G zm_M_sends 2 [zr G 58, iZ q, iZ w, iZ (light % 2)] σ2 (fun v σ133 =>
        v = none ∧
        (0 ≤ (w + 1) ∧ (w + 1) < 2147483648) ∧
        (0 ≤ light) ∧
        MS G zm_M_sends 2 [zr G 58, iZ q, iZ ((w + 1) % 4), iZ (zand light 2)] σ133 (fun v σ146 =>
          v = none ∧
          (0 ≤ (w + 3) ∧ (w + 3) < 2147483648) ∧
          (0 ≤ light) ∧
          MS G zm_M_sends 2 [zr G 58, iZ q, iZ ((w + 3) % 4), iZ (zand light 4)] σ146 (fun v σ159 =>
            v = none ∧
            X none σ159)))) ∧
    (z2 = 8 →
      MS G zm_M_formAt 2 [zr G 58, iZ q, iZ st] σ2 (fun v σ167 =>
        ∃ z167 : Int, v = some (iZ z167) ∧
        (zI z167) ∧
        (z167 ≠ 1 →
          X none σ167) ∧
        (z167 = 1 →
          MS G zm_M_sends 2 [zr G 58, iZ q, iZ w, iZ light] σ167 (fun v σ178 =>
            v = none ∧
            X none σ178)))) ∧
    ((z2 < 0 ∨ 9 < z2 ∨ z2 = 1 ∨ z2 = 6 ∨ z2 = 7) →
      X none σ2))
set_option maxHeartbeats 4000000 in
theorem k_M_goes {G : zG} {q w light st : Int} {X : zX} {σ : zPH} (h : w_M_goes G q w light st X σ) : MS G zm_M_goes 3 [zr G 58, iZ q, iZ w, iZ light, iZ st] σ X := by
  refine ms_of zk_M_goes (Nat.le_of_ble_eq_true rfl) (ls := [some (zr G 58), some (iZ q), some (iZ w), some (iZ light), some (iZ st)]) rfl ?_
  unfold w_M_goes at h
  refine PW_aload_n zd_M_goes_0 rfl ?_
  refine PW_iload_n zd_M_goes_1 rfl ?_
  refine PW_callV1i zd_M_goes_2 zl_M_424 zk_M_sortAt zv_M_sortAt (fr' := 1) (by decide) (zs_58 _) rfl rfl (Nat.le_of_ble_eq_true rfl) ?_
  refine ms_mono h ?_
  rintro v σ1 ⟨z, rfl, h⟩
  refine ⟨z, rfl, ?_⟩
  obtain ⟨h0, h⟩ := h
  obtain ⟨hc0, hc1, hc2, hc3, hc4, hc5, hcd⟩ := h
  refine PW_tsplit 0 9 (fun c hx hlo hhi => ?_) (fun hx => ?_)
  · rcases (show c = 0 ∨ c = 1 ∨ c = 2 ∨ c = 3 ∨ c = 4 ∨ c = 5 ∨ c = 6 ∨ c = 7 ∨ c = 8 ∨ c = 9 by omega) with rfl | rfl | rfl | rfl | rfl | rfl | rfl | rfl | rfl | rfl
    · refine PW_tsin (tgt := 60) zd_M_goes_5 0 hx (by decide) rfl (by decide) ?_
      have h := hc0 (by omega)
      refine PW_aload_n zd_M_goes_60 rfl ?_
      refine PW_iload_n zd_M_goes_61 rfl ?_
      refine PW_iload_n zd_M_goes_62 rfl ?_
      refine PW_iload_n zd_M_goes_63 rfl ?_
      refine PW_callV3v zd_M_goes_64 zl_M_430 zk_M_sends zv_M_sends (fr' := 2) (by decide) (zs_58 _) rfl rfl (Nat.le_of_ble_eq_true rfl) ?_
      refine ms_mono h ?_
      rintro v σ1 ⟨rfl, h⟩
      refine ⟨rfl, ?_⟩
      exact PW_vret zd_M_goes_67 rfl h
    · refine PW_tsin (tgt := 182) zd_M_goes_5 1 hx (by decide) rfl (by decide) ?_
      have h := hcd (by omega)
      exact PW_vret zd_M_goes_182 rfl h
    · refine PW_tsin (tgt := 93) zd_M_goes_5 2 hx (by decide) rfl (by decide) ?_
      have h := hc1 (by omega)
      refine PW_aload_n zd_M_goes_93 rfl ?_
      refine PW_iload_n zd_M_goes_94 rfl ?_
      refine PW_iload_n zd_M_goes_95 rfl ?_
      refine PW_aload_n zd_M_goes_96 rfl ?_
      refine PW_iload_n zd_M_goes_97 rfl ?_
      refine PW_iload zd_M_goes_98 rfl ?_
      refine PW_callV2i zd_M_goes_100 zl_M_427 zk_M_formAt zv_M_formAt (fr' := 2) (by decide) (zs_58 _) rfl rfl (Nat.le_of_ble_eq_true rfl) ?_
      refine ms_mono h ?_
      rintro v σ1 ⟨z, rfl, h⟩
      refine ⟨z, rfl, ?_⟩
      refine PW_callS2i zd_M_goes_103 zl_M_434 zk_M_mirrored zv_M_mirrored (fr' := 0) (by decide) (Nat.le_of_ble_eq_true rfl) ?_
      refine ms_mono h ?_
      rintro v σ1 ⟨z, rfl, h⟩
      refine ⟨z, rfl, ?_⟩
      refine PW_iload_n zd_M_goes_106 rfl ?_
      refine PW_callV3v zd_M_goes_107 zl_M_430 zk_M_sends zv_M_sends (fr' := 2) (by decide) (zs_58 _) rfl rfl (Nat.le_of_ble_eq_true rfl) ?_
      refine ms_mono h ?_
      rintro v σ1 ⟨rfl, h⟩
      refine ⟨rfl, ?_⟩
      exact PW_vret zd_M_goes_110 rfl h
    · refine PW_tsin (tgt := 68) zd_M_goes_5 3 hx (by decide) rfl (by decide) ?_
      have h := hc2 (by omega)
      refine PW_aload_n zd_M_goes_68 rfl ?_
      refine PW_iload_n zd_M_goes_69 rfl ?_
      refine PW_iload_n zd_M_goes_70 rfl ?_
      refine PW_iload_n zd_M_goes_71 rfl ?_
      refine PW_callV3v zd_M_goes_72 zl_M_430 zk_M_sends zv_M_sends (fr' := 2) (by decide) (zs_58 _) rfl rfl (Nat.le_of_ble_eq_true rfl) ?_
      refine ms_mono h ?_
      rintro v σ1 ⟨rfl, h⟩
      refine ⟨rfl, ?_⟩
      refine PW_aload_n zd_M_goes_75 rfl ?_
      refine PW_iload_n zd_M_goes_76 rfl ?_
      refine PW_iload_n zd_M_goes_77 rfl ?_
      refine PW_aload_n zd_M_goes_78 rfl ?_
      refine PW_iload_n zd_M_goes_79 rfl ?_
      refine PW_iload zd_M_goes_80 rfl ?_
      refine PW_callV2i zd_M_goes_82 zl_M_427 zk_M_formAt zv_M_formAt (fr' := 2) (by decide) (zs_58 _) rfl rfl (Nat.le_of_ble_eq_true rfl) ?_
      refine ms_mono h ?_
      rintro v σ1 ⟨z, rfl, h⟩
      refine ⟨z, rfl, ?_⟩
      refine PW_callS2i zd_M_goes_85 zl_M_434 zk_M_mirrored zv_M_mirrored (fr' := 0) (by decide) (Nat.le_of_ble_eq_true rfl) ?_
      refine ms_mono h ?_
      rintro v σ1 ⟨z, rfl, h⟩
      refine ⟨z, rfl, ?_⟩
      refine PW_iload_n zd_M_goes_88 rfl ?_
      refine PW_callV3v zd_M_goes_89 zl_M_430 zk_M_sends zv_M_sends (fr' := 2) (by decide) (zs_58 _) rfl rfl (Nat.le_of_ble_eq_true rfl) ?_
      refine ms_mono h ?_
      rintro v σ1 ⟨rfl, h⟩
      refine ⟨rfl, ?_⟩
      exact PW_vret zd_M_goes_92 rfl h
    · refine PW_tsin (tgt := 111) zd_M_goes_5 4 hx (by decide) rfl (by decide) ?_
      have h := hc3 (by omega)
      refine PW_aload_n zd_M_goes_111 rfl ?_
      refine PW_iload_n zd_M_goes_112 rfl ?_
      refine PW_iload_n zd_M_goes_113 rfl ?_
      refine PW_iload_n zd_M_goes_114 rfl ?_
      refine PW_aload_n zd_M_goes_115 rfl ?_
      refine PW_iload_n zd_M_goes_116 rfl ?_
      refine PW_iload zd_M_goes_117 rfl ?_
      refine PW_callV2i zd_M_goes_119 zl_M_427 zk_M_formAt zv_M_formAt (fr' := 2) (by decide) (zs_58 _) rfl rfl (Nat.le_of_ble_eq_true rfl) ?_
      refine ms_mono h ?_
      rintro v σ1 ⟨z, rfl, h⟩
      refine ⟨z, rfl, ?_⟩
      obtain ⟨h0, h⟩ := h
      refine PW_iand zd_M_goes_122 h0 ?_
      refine PW_callV3v zd_M_goes_123 zl_M_430 zk_M_sends zv_M_sends (fr' := 2) (by decide) (zs_58 _) rfl rfl (Nat.le_of_ble_eq_true rfl) ?_
      refine ms_mono h ?_
      rintro v σ1 ⟨rfl, h⟩
      refine ⟨rfl, ?_⟩
      exact PW_vret zd_M_goes_126 rfl h
    · refine PW_tsin (tgt := 127) zd_M_goes_5 5 hx (by decide) rfl (by decide) ?_
      have h := hc4 (by omega)
      refine PW_aload_n zd_M_goes_127 rfl ?_
      refine PW_iload_n zd_M_goes_128 rfl ?_
      refine PW_iload_n zd_M_goes_129 rfl ?_
      refine PW_iload_n zd_M_goes_130 rfl ?_
      refine PW_iconst zd_M_goes_131 ?_
      refine PW_iandm1 zd_M_goes_132 ?_
      refine PW_callV3v zd_M_goes_133 zl_M_430 zk_M_sends zv_M_sends (fr' := 2) (by decide) (zs_58 _) rfl rfl (Nat.le_of_ble_eq_true rfl) ?_
      refine ms_mono h ?_
      rintro v σ1 ⟨rfl, h⟩
      refine ⟨rfl, ?_⟩
      refine PW_aload_n zd_M_goes_136 rfl ?_
      refine PW_iload_n zd_M_goes_137 rfl ?_
      refine PW_iload_n zd_M_goes_138 rfl ?_
      refine PW_iconst zd_M_goes_139 ?_
      refine PW_iadd zd_M_goes_140 ?_
      refine PW_iconst zd_M_goes_141 ?_
      obtain ⟨h0, h⟩ := h
      refine PW_irem zd_M_goes_142 ⟨h0, by decide⟩ ?_
      refine PW_iload_n zd_M_goes_143 rfl ?_
      refine PW_iconst zd_M_goes_144 ?_
      obtain ⟨h0, h⟩ := h
      refine PW_iand zd_M_goes_145 ⟨h0, by decide⟩ ?_
      refine PW_callV3v zd_M_goes_146 zl_M_430 zk_M_sends zv_M_sends (fr' := 2) (by decide) (zs_58 _) rfl rfl (Nat.le_of_ble_eq_true rfl) ?_
      refine ms_mono h ?_
      rintro v σ1 ⟨rfl, h⟩
      refine ⟨rfl, ?_⟩
      refine PW_aload_n zd_M_goes_149 rfl ?_
      refine PW_iload_n zd_M_goes_150 rfl ?_
      refine PW_iload_n zd_M_goes_151 rfl ?_
      refine PW_iconst zd_M_goes_152 ?_
      refine PW_iadd zd_M_goes_153 ?_
      refine PW_iconst zd_M_goes_154 ?_
      obtain ⟨h0, h⟩ := h
      refine PW_irem zd_M_goes_155 ⟨h0, by decide⟩ ?_
      refine PW_iload_n zd_M_goes_156 rfl ?_
      refine PW_iconst zd_M_goes_157 ?_
      obtain ⟨h0, h⟩ := h
      refine PW_iand zd_M_goes_158 ⟨h0, by decide⟩ ?_
      refine PW_callV3v zd_M_goes_159 zl_M_430 zk_M_sends zv_M_sends (fr' := 2) (by decide) (zs_58 _) rfl rfl (Nat.le_of_ble_eq_true rfl) ?_
      refine ms_mono h ?_
      rintro v σ1 ⟨rfl, h⟩
      refine ⟨rfl, ?_⟩
      exact PW_vret zd_M_goes_162 rfl h
    · refine PW_tsin (tgt := 182) zd_M_goes_5 6 hx (by decide) rfl (by decide) ?_
      have h := hcd (by omega)
      exact PW_vret zd_M_goes_182 rfl h
    · refine PW_tsin (tgt := 182) zd_M_goes_5 7 hx (by decide) rfl (by decide) ?_
      have h := hcd (by omega)
      exact PW_vret zd_M_goes_182 rfl h
    · refine PW_tsin (tgt := 163) zd_M_goes_5 8 hx (by decide) rfl (by decide) ?_
      have h := hc5 (by omega)
      refine PW_aload_n zd_M_goes_163 rfl ?_
      refine PW_iload_n zd_M_goes_164 rfl ?_
      refine PW_iload zd_M_goes_165 rfl ?_
      refine PW_callV2i zd_M_goes_167 zl_M_427 zk_M_formAt zv_M_formAt (fr' := 2) (by decide) (zs_58 _) rfl rfl (Nat.le_of_ble_eq_true rfl) ?_
      refine ms_mono h ?_
      rintro v σ1 ⟨z, rfl, h⟩
      refine ⟨z, rfl, ?_⟩
      refine PW_iconst zd_M_goes_170 ?_
      obtain ⟨h0, hT, hF⟩ := h
      refine PW_icmp_ne zd_M_goes_171 ⟨h0, by decide⟩ (fun q => ?_) (fun q => ?_)
      · have h := hT q
        exact PW_vret zd_M_goes_181 rfl h
      · have h := hF q
        refine PW_aload_n zd_M_goes_174 rfl ?_
        refine PW_iload_n zd_M_goes_175 rfl ?_
        refine PW_iload_n zd_M_goes_176 rfl ?_
        refine PW_iload_n zd_M_goes_177 rfl ?_
        refine PW_callV3v zd_M_goes_178 zl_M_430 zk_M_sends zv_M_sends (fr' := 2) (by decide) (zs_58 _) rfl rfl (Nat.le_of_ble_eq_true rfl) ?_
        refine ms_mono h ?_
        rintro v σ1 ⟨rfl, h⟩
        refine ⟨rfl, ?_⟩
        exact PW_vret zd_M_goes_181 rfl h
    · refine PW_tsin (tgt := 93) zd_M_goes_5 9 hx (by decide) rfl (by decide) ?_
      have h := hc1 (by omega)
      refine PW_aload_n zd_M_goes_93 rfl ?_
      refine PW_iload_n zd_M_goes_94 rfl ?_
      refine PW_iload_n zd_M_goes_95 rfl ?_
      refine PW_aload_n zd_M_goes_96 rfl ?_
      refine PW_iload_n zd_M_goes_97 rfl ?_
      refine PW_iload zd_M_goes_98 rfl ?_
      refine PW_callV2i zd_M_goes_100 zl_M_427 zk_M_formAt zv_M_formAt (fr' := 2) (by decide) (zs_58 _) rfl rfl (Nat.le_of_ble_eq_true rfl) ?_
      refine ms_mono h ?_
      rintro v σ1 ⟨z, rfl, h⟩
      refine ⟨z, rfl, ?_⟩
      refine PW_callS2i zd_M_goes_103 zl_M_434 zk_M_mirrored zv_M_mirrored (fr' := 0) (by decide) (Nat.le_of_ble_eq_true rfl) ?_
      refine ms_mono h ?_
      rintro v σ1 ⟨z, rfl, h⟩
      refine ⟨z, rfl, ?_⟩
      refine PW_iload_n zd_M_goes_106 rfl ?_
      refine PW_callV3v zd_M_goes_107 zl_M_430 zk_M_sends zv_M_sends (fr' := 2) (by decide) (zs_58 _) rfl rfl (Nat.le_of_ble_eq_true rfl) ?_
      refine ms_mono h ?_
      rintro v σ1 ⟨rfl, h⟩
      refine ⟨rfl, ?_⟩
      exact PW_vret zd_M_goes_110 rfl h
  · refine PW_tsout (tgt := 182) zd_M_goes_5 (by omega) (by decide) ?_
    have h := hcd (by omega)
    exact PW_vret zd_M_goes_182 rfl h
def b_M_shines_99 (G : zG) (st : Int) (X : zX) (K99 : zPH → Prop) (σ : zPH) : Prop :=
  (zI (σ 58 55)) ∧
  ((σ 58 55) ≤ 0 →
    X none σ) ∧
  (0 < (σ 58 55) →
    ∀ σ113 : zPH, σ113 = zupd σ 58 55 ((σ 58 55) - 1) →
    (0 ≤ (σ113 58 55) ∧ (σ113 58 55) < 2400) ∧
    ∀ x2 : Int, x2 = (σ113 85 (σ113 58 55).toNat) →
    (0 ≤ x2 ∧ x2 < 2147483648) ∧
    (0 ≤ x2 ∧ x2 < 2147483648) ∧
    (0 ≤ x2 ∧ x2 < 576) ∧
    MS G zm_M_goes 3 [zr G 58, iZ (x2 / 4), iZ (x2 % 4), iZ (σ113 84 x2.toNat), iZ st] σ113 (fun v σ140 =>
      v = none ∧
      K99 σ140))
set_option maxHeartbeats 4000000 in
theorem kb_M_shines_99 {G : zG} {st : Int} {X : zX} {K99 : zPH → Prop} (hK99 : ∀ (σ : zPH), K99 σ → PW G zm_M_shines 4 X 99 [some (zr G 58), some (iZ st), none] [] σ) {σ : zPH} (h : b_M_shines_99 G st X K99  σ) : PW G zm_M_shines 4 X 99 [some (zr G 58), some (iZ st), none] [] σ := by
  unfold b_M_shines_99 at h
  refine PW_aload_n zd_M_shines_99 rfl ?_
  refine PW_getI zd_M_shines_100 zf_M_180 (zs_58 _) rfl ?_
  obtain ⟨h0, hT, hF⟩ := h
  refine PW_if_le zd_M_shines_103 h0 (fun q => ?_) (fun q => ?_)
  · have h := hT q
    exact PW_vret zd_M_shines_146 rfl h
  · have h := hF q
    refine PW_aload_n zd_M_shines_106 rfl ?_
    refine PW_dup zd_M_shines_107 rfl ?_
    refine PW_getI zd_M_shines_108 zf_M_180 (zs_58 _) rfl ?_
    refine PW_iconst zd_M_shines_111 ?_
    refine PW_isub zd_M_shines_112 ?_
    refine PW_putI zd_M_shines_113 zp_M_180 (zs_58 _) rfl ?_
    have h := h _ rfl
    refine PW_aload_n zd_M_shines_116 rfl ?_
    refine PW_getR zd_M_shines_117 zf_M_177 (zs_58 _) rfl ?_
    refine PW_aload_n zd_M_shines_120 rfl ?_
    refine PW_getI zd_M_shines_121 zf_M_180 (zs_58 _) rfl ?_
    obtain ⟨h0, h⟩ := h
    refine PW_iaload zd_M_shines_124 (zs_85 _) h0 ?_
    refine PW_istore_n zd_M_shines_125 rfl (by decide) (ls2 := [_, _, _]) rfl ?_
    have h := h _ rfl
    refine PW_aload_n zd_M_shines_126 rfl ?_
    refine PW_iload_n zd_M_shines_127 rfl ?_
    refine PW_iconst zd_M_shines_128 ?_
    obtain ⟨h0, h⟩ := h
    refine PW_idiv zd_M_shines_129 ⟨h0, by decide⟩ ?_
    refine PW_iload_n zd_M_shines_130 rfl ?_
    refine PW_iconst zd_M_shines_131 ?_
    obtain ⟨h0, h⟩ := h
    refine PW_irem zd_M_shines_132 ⟨h0, by decide⟩ ?_
    refine PW_aload_n zd_M_shines_133 rfl ?_
    refine PW_getR zd_M_shines_134 zf_M_174 (zs_58 _) rfl ?_
    refine PW_iload_n zd_M_shines_137 rfl ?_
    obtain ⟨h0, h⟩ := h
    refine PW_iaload zd_M_shines_138 (zs_84 _) h0 ?_
    refine PW_iload_n zd_M_shines_139 rfl ?_
    refine PW_callV4v zd_M_shines_140 zl_M_437 zk_M_goes zv_M_goes (fr' := 3) (by decide) (zs_58 _) rfl rfl (Nat.le_of_ble_eq_true rfl) ?_
    refine ms_mono h ?_
    rintro v σ1 ⟨rfl, h⟩
    refine ⟨rfl, ?_⟩
    refine PW_goto zd_M_shines_143 ?_
    exact PW_sub (by exact ⟨rfl, rfl, trivial⟩) (hK99 _ h)
theorem kl_M_shines_99 {G : zG} {st : Int} {X : zX} {σ : zPH} (h : zLP0 (b_M_shines_99 G st X )  σ) : PW G zm_M_shines 4 X 99 [some (zr G 58), some (iZ st), none] [] σ := by
  obtain ⟨n, h⟩ := h
  induction n generalizing σ with
  | zero => exact h.elim
  | succ n ih => exact kb_M_shines_99   (fun _ h => ih h) h
def b_M_shines_93 (G : zG) (st : Int) (X : zX) (K29 : Int → zPH → Prop) (x2 : Int) (σ : zPH) : Prop :=
  K29 (x2 + 1) σ
set_option maxHeartbeats 4000000 in
theorem kb_M_shines_93 {G : zG} {st : Int} {X : zX} {K29 : Int → zPH → Prop} (hK29 : ∀ (y0 : Int) (σ : zPH), K29 y0 σ → PW G zm_M_shines 4 X 29 [some (zr G 58), some (iZ st), some (iZ y0)] [] σ) {x2 : Int} {σ : zPH} (h : b_M_shines_93 G st X K29 x2 σ) : PW G zm_M_shines 4 X 93 [some (zr G 58), some (iZ st), some (iZ x2)] [] σ := by
  unfold b_M_shines_93 at h
  refine PW_iinc zd_M_shines_93 rfl rfl (by decide) (ls2 := [_, _, _]) rfl ?_
  refine PW_goto zd_M_shines_96 ?_
  exact PW_sub (by exact ⟨rfl, rfl, rfl, trivial⟩) (hK29 _ _ h)
def b_M_shines_68 (G : zG) (st : Int) (X : zX) (K29 : Int → zPH → Prop) (x2 : Int) (σ : zPH) : Prop :=
  MS G zm_M_from 0 [zr G 58, iZ x2] σ (fun v σ76 =>
    ∃ z76 : Int, v = some (iZ z76) ∧
    (0 ≤ z76 ∧ z76 < 288) ∧
    MS G zm_M_from 0 [zr G 58, iZ x2] σ76 (fun v σ86 =>
      ∃ z86 : Int, v = some (iZ z86) ∧
      (0 ≤ z86 ∧ z86 < 288) ∧
      MS G zm_M_sends 2 [zr G 58, iZ x2, iZ (σ76 70 z76.toNat), iZ (σ86 69 z86.toNat)] σ86 (fun v σ90 =>
        v = none ∧
        b_M_shines_93 G st X K29 x2 σ90)))
set_option maxHeartbeats 4000000 in
theorem kb_M_shines_68 {G : zG} {st : Int} {X : zX} {K29 : Int → zPH → Prop} (hK29 : ∀ (y0 : Int) (σ : zPH), K29 y0 σ → PW G zm_M_shines 4 X 29 [some (zr G 58), some (iZ st), some (iZ y0)] [] σ) {x2 : Int} {σ : zPH} (h : b_M_shines_68 G st X K29 x2 σ) : PW G zm_M_shines 4 X 68 [some (zr G 58), some (iZ st), some (iZ x2)] [] σ := by
  unfold b_M_shines_68 at h
  refine PW_aload_n zd_M_shines_68 rfl ?_
  refine PW_iload_n zd_M_shines_69 rfl ?_
  refine PW_aload_n zd_M_shines_70 rfl ?_
  refine PW_getR zd_M_shines_71 zf_M_84 (zs_58 _) rfl ?_
  refine PW_aload_n zd_M_shines_74 rfl ?_
  refine PW_iload_n zd_M_shines_75 rfl ?_
  refine PW_callV1i zd_M_shines_76 zl_M_414 zk_M_from zv_M_from (fr' := 0) (by decide) (zs_58 _) rfl rfl (Nat.le_of_ble_eq_true rfl) ?_
  refine ms_mono h ?_
  rintro v σ1 ⟨z, rfl, h⟩
  refine ⟨z, rfl, ?_⟩
  obtain ⟨h0, h⟩ := h
  refine PW_iaload zd_M_shines_79 (zs_70 _) h0 ?_
  refine PW_aload_n zd_M_shines_80 rfl ?_
  refine PW_getR zd_M_shines_81 zf_M_81 (zs_58 _) rfl ?_
  refine PW_aload_n zd_M_shines_84 rfl ?_
  refine PW_iload_n zd_M_shines_85 rfl ?_
  refine PW_callV1i zd_M_shines_86 zl_M_414 zk_M_from zv_M_from (fr' := 0) (by decide) (zs_58 _) rfl rfl (Nat.le_of_ble_eq_true rfl) ?_
  refine ms_mono h ?_
  rintro v σ1 ⟨z, rfl, h⟩
  refine ⟨z, rfl, ?_⟩
  obtain ⟨h0, h⟩ := h
  refine PW_iaload zd_M_shines_89 (zs_69 _) h0 ?_
  refine PW_callV3v zd_M_shines_90 zl_M_430 zk_M_sends zv_M_sends (fr' := 2) (by decide) (zs_58 _) rfl rfl (Nat.le_of_ble_eq_true rfl) ?_
  refine ms_mono h ?_
  rintro v σ1 ⟨rfl, h⟩
  refine ⟨rfl, ?_⟩
  exact PW_sub (by exact ⟨rfl, rfl, rfl, trivial⟩) (kb_M_shines_93  hK29 h)
def b_M_shines_29 (G : zG) (st : Int) (X : zX) (K29 : Int → zPH → Prop) (x2 : Int) (σ : zPH) : Prop :=
  (zI x2) ∧
  (144 ≤ x2 →
    zLP0 (b_M_shines_99 G st X ) σ) ∧
  (x2 < 144 →
    MS G zm_M_sortAt 1 [zr G 58, iZ x2] σ (fun v σ38 =>
      ∃ z38 : Int, v = some (iZ z38) ∧
      (zI z38) ∧
      (z38 ≠ 1 →
        b_M_shines_93 G st X K29 x2 σ38) ∧
      (z38 = 1 →
        (zI (σ38 58 56)) ∧
        ((σ38 58 56) = (-1) →
          b_M_shines_68 G st X K29 x2 σ38) ∧
        ((σ38 58 56) ≠ (-1) →
          MS G zm_M_numberAt 1 [zr G 58, iZ x2] σ38 (fun v σ55 =>
            ∃ z55 : Int, v = some (iZ z55) ∧
            (zI z55 ∧ zI (σ55 58 56)) ∧
            (z55 = (σ55 58 56) →
              b_M_shines_68 G st X K29 x2 σ55) ∧
            (z55 ≠ (σ55 58 56) →
              b_M_shines_93 G st X K29 x2 σ55))))))
set_option maxHeartbeats 4000000 in
theorem kb_M_shines_29 {G : zG} {st : Int} {X : zX} {K29 : Int → zPH → Prop} (hK29 : ∀ (y0 : Int) (σ : zPH), K29 y0 σ → PW G zm_M_shines 4 X 29 [some (zr G 58), some (iZ st), some (iZ y0)] [] σ) {x2 : Int} {σ : zPH} (h : b_M_shines_29 G st X K29 x2 σ) : PW G zm_M_shines 4 X 29 [some (zr G 58), some (iZ st), some (iZ x2)] [] σ := by
  unfold b_M_shines_29 at h
  refine PW_iload_n zd_M_shines_29 rfl ?_
  refine PW_sipush zd_M_shines_30 rfl ?_
  obtain ⟨h0, hT, hF⟩ := h
  refine PW_icmp_ge zd_M_shines_33 ⟨h0, by decide⟩ (fun q => ?_) (fun q => ?_)
  · have h := hT q
    exact PW_sub (by exact ⟨rfl, rfl, trivial⟩) (kl_M_shines_99   h)
  · have h := hF q
    refine PW_aload_n zd_M_shines_36 rfl ?_
    refine PW_iload_n zd_M_shines_37 rfl ?_
    refine PW_callV1i zd_M_shines_38 zl_M_424 zk_M_sortAt zv_M_sortAt (fr' := 1) (by decide) (zs_58 _) rfl rfl (Nat.le_of_ble_eq_true rfl) ?_
    refine ms_mono h ?_
    rintro v σ1 ⟨z, rfl, h⟩
    refine ⟨z, rfl, ?_⟩
    refine PW_iconst zd_M_shines_41 ?_
    obtain ⟨h0, hT, hF⟩ := h
    refine PW_icmp_ne zd_M_shines_42 ⟨h0, by decide⟩ (fun q => ?_) (fun q => ?_)
    · have h := hT q
      exact PW_sub (by exact ⟨rfl, rfl, rfl, trivial⟩) (kb_M_shines_93  hK29 h)
    · have h := hF q
      refine PW_aload_n zd_M_shines_45 rfl ?_
      refine PW_getI zd_M_shines_46 zf_M_183 (zs_58 _) rfl ?_
      refine PW_iconst zd_M_shines_49 ?_
      obtain ⟨h0, hT, hF⟩ := h
      refine PW_icmp_eq zd_M_shines_50 ⟨h0, by decide⟩ (fun q => ?_) (fun q => ?_)
      · have h := hT q
        exact PW_sub (by exact ⟨rfl, rfl, rfl, trivial⟩) (kb_M_shines_68  hK29 h)
      · have h := hF q
        refine PW_aload_n zd_M_shines_53 rfl ?_
        refine PW_iload_n zd_M_shines_54 rfl ?_
        refine PW_callV1i zd_M_shines_55 zl_M_417 zk_M_numberAt zv_M_numberAt (fr' := 1) (by decide) (zs_58 _) rfl rfl (Nat.le_of_ble_eq_true rfl) ?_
        refine ms_mono h ?_
        rintro v σ1 ⟨z, rfl, h⟩
        refine ⟨z, rfl, ?_⟩
        refine PW_aload_n zd_M_shines_58 rfl ?_
        refine PW_getI zd_M_shines_59 zf_M_183 (zs_58 _) rfl ?_
        obtain ⟨h0, hT, hF⟩ := h
        refine PW_icmp_eq zd_M_shines_62 h0 (fun q => ?_) (fun q => ?_)
        · have h := hT q
          exact PW_sub (by exact ⟨rfl, rfl, rfl, trivial⟩) (kb_M_shines_68  hK29 h)
        · have h := hF q
          refine PW_goto zd_M_shines_65 ?_
          exact PW_sub (by exact ⟨rfl, rfl, rfl, trivial⟩) (kb_M_shines_93  hK29 h)
theorem kl_M_shines_29 {G : zG} {st : Int} {X : zX} {x2 : Int} {σ : zPH} (h : zLP1 (b_M_shines_29 G st X ) x2 σ) : PW G zm_M_shines 4 X 29 [some (zr G 58), some (iZ st), some (iZ x2)] [] σ := by
  obtain ⟨n, h⟩ := h
  induction n generalizing x2 σ with
  | zero => exact h.elim
  | succ n ih => exact kb_M_shines_29   (fun _ _ h => ih h) h
def b_M_shines_2 (G : zG) (st : Int) (X : zX) (K2 : Int → zPH → Prop) (x2 : Int) (σ : zPH) : Prop :=
  (zI x2) ∧
  (576 ≤ x2 →
    ∀ σ24 : zPH, σ24 = zupd σ 58 55 0 →
    zLP1 (b_M_shines_29 G st X ) 0 σ24) ∧
  (x2 < 576 →
    (0 ≤ x2 ∧ x2 < 576) ∧
    ∀ σ15 : zPH, σ15 = zupd σ 84 x2.toNat 0 →
    K2 (x2 + 1) σ15)
set_option maxHeartbeats 4000000 in
theorem kb_M_shines_2 {G : zG} {st : Int} {X : zX} {K2 : Int → zPH → Prop} (hK2 : ∀ (y0 : Int) (σ : zPH), K2 y0 σ → PW G zm_M_shines 4 X 2 [some (zr G 58), some (iZ st), some (iZ y0)] [] σ) {x2 : Int} {σ : zPH} (h : b_M_shines_2 G st X K2 x2 σ) : PW G zm_M_shines 4 X 2 [some (zr G 58), some (iZ st), some (iZ x2)] [] σ := by
  unfold b_M_shines_2 at h
  refine PW_iload_n zd_M_shines_2 rfl ?_
  refine PW_sipush zd_M_shines_3 rfl ?_
  obtain ⟨h0, hT, hF⟩ := h
  refine PW_icmp_ge zd_M_shines_6 ⟨h0, by decide⟩ (fun q => ?_) (fun q => ?_)
  · have h := hT q
    refine PW_aload_n zd_M_shines_22 rfl ?_
    refine PW_iconst zd_M_shines_23 ?_
    refine PW_putI zd_M_shines_24 zp_M_180 (zs_58 _) rfl ?_
    have h := h _ rfl
    refine PW_iconst zd_M_shines_27 ?_
    refine PW_istore_n zd_M_shines_28 rfl (by decide) (ls2 := [_, _, _]) rfl ?_
    exact PW_sub (by exact ⟨rfl, rfl, rfl, trivial⟩) (kl_M_shines_29   h)
  · have h := hF q
    refine PW_aload_n zd_M_shines_9 rfl ?_
    refine PW_getR zd_M_shines_10 zf_M_174 (zs_58 _) rfl ?_
    refine PW_iload_n zd_M_shines_13 rfl ?_
    refine PW_iconst zd_M_shines_14 ?_
    obtain ⟨h0, h⟩ := h
    refine PW_iastore zd_M_shines_15 (zs_84 _) h0 ?_
    have h := h _ rfl
    refine PW_iinc zd_M_shines_16 rfl rfl (by decide) (ls2 := [_, _, _]) rfl ?_
    refine PW_goto zd_M_shines_19 ?_
    exact PW_sub (by exact ⟨rfl, rfl, rfl, trivial⟩) (hK2 _ _ h)
theorem kl_M_shines_2 {G : zG} {st : Int} {X : zX} {x2 : Int} {σ : zPH} (h : zLP1 (b_M_shines_2 G st X ) x2 σ) : PW G zm_M_shines 4 X 2 [some (zr G 58), some (iZ st), some (iZ x2)] [] σ := by
  obtain ⟨n, h⟩ := h
  induction n generalizing x2 σ with
  | zero => exact h.elim
  | succ n ih => exact kb_M_shines_2   (fun _ _ h => ih h) h
def w_M_shines (G : zG) (st : Int) (X : zX) (σ : zPH) : Prop :=
  zLP1 (b_M_shines_2 G st X ) 0 σ
set_option maxHeartbeats 4000000 in
theorem k_M_shines {G : zG} {st : Int} {X : zX} {σ : zPH} (h : w_M_shines G st X σ) : MS G zm_M_shines 4 [zr G 58, iZ st] σ X := by
  refine ms_of zk_M_shines (Nat.le_of_ble_eq_true rfl) (ls := [some (zr G 58), some (iZ st), none]) rfl ?_
  unfold w_M_shines at h
  refine PW_iconst zd_M_shines_0 ?_
  refine PW_istore_n zd_M_shines_1 rfl (by decide) (ls2 := [_, _, _]) rfl ?_
  exact PW_sub (by exact ⟨rfl, rfl, rfl, trivial⟩) (kl_M_shines_2   h)
def w_M_into (G : zG) (q : Int) (X : zX) (σ : zPH) : Prop :=
  (0 ≤ (4 * q) ∧ (4 * q) < 576) ∧
  (0 ≤ ((4 * q) + 1) ∧ ((4 * q) + 1) < 576) ∧
  (0 ≤ (σ 84 (4 * q).toNat) ∧ 0 ≤ (σ 84 ((4 * q) + 1).toNat)) ∧
  (0 ≤ ((4 * q) + 2) ∧ ((4 * q) + 2) < 576) ∧
  (0 ≤ (zor (σ 84 (4 * q).toNat) (σ 84 ((4 * q) + 1).toNat)) ∧ 0 ≤ (σ 84 ((4 * q) + 2).toNat)) ∧
  (0 ≤ ((4 * q) + 3) ∧ ((4 * q) + 3) < 576) ∧
  (0 ≤ (zor (zor (σ 84 (4 * q).toNat) (σ 84 ((4 * q) + 1).toNat)) (σ 84 ((4 * q) + 2).toNat)) ∧ 0 ≤ (σ 84 ((4 * q) + 3).toNat)) ∧
  X (some (iZ (zor (zor (zor (σ 84 (4 * q).toNat) (σ 84 ((4 * q) + 1).toNat)) (σ 84 ((4 * q) + 2).toNat)) (σ 84 ((4 * q) + 3).toNat)))) σ
set_option maxHeartbeats 4000000 in
theorem k_M_into {G : zG} {q : Int} {X : zX} {σ : zPH} (h : w_M_into G q X σ) : MS G zm_M_into 0 [zr G 58, iZ q] σ X := by
  refine ms_of zk_M_into (Nat.le_of_ble_eq_true rfl) (ls := [some (zr G 58), some (iZ q)]) rfl ?_
  unfold w_M_into at h
  refine PW_aload_n zd_M_into_0 rfl ?_
  refine PW_getR zd_M_into_1 zf_M_174 (zs_58 _) rfl ?_
  refine PW_iconst zd_M_into_4 ?_
  refine PW_iload_n zd_M_into_5 rfl ?_
  refine PW_imul zd_M_into_6 ?_
  obtain ⟨h0, h⟩ := h
  refine PW_iaload zd_M_into_7 (zs_84 _) h0 ?_
  refine PW_aload_n zd_M_into_8 rfl ?_
  refine PW_getR zd_M_into_9 zf_M_174 (zs_58 _) rfl ?_
  refine PW_iconst zd_M_into_12 ?_
  refine PW_iload_n zd_M_into_13 rfl ?_
  refine PW_imul zd_M_into_14 ?_
  refine PW_iconst zd_M_into_15 ?_
  refine PW_iadd zd_M_into_16 ?_
  obtain ⟨h0, h⟩ := h
  refine PW_iaload zd_M_into_17 (zs_84 _) h0 ?_
  obtain ⟨h0, h⟩ := h
  refine PW_ior zd_M_into_18 h0 ?_
  refine PW_aload_n zd_M_into_19 rfl ?_
  refine PW_getR zd_M_into_20 zf_M_174 (zs_58 _) rfl ?_
  refine PW_iconst zd_M_into_23 ?_
  refine PW_iload_n zd_M_into_24 rfl ?_
  refine PW_imul zd_M_into_25 ?_
  refine PW_iconst zd_M_into_26 ?_
  refine PW_iadd zd_M_into_27 ?_
  obtain ⟨h0, h⟩ := h
  refine PW_iaload zd_M_into_28 (zs_84 _) h0 ?_
  obtain ⟨h0, h⟩ := h
  refine PW_ior zd_M_into_29 h0 ?_
  refine PW_aload_n zd_M_into_30 rfl ?_
  refine PW_getR zd_M_into_31 zf_M_174 (zs_58 _) rfl ?_
  refine PW_iconst zd_M_into_34 ?_
  refine PW_iload_n zd_M_into_35 rfl ?_
  refine PW_imul zd_M_into_36 ?_
  refine PW_iconst zd_M_into_37 ?_
  refine PW_iadd zd_M_into_38 ?_
  obtain ⟨h0, h⟩ := h
  refine PW_iaload zd_M_into_39 (zs_84 _) h0 ?_
  obtain ⟨h0, h⟩ := h
  refine PW_ior zd_M_into_40 h0 ?_
  exact PW_iret zd_M_into_41 rfl h
def w_M_seen (G : zG) (eye0 : Int) (X : zX) (σ : zPH) : Prop :=
  (0 ≤ ((8 * (σ 58 13)) + eye0) ∧ ((8 * (σ 58 13)) + eye0) < 16) ∧
  MS G zm_M_from 0 [zr G 58, iZ (σ 72 ((8 * (σ 58 13)) + eye0).toNat)] σ (fun v σ15 =>
    ∃ z15 : Int, v = some (iZ z15) ∧
    ∀ x2 : Int, x2 = (z15 - (144 * (σ15 58 13))) →
    (zI x2 ∧ zI (σ15 58 45)) ∧
    (x2 ≠ (σ15 58 45) →
      MS G zm_M_into 0 [zr G 58, iZ x2] σ15 (fun v σ42 =>
        ∃ z42 : Int, v = some (iZ z42) ∧
        X (some (iZ z42)) σ42)) ∧
    (x2 = (σ15 58 45) →
      X (some (iZ 0)) σ15))
set_option maxHeartbeats 4000000 in
theorem k_M_seen {G : zG} {eye0 : Int} {X : zX} {σ : zPH} (h : w_M_seen G eye0 X σ) : MS G zm_M_seen 1 [zr G 58, iZ eye0] σ X := by
  refine ms_of zk_M_seen (Nat.le_of_ble_eq_true rfl) (ls := [some (zr G 58), some (iZ eye0), none]) rfl ?_
  unfold w_M_seen at h
  refine PW_aload_n zd_M_seen_0 rfl ?_
  refine PW_aload_n zd_M_seen_1 rfl ?_
  refine PW_getR zd_M_seen_2 zf_M_91 (zs_58 _) rfl ?_
  refine PW_bipush zd_M_seen_5 rfl ?_
  refine PW_aload_n zd_M_seen_7 rfl ?_
  refine PW_getI zd_M_seen_8 zf_M_51 (zs_58 _) rfl ?_
  refine PW_imul zd_M_seen_11 ?_
  refine PW_iload_n zd_M_seen_12 rfl ?_
  refine PW_iadd zd_M_seen_13 ?_
  obtain ⟨h0, h⟩ := h
  refine PW_iaload zd_M_seen_14 (zs_72 _) h0 ?_
  refine PW_callV1i zd_M_seen_15 zl_M_414 zk_M_from zv_M_from (fr' := 0) (by decide) (zs_58 _) rfl rfl (Nat.le_of_ble_eq_true rfl) ?_
  refine ms_mono h ?_
  rintro v σ1 ⟨z, rfl, h⟩
  refine ⟨z, rfl, ?_⟩
  refine PW_sipush zd_M_seen_18 rfl ?_
  refine PW_aload_n zd_M_seen_21 rfl ?_
  refine PW_getI zd_M_seen_22 zf_M_51 (zs_58 _) rfl ?_
  refine PW_imul zd_M_seen_25 ?_
  refine PW_isub zd_M_seen_26 ?_
  refine PW_istore_n zd_M_seen_27 rfl (by decide) (ls2 := [_, _, _]) rfl ?_
  have h := h _ rfl
  refine PW_iload_n zd_M_seen_28 rfl ?_
  refine PW_aload_n zd_M_seen_29 rfl ?_
  refine PW_getI zd_M_seen_30 zf_M_150 (zs_58 _) rfl ?_
  obtain ⟨h0, hT, hF⟩ := h
  refine PW_icmp_ne zd_M_seen_33 h0 (fun q => ?_) (fun q => ?_)
  · have h := hT q
    refine PW_aload_n zd_M_seen_40 rfl ?_
    refine PW_iload_n zd_M_seen_41 rfl ?_
    refine PW_callV1i zd_M_seen_42 zl_M_440 zk_M_into zv_M_into (fr' := 0) (by decide) (zs_58 _) rfl rfl (Nat.le_of_ble_eq_true rfl) ?_
    refine ms_mono h ?_
    rintro v σ1 ⟨z, rfl, h⟩
    refine ⟨z, rfl, ?_⟩
    exact PW_iret zd_M_seen_45 rfl h
  · have h := hF q
    refine PW_iconst zd_M_seen_36 ?_
    refine PW_goto zd_M_seen_37 ?_
    exact PW_iret zd_M_seen_45 rfl h
def b_M_litEyes_33 (G : zG) (X : zX) (K4 : Int → Int → zPH → Prop) (x2 s0 s1 : Int) (σ : zPH) : Prop :=
  (0 ≤ s1 ∧ 0 ≤ s0) ∧
  ∀ x1 : Int, x1 = (zor s1 s0) →
  K4 x1 (x2 + 1) σ
set_option maxHeartbeats 4000000 in
theorem kb_M_litEyes_33 {G : zG} {X : zX} {K4 : Int → Int → zPH → Prop} (hK4 : ∀ (y0 y1 : Int) (σ : zPH), K4 y0 y1 σ → PW G zm_M_litEyes 2 X 4 [some (zr G 58), some (iZ y0), some (iZ y1)] [] σ) {x2 s0 s1 : Int} {σ : zPH} (h : b_M_litEyes_33 G  X K4 x2 s0 s1 σ) : PW G zm_M_litEyes 2 X 33 [some (zr G 58), none, some (iZ x2)] [iZ s0, iZ s1] σ := by
  unfold b_M_litEyes_33 at h
  obtain ⟨h0, h⟩ := h
  refine PW_ior zd_M_litEyes_33 h0 ?_
  refine PW_istore_n zd_M_litEyes_34 rfl (by decide) (ls2 := [_, _, _]) rfl ?_
  have h := h _ rfl
  refine PW_iinc zd_M_litEyes_35 rfl rfl (by decide) (ls2 := [_, _, _]) rfl ?_
  refine PW_goto zd_M_litEyes_38 ?_
  exact PW_sub (by exact ⟨rfl, rfl, rfl, trivial⟩) (hK4 _ _ _ h)
def b_M_litEyes_4 (G : zG) (X : zX) (K4 : Int → Int → zPH → Prop) (x1 x2 : Int) (σ : zPH) : Prop :=
  (0 ≤ (σ 58 13) ∧ (σ 58 13) < 2) ∧
  (zI x2 ∧ zI (σ 66 (σ 58 13).toNat)) ∧
  ((σ 66 (σ 58 13).toNat) ≤ x2 →
    X (some (iZ x1)) σ) ∧
  (x2 < (σ 66 (σ 58 13).toNat) →
    MS G zm_M_seen 1 [zr G 58, iZ x2] σ (fun v σ20 =>
      ∃ z20 : Int, v = some (iZ z20) ∧
      (zI z20) ∧
      (z20 = 0 →
        b_M_litEyes_33 G  X K4 x2 0 x1 σ20) ∧
      (z20 ≠ 0 →
        (0 ≤ x2 ∧ x2 < 32) ∧
        b_M_litEyes_33 G  X K4 x2 ((1 : Int) * 2 ^ x2.toNat) x1 σ20)))
set_option maxHeartbeats 4000000 in
theorem kb_M_litEyes_4 {G : zG} {X : zX} {K4 : Int → Int → zPH → Prop} (hK4 : ∀ (y0 y1 : Int) (σ : zPH), K4 y0 y1 σ → PW G zm_M_litEyes 2 X 4 [some (zr G 58), some (iZ y0), some (iZ y1)] [] σ) {x1 x2 : Int} {σ : zPH} (h : b_M_litEyes_4 G  X K4 x1 x2 σ) : PW G zm_M_litEyes 2 X 4 [some (zr G 58), some (iZ x1), some (iZ x2)] [] σ := by
  unfold b_M_litEyes_4 at h
  refine PW_iload_n zd_M_litEyes_4 rfl ?_
  refine PW_aload_n zd_M_litEyes_5 rfl ?_
  refine PW_getR zd_M_litEyes_6 zf_M_72 (zs_58 _) rfl ?_
  refine PW_aload_n zd_M_litEyes_9 rfl ?_
  refine PW_getI zd_M_litEyes_10 zf_M_51 (zs_58 _) rfl ?_
  obtain ⟨h0, h⟩ := h
  refine PW_iaload zd_M_litEyes_13 (zs_66 _) h0 ?_
  obtain ⟨h0, hT, hF⟩ := h
  refine PW_icmp_ge zd_M_litEyes_14 h0 (fun q => ?_) (fun q => ?_)
  · have h := hT q
    refine PW_iload_n zd_M_litEyes_41 rfl ?_
    exact PW_iret zd_M_litEyes_42 rfl h
  · have h := hF q
    refine PW_iload_n zd_M_litEyes_17 rfl ?_
    refine PW_aload_n zd_M_litEyes_18 rfl ?_
    refine PW_iload_n zd_M_litEyes_19 rfl ?_
    refine PW_callV1i zd_M_litEyes_20 zl_M_443 zk_M_seen zv_M_seen (fr' := 1) (by decide) (zs_58 _) rfl rfl (Nat.le_of_ble_eq_true rfl) ?_
    refine ms_mono h ?_
    rintro v σ1 ⟨z, rfl, h⟩
    refine ⟨z, rfl, ?_⟩
    obtain ⟨h0, hT, hF⟩ := h
    refine PW_if_eq zd_M_litEyes_23 h0 (fun q => ?_) (fun q => ?_)
    · have h := hT q
      refine PW_iconst zd_M_litEyes_32 ?_
      exact PW_sub (by exact ⟨rfl, rfl, trivial⟩) (kb_M_litEyes_33  hK4 h)
    · have h := hF q
      refine PW_iconst zd_M_litEyes_26 ?_
      refine PW_iload_n zd_M_litEyes_27 rfl ?_
      obtain ⟨h0, h⟩ := h
      refine PW_ishl zd_M_litEyes_28 h0 ?_
      refine PW_goto zd_M_litEyes_29 ?_
      exact PW_sub (by exact ⟨rfl, rfl, trivial⟩) (kb_M_litEyes_33  hK4 h)
theorem kl_M_litEyes_4 {G : zG} {X : zX} {x1 x2 : Int} {σ : zPH} (h : zLP2 (b_M_litEyes_4 G  X ) x1 x2 σ) : PW G zm_M_litEyes 2 X 4 [some (zr G 58), some (iZ x1), some (iZ x2)] [] σ := by
  obtain ⟨n, h⟩ := h
  induction n generalizing x1 x2 σ with
  | zero => exact h.elim
  | succ n ih => exact kb_M_litEyes_4   (fun _ _ _ h => ih h) h
def w_M_litEyes (G : zG) (X : zX) (σ : zPH) : Prop :=
  zLP2 (b_M_litEyes_4 G  X ) 0 0 σ
set_option maxHeartbeats 4000000 in
theorem k_M_litEyes {G : zG} {X : zX} {σ : zPH} (h : w_M_litEyes G  X σ) : MS G zm_M_litEyes 2 [zr G 58] σ X := by
  refine ms_of zk_M_litEyes (Nat.le_of_ble_eq_true rfl) (ls := [some (zr G 58), none, none]) rfl ?_
  unfold w_M_litEyes at h
  refine PW_iconst zd_M_litEyes_0 ?_
  refine PW_istore_n zd_M_litEyes_1 rfl (by decide) (ls2 := [_, _, _]) rfl ?_
  refine PW_iconst zd_M_litEyes_2 ?_
  refine PW_istore_n zd_M_litEyes_3 rfl (by decide) (ls2 := [_, _, _]) rfl ?_
  exact PW_sub (by exact ⟨rfl, rfl, rfl, trivial⟩) (kl_M_litEyes_4   h)
def w_M_isMirror (G : zG) (k : Int) (X : zX) (σ : zPH) : Prop :=
  (0 ≤ (σ 58 13) ∧ (σ 58 13) < 2) ∧
  MS G zm_M_is 0 [iZ k, iZ 0, iZ ((σ 64 (σ 58 13).toNat) - 1)] σ (fun v σ13 =>
    ∃ z13 : Int, (z13 = 0 ∨ z13 = 1) ∧ v = some (iZ z13) ∧
    (z13 = 0 ∨ z13 = 1) ∧
    X (some (iZ z13)) σ13)
set_option maxHeartbeats 4000000 in
theorem k_M_isMirror {G : zG} {k : Int} {X : zX} {σ : zPH} (h : w_M_isMirror G k X σ) : MS G zm_M_isMirror 1 [zr G 58, iZ k] σ X := by
  refine ms_of zk_M_isMirror (Nat.le_of_ble_eq_true rfl) (ls := [some (zr G 58), some (iZ k)]) rfl ?_
  unfold w_M_isMirror at h
  refine PW_iload_n zd_M_isMirror_0 rfl ?_
  refine PW_iconst zd_M_isMirror_1 ?_
  refine PW_aload_n zd_M_isMirror_2 rfl ?_
  refine PW_getR zd_M_isMirror_3 zf_M_66 (zs_58 _) rfl ?_
  refine PW_aload_n zd_M_isMirror_6 rfl ?_
  refine PW_getI zd_M_isMirror_7 zf_M_51 (zs_58 _) rfl ?_
  obtain ⟨h0, h⟩ := h
  refine PW_iaload zd_M_isMirror_10 (zs_64 _) h0 ?_
  refine PW_iconst zd_M_isMirror_11 ?_
  refine PW_isub zd_M_isMirror_12 ?_
  refine PW_callS3i zd_M_isMirror_13 zl_M_320 zk_M_is zv_M_is (fr' := 0) (by decide) (Nat.le_of_ble_eq_true rfl) ?_
  refine ms_mono h ?_
  rintro v σ1 ⟨z, hz, rfl, h⟩
  refine ⟨z, rfl, ?_⟩
  exact PW_zret zd_M_isMirror_16 rfl h.1 h.2
def b_M_bitsOf_4 (G : zG) (v : Int) (X : zX) (K4 : Int → Int → zPH → Prop) (x1 x2 : Int) (σ : zPH) : Prop :=
  (zI x2) ∧
  (x2 = 0 →
    X (some (iZ x1)) σ) ∧
  (x2 ≠ 0 →
    ∀ x1_ : Int, x1_ = (x1 + (x2 % 2)) →
    (0 ≤ x2 ∧ x2 < 2147483648) ∧
    ∀ x2_ : Int, x2_ = (x2 / 2) →
    K4 x1_ x2_ σ)
set_option maxHeartbeats 4000000 in
theorem kb_M_bitsOf_4 {G : zG} {v : Int} {X : zX} {K4 : Int → Int → zPH → Prop} (hK4 : ∀ (y0 y1 : Int) (σ : zPH), K4 y0 y1 σ → PW G zm_M_bitsOf 0 X 4 [none, some (iZ y0), some (iZ y1)] [] σ) {x1 x2 : Int} {σ : zPH} (h : b_M_bitsOf_4 G v X K4 x1 x2 σ) : PW G zm_M_bitsOf 0 X 4 [none, some (iZ x1), some (iZ x2)] [] σ := by
  unfold b_M_bitsOf_4 at h
  refine PW_iload_n zd_M_bitsOf_4 rfl ?_
  obtain ⟨h0, hT, hF⟩ := h
  refine PW_if_eq zd_M_bitsOf_5 h0 (fun q => ?_) (fun q => ?_)
  · have h := hT q
    refine PW_iload_n zd_M_bitsOf_21 rfl ?_
    exact PW_iret zd_M_bitsOf_22 rfl h
  · have h := hF q
    refine PW_iload_n zd_M_bitsOf_8 rfl ?_
    refine PW_iload_n zd_M_bitsOf_9 rfl ?_
    refine PW_iconst zd_M_bitsOf_10 ?_
    refine PW_iandm1 zd_M_bitsOf_11 ?_
    refine PW_iadd zd_M_bitsOf_12 ?_
    refine PW_istore_n zd_M_bitsOf_13 rfl (by decide) (ls2 := [_, _, _]) rfl ?_
    have h := h _ rfl
    refine PW_iload_n zd_M_bitsOf_14 rfl ?_
    refine PW_iconst zd_M_bitsOf_15 ?_
    obtain ⟨h0, h⟩ := h
    refine PW_iushr zd_M_bitsOf_16 ⟨h0, by decide⟩ ?_
    have h := h
    refine PW_istore_n zd_M_bitsOf_17 rfl (by decide) (ls2 := [_, _, _]) rfl ?_
    have h := h _ rfl
    refine PW_goto zd_M_bitsOf_18 ?_
    exact PW_sub (by exact ⟨rfl, rfl, trivial⟩) (hK4 _ _ _ h)
theorem kl_M_bitsOf_4 {G : zG} {v : Int} {X : zX} {x1 x2 : Int} {σ : zPH} (h : zLP2 (b_M_bitsOf_4 G v X ) x1 x2 σ) : PW G zm_M_bitsOf 0 X 4 [none, some (iZ x1), some (iZ x2)] [] σ := by
  obtain ⟨n, h⟩ := h
  induction n generalizing x1 x2 σ with
  | zero => exact h.elim
  | succ n ih => exact kb_M_bitsOf_4   (fun _ _ _ h => ih h) h
def w_M_bitsOf (G : zG) (v : Int) (X : zX) (σ : zPH) : Prop :=
  zLP2 (b_M_bitsOf_4 G v X ) 0 v σ
set_option maxHeartbeats 4000000 in
theorem k_M_bitsOf {G : zG} {v : Int} {X : zX} {σ : zPH} (h : w_M_bitsOf G v X σ) : MS G zm_M_bitsOf 0 [iZ v] σ X := by
  refine ms_of zk_M_bitsOf (Nat.le_of_ble_eq_true rfl) (ls := [some (iZ v), none, none]) rfl ?_
  unfold w_M_bitsOf at h
  refine PW_iconst zd_M_bitsOf_0 ?_
  refine PW_istore_n zd_M_bitsOf_1 rfl (by decide) (ls2 := [_, _, _]) rfl ?_
  refine PW_iload_n zd_M_bitsOf_2 rfl ?_
  refine PW_istore_n zd_M_bitsOf_3 rfl (by decide) (ls2 := [_, _, _]) rfl ?_
  exact PW_sub (by exact ⟨rfl, rfl, trivial⟩) (kl_M_bitsOf_4   h)
def w_M_turn (G : zG) (mirror : Int) (X : zX) (σ : zPH) : Prop :=
  MS G zm_M_isMirror 1 [zr G 58, iZ mirror] σ (fun v σ2 =>
    (v = some (iZ 0) ∧
      X (some (iZ (-1))) σ2) ∨
    (v = some (iZ 1) ∧
      MS G zm_M_remembers 0 [zr G 58, iZ (σ2 58 42), iZ (σ2 58 43)] σ2 (fun v σ19 =>
        v = none ∧
        (0 ≤ mirror ∧ mirror < 32) ∧
        (0 ≤ (σ19 58 42) ∧ 0 ≤ ((1 : Int) * 2 ^ mirror.toNat)) ∧
        ∀ σ31 : zPH, σ31 = zupd σ19 58 42 (zxor (σ19 58 42) ((1 : Int) * 2 ^ mirror.toNat)) →
        MS G zm_M_bitsOf 0 [iZ (σ31 58 42)] σ31 (fun v σ38 =>
          ∃ z38 : Int, v = some (iZ z38) ∧
          X (some (iZ z38)) σ38))))
set_option maxHeartbeats 4000000 in
theorem k_M_turn {G : zG} {mirror : Int} {X : zX} {σ : zPH} (h : w_M_turn G mirror X σ) : MS G zm_M_turn 2 [zr G 58, iZ mirror] σ X := by
  refine ms_of zk_M_turn (Nat.le_of_ble_eq_true rfl) (ls := [some (zr G 58), some (iZ mirror)]) rfl ?_
  unfold w_M_turn at h
  refine PW_aload_n zd_M_turn_0 rfl ?_
  refine PW_iload_n zd_M_turn_1 rfl ?_
  refine PW_callV1i zd_M_turn_2 zl_M_446 zk_M_isMirror zv_M_isMirror (fr' := 1) (by decide) (zs_58 _) rfl rfl (Nat.le_of_ble_eq_true rfl) ?_
  refine ms_mono h ?_
  rintro v σ1 (⟨rfl, h⟩ | ⟨rfl, h⟩)
  · refine ⟨0, rfl, ?_⟩
    refine PW_if_ne zd_M_turn_5 (by decide) (fun q => absurd rfl q) (fun _ => ?_)
    refine PW_iconst zd_M_turn_8 ?_
    exact PW_iret zd_M_turn_9 rfl h
  · refine ⟨1, rfl, ?_⟩
    refine PW_if_ne zd_M_turn_5 (by decide) (fun _ => ?_) (fun q => absurd q (by decide))
    refine PW_aload_n zd_M_turn_10 rfl ?_
    refine PW_aload_n zd_M_turn_11 rfl ?_
    refine PW_getI zd_M_turn_12 zf_M_141 (zs_58 _) rfl ?_
    refine PW_aload_n zd_M_turn_15 rfl ?_
    refine PW_getI zd_M_turn_16 zf_M_144 (zs_58 _) rfl ?_
    refine PW_callV2v zd_M_turn_19 zl_M_449 zk_M_remembers zv_M_remembers (fr' := 0) (by decide) (zs_58 _) rfl rfl (Nat.le_of_ble_eq_true rfl) ?_
    refine ms_mono h ?_
    rintro v σ1 ⟨rfl, h⟩
    refine ⟨rfl, ?_⟩
    refine PW_aload_n zd_M_turn_22 rfl ?_
    refine PW_dup zd_M_turn_23 rfl ?_
    refine PW_getI zd_M_turn_24 zf_M_141 (zs_58 _) rfl ?_
    refine PW_iconst zd_M_turn_27 ?_
    refine PW_iload_n zd_M_turn_28 rfl ?_
    obtain ⟨h0, h⟩ := h
    refine PW_ishl zd_M_turn_29 h0 ?_
    obtain ⟨h0, h⟩ := h
    refine PW_ixor zd_M_turn_30 h0 ?_
    refine PW_putI zd_M_turn_31 zp_M_141 (zs_58 _) rfl ?_
    have h := h _ rfl
    refine PW_aload_n zd_M_turn_34 rfl ?_
    refine PW_getI zd_M_turn_35 zf_M_141 (zs_58 _) rfl ?_
    refine PW_callS1i zd_M_turn_38 zl_M_452 zk_M_bitsOf zv_M_bitsOf (fr' := 0) (by decide) (Nat.le_of_ble_eq_true rfl) ?_
    refine ms_mono h ?_
    rintro v σ1 ⟨z, rfl, h⟩
    refine ⟨z, rfl, ?_⟩
    exact PW_iret zd_M_turn_41 rfl h
def w_M_turned (G : zG) (X : zX) (σ : zPH) : Prop :=
  X (some (iZ (σ 58 42))) σ
set_option maxHeartbeats 4000000 in
theorem k_M_turned {G : zG} {X : zX} {σ : zPH} (h : w_M_turned G  X σ) : MS G zm_M_turned 0 [zr G 58] σ X := by
  refine ms_of zk_M_turned (Nat.le_of_ble_eq_true rfl) (ls := [some (zr G 58)]) rfl ?_
  unfold w_M_turned at h
  refine PW_aload_n zd_M_turned_0 rfl ?_
  refine PW_getI zd_M_turned_1 zf_M_141 (zs_58 _) rfl ?_
  exact PW_iret zd_M_turned_4 rfl h
def w_M_states (G : zG) (X : zX) (σ : zPH) : Prop :=
  (0 ≤ (σ 58 13) ∧ (σ 58 13) < 2) ∧
  (0 ≤ (σ 65 (σ 58 13).toNat) ∧ (σ 65 (σ 58 13).toNat) < 32) ∧
  X (some (iZ ((1 : Int) * 2 ^ (σ 65 (σ 58 13).toNat).toNat))) σ
set_option maxHeartbeats 4000000 in
theorem k_M_states {G : zG} {X : zX} {σ : zPH} (h : w_M_states G  X σ) : MS G zm_M_states 0 [zr G 58] σ X := by
  refine ms_of zk_M_states (Nat.le_of_ble_eq_true rfl) (ls := [some (zr G 58)]) rfl ?_
  unfold w_M_states at h
  refine PW_iconst zd_M_states_0 ?_
  refine PW_aload_n zd_M_states_1 rfl ?_
  refine PW_getR zd_M_states_2 zf_M_69 (zs_58 _) rfl ?_
  refine PW_aload_n zd_M_states_5 rfl ?_
  refine PW_getI zd_M_states_6 zf_M_51 (zs_58 _) rfl ?_
  obtain ⟨h0, h⟩ := h
  refine PW_iaload zd_M_states_9 (zs_65 _) h0 ?_
  obtain ⟨h0, h⟩ := h
  refine PW_ishl zd_M_states_10 h0 ?_
  exact PW_iret zd_M_states_11 rfl h
def w_M_set (G : zG) (st : Int) (X : zX) (σ : zPH) : Prop :=
  MS G zm_M_states 0 [zr G 58] σ (fun v σ3 =>
    ∃ z3 : Int, v = some (iZ z3) ∧
    MS G zm_M_is 0 [iZ st, iZ 0, iZ (z3 - 1)] σ3 (fun v σ8 =>
      (v = some (iZ 0) ∧
        X (some (iZ 0)) σ8) ∨
      (v = some (iZ 1) ∧
        (zI st ∧ zI (σ8 58 43)) ∧
        (st = (σ8 58 43) →
          ∀ σ38 : zPH, σ38 = zupd σ8 58 43 st →
          X (some (iZ 1)) σ38) ∧
        (st ≠ (σ8 58 43) →
          MS G zm_M_remembers 0 [zr G 58, iZ (σ8 58 42), iZ (σ8 58 43)] σ8 (fun v σ33 =>
            v = none ∧
            ∀ σ38 : zPH, σ38 = zupd σ33 58 43 st →
            X (some (iZ 1)) σ38)))))
set_option maxHeartbeats 4000000 in
theorem k_M_set {G : zG} {st : Int} {X : zX} {σ : zPH} (h : w_M_set G st X σ) : MS G zm_M_set 1 [zr G 58, iZ st] σ X := by
  refine ms_of zk_M_set (Nat.le_of_ble_eq_true rfl) (ls := [some (zr G 58), some (iZ st)]) rfl ?_
  unfold w_M_set at h
  refine PW_iload_n zd_M_set_0 rfl ?_
  refine PW_iconst zd_M_set_1 ?_
  refine PW_aload_n zd_M_set_2 rfl ?_
  refine PW_callV0i zd_M_set_3 zl_M_455 zk_M_states zv_M_states (fr' := 0) (by decide) (zs_58 _) rfl rfl (Nat.le_of_ble_eq_true rfl) ?_
  refine ms_mono h ?_
  rintro v σ1 ⟨z, rfl, h⟩
  refine ⟨z, rfl, ?_⟩
  refine PW_iconst zd_M_set_6 ?_
  refine PW_isub zd_M_set_7 ?_
  refine PW_callS3i zd_M_set_8 zl_M_320 zk_M_is zv_M_is (fr' := 0) (by decide) (Nat.le_of_ble_eq_true rfl) ?_
  refine ms_mono h ?_
  rintro v σ1 (⟨rfl, h⟩ | ⟨rfl, h⟩)
  · refine ⟨0, rfl, ?_⟩
    refine PW_if_ne zd_M_set_11 (by decide) (fun q => absurd rfl q) (fun _ => ?_)
    refine PW_iconst zd_M_set_14 ?_
    exact PW_zret zd_M_set_15 rfl (by decide) h
  · refine ⟨1, rfl, ?_⟩
    refine PW_if_ne zd_M_set_11 (by decide) (fun _ => ?_) (fun q => absurd q (by decide))
    refine PW_iload_n zd_M_set_16 rfl ?_
    refine PW_aload_n zd_M_set_17 rfl ?_
    refine PW_getI zd_M_set_18 zf_M_144 (zs_58 _) rfl ?_
    obtain ⟨h0, hT, hF⟩ := h
    refine PW_icmp_eq zd_M_set_21 h0 (fun q => ?_) (fun q => ?_)
    · have h := hT q
      refine PW_aload_n zd_M_set_36 rfl ?_
      refine PW_iload_n zd_M_set_37 rfl ?_
      refine PW_putI zd_M_set_38 zp_M_144 (zs_58 _) rfl ?_
      have h := h _ rfl
      refine PW_iconst zd_M_set_41 ?_
      exact PW_zret zd_M_set_42 rfl (by decide) h
    · have h := hF q
      refine PW_aload_n zd_M_set_24 rfl ?_
      refine PW_aload_n zd_M_set_25 rfl ?_
      refine PW_getI zd_M_set_26 zf_M_141 (zs_58 _) rfl ?_
      refine PW_aload_n zd_M_set_29 rfl ?_
      refine PW_getI zd_M_set_30 zf_M_144 (zs_58 _) rfl ?_
      refine PW_callV2v zd_M_set_33 zl_M_449 zk_M_remembers zv_M_remembers (fr' := 0) (by decide) (zs_58 _) rfl rfl (Nat.le_of_ble_eq_true rfl) ?_
      refine ms_mono h ?_
      rintro v σ1 ⟨rfl, h⟩
      refine ⟨rfl, ?_⟩
      refine PW_aload_n zd_M_set_36 rfl ?_
      refine PW_iload_n zd_M_set_37 rfl ?_
      refine PW_putI zd_M_set_38 zp_M_144 (zs_58 _) rfl ?_
      have h := h _ rfl
      refine PW_iconst zd_M_set_41 ?_
      exact PW_zret zd_M_set_42 rfl (by decide) h
def w_M_state (G : zG) (X : zX) (σ : zPH) : Prop :=
  X (some (iZ (σ 58 43))) σ
set_option maxHeartbeats 4000000 in
theorem k_M_state {G : zG} {X : zX} {σ : zPH} (h : w_M_state G  X σ) : MS G zm_M_state 0 [zr G 58] σ X := by
  refine ms_of zk_M_state (Nat.le_of_ble_eq_true rfl) (ls := [some (zr G 58)]) rfl ?_
  unfold w_M_state at h
  refine PW_aload_n zd_M_state_0 rfl ?_
  refine PW_getI zd_M_state_1 zf_M_144 (zs_58 _) rfl ?_
  exact PW_iret zd_M_state_4 rfl h
def w_M_light (G : zG) (column row w : Int) (X : zX) (σ : zPH) : Prop :=
  MS G zm_M_isSquare 1 [zr G 58, iZ column, iZ row] σ (fun v σ3 =>
    (v = some (iZ 0) ∧
      X (some (iZ (-1))) σ3) ∨
    (v = some (iZ 1) ∧
      MS G zm_M_is 0 [iZ w, iZ 0, iZ 3] σ3 (fun v σ12 =>
        (v = some (iZ 0) ∧
          X (some (iZ (-1))) σ12) ∨
        (v = some (iZ 1) ∧
          MS G zm_M_shines 4 [zr G 58, iZ (σ12 58 43)] σ12 (fun v σ25 =>
            v = none ∧
            (0 ≤ ((4 * ((12 * row) + column)) + w) ∧ ((4 * ((12 * row) + column)) + w) < 576) ∧
            X (some (iZ (σ25 84 ((4 * ((12 * row) + column)) + w).toNat))) σ25)))))
set_option maxHeartbeats 4000000 in
theorem k_M_light {G : zG} {column row w : Int} {X : zX} {σ : zPH} (h : w_M_light G column row w X σ) : MS G zm_M_light 5 [zr G 58, iZ column, iZ row, iZ w] σ X := by
  refine ms_of zk_M_light (Nat.le_of_ble_eq_true rfl) (ls := [some (zr G 58), some (iZ column), some (iZ row), some (iZ w)]) rfl ?_
  unfold w_M_light at h
  refine PW_aload_n zd_M_light_0 rfl ?_
  refine PW_iload_n zd_M_light_1 rfl ?_
  refine PW_iload_n zd_M_light_2 rfl ?_
  refine PW_callV2i zd_M_light_3 zl_M_420 zk_M_isSquare zv_M_isSquare (fr' := 1) (by decide) (zs_58 _) rfl rfl (Nat.le_of_ble_eq_true rfl) ?_
  refine ms_mono h ?_
  rintro v σ1 (⟨rfl, h⟩ | ⟨rfl, h⟩)
  · refine ⟨0, rfl, ?_⟩
    refine PW_if_eq zd_M_light_6 (by decide) (fun _ => ?_) (fun q => absurd rfl q)
    refine PW_iconst zd_M_light_18 ?_
    exact PW_iret zd_M_light_19 rfl h
  · refine ⟨1, rfl, ?_⟩
    refine PW_if_eq zd_M_light_6 (by decide) (fun q => absurd q (by decide)) (fun _ => ?_)
    refine PW_iload_n zd_M_light_9 rfl ?_
    refine PW_iconst zd_M_light_10 ?_
    refine PW_iconst zd_M_light_11 ?_
    refine PW_callS3i zd_M_light_12 zl_M_320 zk_M_is zv_M_is (fr' := 0) (by decide) (Nat.le_of_ble_eq_true rfl) ?_
    refine ms_mono h ?_
    rintro v σ1 (⟨rfl, h⟩ | ⟨rfl, h⟩)
    · refine ⟨0, rfl, ?_⟩
      refine PW_if_ne zd_M_light_15 (by decide) (fun q => absurd rfl q) (fun _ => ?_)
      refine PW_iconst zd_M_light_18 ?_
      exact PW_iret zd_M_light_19 rfl h
    · refine ⟨1, rfl, ?_⟩
      refine PW_if_ne zd_M_light_15 (by decide) (fun _ => ?_) (fun q => absurd q (by decide))
      refine PW_aload_n zd_M_light_20 rfl ?_
      refine PW_aload_n zd_M_light_21 rfl ?_
      refine PW_getI zd_M_light_22 zf_M_144 (zs_58 _) rfl ?_
      refine PW_callV1v zd_M_light_25 zl_M_458 zk_M_shines zv_M_shines (fr' := 4) (by decide) (zs_58 _) rfl rfl (Nat.le_of_ble_eq_true rfl) ?_
      refine ms_mono h ?_
      rintro v σ1 ⟨rfl, h⟩
      refine ⟨rfl, ?_⟩
      refine PW_aload_n zd_M_light_28 rfl ?_
      refine PW_getR zd_M_light_29 zf_M_174 (zs_58 _) rfl ?_
      refine PW_iconst zd_M_light_32 ?_
      refine PW_bipush zd_M_light_33 rfl ?_
      refine PW_iload_n zd_M_light_35 rfl ?_
      refine PW_imul zd_M_light_36 ?_
      refine PW_iload_n zd_M_light_37 rfl ?_
      refine PW_iadd zd_M_light_38 ?_
      refine PW_imul zd_M_light_39 ?_
      refine PW_iload_n zd_M_light_40 rfl ?_
      refine PW_iadd zd_M_light_41 ?_
      obtain ⟨h0, h⟩ := h
      refine PW_iaload zd_M_light_42 (zs_84 _) h0 ?_
      exact PW_iret zd_M_light_43 rfl h
def b_M_lit_58 (G : zG) (colour : Int) (X : zX) (K35 : Int → Int → zPH → Prop) (x3 s0 s1 : Int) (σ : zPH) : Prop :=
  ∀ x2 : Int, x2 = (s1 + s0) →
  K35 x2 (x3 + 1) σ
set_option maxHeartbeats 4000000 in
theorem kb_M_lit_58 {G : zG} {colour : Int} {X : zX} {K35 : Int → Int → zPH → Prop} (hK35 : ∀ (y0 y1 : Int) (σ : zPH), K35 y0 y1 σ → PW G zm_M_lit 5 X 35 [some (zr G 58), some (iZ colour), some (iZ y0), some (iZ y1)] [] σ) {x3 s0 s1 : Int} {σ : zPH} (h : b_M_lit_58 G colour X K35 x3 s0 s1 σ) : PW G zm_M_lit 5 X 58 [some (zr G 58), some (iZ colour), none, some (iZ x3)] [iZ s0, iZ s1] σ := by
  unfold b_M_lit_58 at h
  refine PW_iadd zd_M_lit_58 ?_
  refine PW_istore_n zd_M_lit_59 rfl (by decide) (ls2 := [_, _, _, _]) rfl ?_
  have h := h _ rfl
  refine PW_iinc zd_M_lit_60 rfl rfl (by decide) (ls2 := [_, _, _, _]) rfl ?_
  refine PW_goto zd_M_lit_63 ?_
  exact PW_sub (by exact ⟨rfl, rfl, rfl, rfl, trivial⟩) (hK35 _ _ _ h)
def b_M_lit_35 (G : zG) (colour : Int) (X : zX) (K35 : Int → Int → zPH → Prop) (x2 x3 : Int) (σ : zPH) : Prop :=
  (zI x3) ∧
  (144 ≤ x3 →
    X (some (iZ x2)) σ) ∧
  (x3 < 144 →
    MS G zm_M_into 0 [zr G 58, iZ x3] σ (fun v σ45 =>
      ∃ z45 : Int, v = some (iZ z45) ∧
      (0 ≤ z45 ∧ 0 ≤ colour) ∧
      (zI (zand z45 colour)) ∧
      ((zand z45 colour) = 0 →
        b_M_lit_58 G colour X K35 x3 0 x2 σ45) ∧
      ((zand z45 colour) ≠ 0 →
        b_M_lit_58 G colour X K35 x3 1 x2 σ45)))
set_option maxHeartbeats 4000000 in
theorem kb_M_lit_35 {G : zG} {colour : Int} {X : zX} {K35 : Int → Int → zPH → Prop} (hK35 : ∀ (y0 y1 : Int) (σ : zPH), K35 y0 y1 σ → PW G zm_M_lit 5 X 35 [some (zr G 58), some (iZ colour), some (iZ y0), some (iZ y1)] [] σ) {x2 x3 : Int} {σ : zPH} (h : b_M_lit_35 G colour X K35 x2 x3 σ) : PW G zm_M_lit 5 X 35 [some (zr G 58), some (iZ colour), some (iZ x2), some (iZ x3)] [] σ := by
  unfold b_M_lit_35 at h
  refine PW_iload_n zd_M_lit_35 rfl ?_
  refine PW_sipush zd_M_lit_36 rfl ?_
  obtain ⟨h0, hT, hF⟩ := h
  refine PW_icmp_ge zd_M_lit_39 ⟨h0, by decide⟩ (fun q => ?_) (fun q => ?_)
  · have h := hT q
    refine PW_iload_n zd_M_lit_66 rfl ?_
    exact PW_iret zd_M_lit_67 rfl h
  · have h := hF q
    refine PW_iload_n zd_M_lit_42 rfl ?_
    refine PW_aload_n zd_M_lit_43 rfl ?_
    refine PW_iload_n zd_M_lit_44 rfl ?_
    refine PW_callV1i zd_M_lit_45 zl_M_440 zk_M_into zv_M_into (fr' := 0) (by decide) (zs_58 _) rfl rfl (Nat.le_of_ble_eq_true rfl) ?_
    refine ms_mono h ?_
    rintro v σ1 ⟨z, rfl, h⟩
    refine ⟨z, rfl, ?_⟩
    refine PW_iload_n zd_M_lit_48 rfl ?_
    obtain ⟨h0, h⟩ := h
    refine PW_iand zd_M_lit_49 h0 ?_
    obtain ⟨h0, hT, hF⟩ := h
    refine PW_if_eq zd_M_lit_50 h0 (fun q => ?_) (fun q => ?_)
    · have h := hT q
      refine PW_iconst zd_M_lit_57 ?_
      exact PW_sub (by exact ⟨rfl, rfl, rfl, trivial⟩) (kb_M_lit_58  hK35 h)
    · have h := hF q
      refine PW_iconst zd_M_lit_53 ?_
      refine PW_goto zd_M_lit_54 ?_
      exact PW_sub (by exact ⟨rfl, rfl, rfl, trivial⟩) (kb_M_lit_58  hK35 h)
theorem kl_M_lit_35 {G : zG} {colour : Int} {X : zX} {x2 x3 : Int} {σ : zPH} (h : zLP2 (b_M_lit_35 G colour X ) x2 x3 σ) : PW G zm_M_lit 5 X 35 [some (zr G 58), some (iZ colour), some (iZ x2), some (iZ x3)] [] σ := by
  obtain ⟨n, h⟩ := h
  induction n generalizing x2 x3 σ with
  | zero => exact h.elim
  | succ n ih => exact kb_M_lit_35   (fun _ _ _ h => ih h) h
def b_M_lit_23 (G : zG) (colour : Int) (X : zX) (σ : zPH) : Prop :=
  MS G zm_M_shines 4 [zr G 58, iZ (σ 58 43)] σ (fun v σ28 =>
    v = none ∧
    zLP2 (b_M_lit_35 G colour X ) 0 0 σ28)
set_option maxHeartbeats 4000000 in
theorem kb_M_lit_23 {G : zG} {colour : Int} {X : zX} {σ : zPH} (h : b_M_lit_23 G colour X   σ) : PW G zm_M_lit 5 X 23 [some (zr G 58), some (iZ colour), none, none] [] σ := by
  unfold b_M_lit_23 at h
  refine PW_aload_n zd_M_lit_23 rfl ?_
  refine PW_aload_n zd_M_lit_24 rfl ?_
  refine PW_getI zd_M_lit_25 zf_M_144 (zs_58 _) rfl ?_
  refine PW_callV1v zd_M_lit_28 zl_M_458 zk_M_shines zv_M_shines (fr' := 4) (by decide) (zs_58 _) rfl rfl (Nat.le_of_ble_eq_true rfl) ?_
  refine ms_mono h ?_
  rintro v σ1 ⟨rfl, h⟩
  refine ⟨rfl, ?_⟩
  refine PW_iconst zd_M_lit_31 ?_
  refine PW_istore_n zd_M_lit_32 rfl (by decide) (ls2 := [_, _, _, _]) rfl ?_
  refine PW_iconst zd_M_lit_33 ?_
  refine PW_istore_n zd_M_lit_34 rfl (by decide) (ls2 := [_, _, _, _]) rfl ?_
  exact PW_sub (by exact ⟨rfl, rfl, rfl, rfl, trivial⟩) (kl_M_lit_35   h)
def w_M_lit (G : zG) (colour : Int) (X : zX) (σ : zPH) : Prop :=
  (zI colour) ∧
  (colour = 1 →
    b_M_lit_23 G colour X  σ) ∧
  (colour ≠ 1 →
    (zI colour) ∧
    (colour = 2 →
      b_M_lit_23 G colour X  σ) ∧
    (colour ≠ 2 →
      (zI colour) ∧
      (colour = 4 →
        b_M_lit_23 G colour X  σ) ∧
      (colour ≠ 4 →
        (zI colour) ∧
        (colour = 7 →
          b_M_lit_23 G colour X  σ) ∧
        (colour ≠ 7 →
          X (some (iZ (-1))) σ))))
set_option maxHeartbeats 4000000 in
theorem k_M_lit {G : zG} {colour : Int} {X : zX} {σ : zPH} (h : w_M_lit G colour X σ) : MS G zm_M_lit 5 [zr G 58, iZ colour] σ X := by
  refine ms_of zk_M_lit (Nat.le_of_ble_eq_true rfl) (ls := [some (zr G 58), some (iZ colour), none, none]) rfl ?_
  unfold w_M_lit at h
  refine PW_iload_n zd_M_lit_0 rfl ?_
  refine PW_iconst zd_M_lit_1 ?_
  obtain ⟨h0, hT, hF⟩ := h
  refine PW_icmp_eq zd_M_lit_2 ⟨h0, by decide⟩ (fun q => ?_) (fun q => ?_)
  · have h := hT q
    exact PW_sub (by exact ⟨rfl, rfl, trivial⟩) (kb_M_lit_23   h)
  · have h := hF q
    refine PW_iload_n zd_M_lit_5 rfl ?_
    refine PW_iconst zd_M_lit_6 ?_
    obtain ⟨h0, hT, hF⟩ := h
    refine PW_icmp_eq zd_M_lit_7 ⟨h0, by decide⟩ (fun q => ?_) (fun q => ?_)
    · have h := hT q
      exact PW_sub (by exact ⟨rfl, rfl, trivial⟩) (kb_M_lit_23   h)
    · have h := hF q
      refine PW_iload_n zd_M_lit_10 rfl ?_
      refine PW_iconst zd_M_lit_11 ?_
      obtain ⟨h0, hT, hF⟩ := h
      refine PW_icmp_eq zd_M_lit_12 ⟨h0, by decide⟩ (fun q => ?_) (fun q => ?_)
      · have h := hT q
        exact PW_sub (by exact ⟨rfl, rfl, trivial⟩) (kb_M_lit_23   h)
      · have h := hF q
        refine PW_iload_n zd_M_lit_15 rfl ?_
        refine PW_bipush zd_M_lit_16 rfl ?_
        obtain ⟨h0, hT, hF⟩ := h
        refine PW_icmp_eq zd_M_lit_18 ⟨h0, by decide⟩ (fun q => ?_) (fun q => ?_)
        · have h := hT q
          exact PW_sub (by exact ⟨rfl, rfl, trivial⟩) (kb_M_lit_23   h)
        · have h := hF q
          refine PW_iconst zd_M_lit_21 ?_
          exact PW_iret zd_M_lit_22 rfl h
def w_M_sees (G : zG) (eye0 : Int) (X : zX) (σ : zPH) : Prop :=
  MS G zm_M_isEye 1 [zr G 58, iZ eye0] σ (fun v σ2 =>
    (v = some (iZ 0) ∧
      X (some (iZ (-1))) σ2) ∨
    (v = some (iZ 1) ∧
      MS G zm_M_shines 4 [zr G 58, iZ (σ2 58 43)] σ2 (fun v σ15 =>
        v = none ∧
        MS G zm_M_seen 1 [zr G 58, iZ eye0] σ15 (fun v σ20 =>
          ∃ z20 : Int, v = some (iZ z20) ∧
          X (some (iZ z20)) σ20))))
set_option maxHeartbeats 4000000 in
theorem k_M_sees {G : zG} {eye0 : Int} {X : zX} {σ : zPH} (h : w_M_sees G eye0 X σ) : MS G zm_M_sees 5 [zr G 58, iZ eye0] σ X := by
  refine ms_of zk_M_sees (Nat.le_of_ble_eq_true rfl) (ls := [some (zr G 58), some (iZ eye0)]) rfl ?_
  unfold w_M_sees at h
  refine PW_aload_n zd_M_sees_0 rfl ?_
  refine PW_iload_n zd_M_sees_1 rfl ?_
  refine PW_callV1i zd_M_sees_2 zl_M_409 zk_M_isEye zv_M_isEye (fr' := 1) (by decide) (zs_58 _) rfl rfl (Nat.le_of_ble_eq_true rfl) ?_
  refine ms_mono h ?_
  rintro v σ1 (⟨rfl, h⟩ | ⟨rfl, h⟩)
  · refine ⟨0, rfl, ?_⟩
    refine PW_if_ne zd_M_sees_5 (by decide) (fun q => absurd rfl q) (fun _ => ?_)
    refine PW_iconst zd_M_sees_8 ?_
    exact PW_iret zd_M_sees_9 rfl h
  · refine ⟨1, rfl, ?_⟩
    refine PW_if_ne zd_M_sees_5 (by decide) (fun _ => ?_) (fun q => absurd q (by decide))
    refine PW_aload_n zd_M_sees_10 rfl ?_
    refine PW_aload_n zd_M_sees_11 rfl ?_
    refine PW_getI zd_M_sees_12 zf_M_144 (zs_58 _) rfl ?_
    refine PW_callV1v zd_M_sees_15 zl_M_458 zk_M_shines zv_M_shines (fr' := 4) (by decide) (zs_58 _) rfl rfl (Nat.le_of_ble_eq_true rfl) ?_
    refine ms_mono h ?_
    rintro v σ1 ⟨rfl, h⟩
    refine ⟨rfl, ?_⟩
    refine PW_aload_n zd_M_sees_18 rfl ?_
    refine PW_iload_n zd_M_sees_19 rfl ?_
    refine PW_callV1i zd_M_sees_20 zl_M_443 zk_M_seen zv_M_seen (fr' := 1) (by decide) (zs_58 _) rfl rfl (Nat.le_of_ble_eq_true rfl) ?_
    refine ms_mono h ?_
    rintro v σ1 ⟨z, rfl, h⟩
    refine ⟨z, rfl, ?_⟩
    exact PW_iret zd_M_sees_23 rfl h
def b_M_holds_223 (G : zG) (mover : Int) (X : zX) (K26 : Int → Int → zPH → Prop) (x2 x3 : Int) (σ : zPH) : Prop :=
  K26 x2 (x3 + 1) σ
set_option maxHeartbeats 4000000 in
theorem kb_M_holds_223 {G : zG} {mover : Int} {X : zX} {K26 : Int → Int → zPH → Prop} (hK26 : ∀ (y0 y1 : Int) (σ : zPH), K26 y0 y1 σ → PW G zm_M_holds 2 X 26 [some (zr G 58), some (iZ mover), some (iZ y0), some (iZ y1), none] [] σ) {x2 x3 : Int} {σ : zPH} (h : b_M_holds_223 G mover X K26 x2 x3 σ) : PW G zm_M_holds 2 X 223 [some (zr G 58), some (iZ mover), some (iZ x2), some (iZ x3), none] [] σ := by
  unfold b_M_holds_223 at h
  refine PW_iinc zd_M_holds_223 rfl rfl (by decide) (ls2 := [_, _, _, _, _]) rfl ?_
  refine PW_goto zd_M_holds_226 ?_
  exact PW_sub (by exact ⟨rfl, rfl, rfl, rfl, trivial⟩) (hK26 _ _ _ h)
def b_M_holds_113 (G : zG) (mover : Int) (X : zX) (K26 : Int → Int → zPH → Prop) (x2 x3 s0 s1 : Int) (σ : zPH) : Prop :=
  (0 ≤ s1 ∧ s1 < 1700) ∧
  (s0 = 0 ∨ s0 = 1) ∧
  ∀ σ113 : zPH, σ113 = zupd σ 86 s1.toNat s0 →
  b_M_holds_223 G mover X K26 (x2 + 1) x3 σ113
set_option maxHeartbeats 4000000 in
theorem kb_M_holds_113 {G : zG} {mover : Int} {X : zX} {K26 : Int → Int → zPH → Prop} (hK26 : ∀ (y0 y1 : Int) (σ : zPH), K26 y0 y1 σ → PW G zm_M_holds 2 X 26 [some (zr G 58), some (iZ mover), some (iZ y0), some (iZ y1), none] [] σ) {x2 x3 s0 s1 : Int} {σ : zPH} (h : b_M_holds_113 G mover X K26 x2 x3 s0 s1 σ) : PW G zm_M_holds 2 X 113 [some (zr G 58), some (iZ mover), some (iZ x2), some (iZ x3), none] [iZ s0, iZ s1, zr G 86] σ := by
  unfold b_M_holds_113 at h
  obtain ⟨h0, h⟩ := h
  obtain ⟨h1, h⟩ := h
  refine PW_bastore zd_M_holds_113 (zs_86 _) h0 h1 ?_
  have h := h _ rfl
  refine PW_iinc zd_M_holds_114 rfl rfl (by decide) (ls2 := [_, _, _, _, _]) rfl ?_
  refine PW_goto zd_M_holds_117 ?_
  exact PW_sub (by exact ⟨rfl, rfl, rfl, rfl, trivial⟩) (kb_M_holds_223  hK26 h)
def b_M_holds_108 (G : zG) (mover : Int) (X : zX) (K26 : Int → Int → zPH → Prop) (x2 x3 s0 : Int) (σ : zPH) : Prop :=
  b_M_holds_113 G mover X K26 x2 x3 1 s0 σ
set_option maxHeartbeats 4000000 in
theorem kb_M_holds_108 {G : zG} {mover : Int} {X : zX} {K26 : Int → Int → zPH → Prop} (hK26 : ∀ (y0 y1 : Int) (σ : zPH), K26 y0 y1 σ → PW G zm_M_holds 2 X 26 [some (zr G 58), some (iZ mover), some (iZ y0), some (iZ y1), none] [] σ) {x2 x3 s0 : Int} {σ : zPH} (h : b_M_holds_108 G mover X K26 x2 x3 s0 σ) : PW G zm_M_holds 2 X 108 [some (zr G 58), some (iZ mover), some (iZ x2), some (iZ x3), none] [iZ s0, zr G 86] σ := by
  unfold b_M_holds_108 at h
  refine PW_iconst zd_M_holds_108 ?_
  refine PW_goto zd_M_holds_109 ?_
  exact PW_sub (by exact ⟨rfl, rfl, rfl, rfl, trivial⟩) (kb_M_holds_113  hK26 h)
def b_M_holds_72 (G : zG) (mover : Int) (X : zX) (K26 : Int → Int → zPH → Prop) (x2 x3 x4 : Int) (σ : zPH) : Prop :=
  (zI x4) ∧
  (x4 = 0 →
    b_M_holds_108 G mover X K26 x2 x3 x2 σ) ∧
  (x4 ≠ 0 →
    (0 ≤ x3 ∧ x3 < 3200) ∧
    MS G zm_M_seen 1 [zr G 58, iZ (σ 77 x3.toNat)] σ (fun v σ89 =>
      ∃ z89 : Int, v = some (iZ z89) ∧
      (0 ≤ x3 ∧ x3 < 3200) ∧
      (0 ≤ z89 ∧ 0 ≤ (σ89 76 x3.toNat)) ∧
      (0 ≤ x3 ∧ x3 < 3200) ∧
      (zI (zand z89 (σ89 76 x3.toNat)) ∧ zI (σ89 76 x3.toNat)) ∧
      ((zand z89 (σ89 76 x3.toNat)) ≠ (σ89 76 x3.toNat) →
        b_M_holds_113 G mover X K26 x2 x3 0 x2 σ89) ∧
      ((zand z89 (σ89 76 x3.toNat)) = (σ89 76 x3.toNat) →
        b_M_holds_108 G mover X K26 x2 x3 x2 σ89)))
set_option maxHeartbeats 4000000 in
theorem kb_M_holds_72 {G : zG} {mover : Int} {X : zX} {K26 : Int → Int → zPH → Prop} (hK26 : ∀ (y0 y1 : Int) (σ : zPH), K26 y0 y1 σ → PW G zm_M_holds 2 X 26 [some (zr G 58), some (iZ mover), some (iZ y0), some (iZ y1), none] [] σ) {x2 x3 x4 : Int} {σ : zPH} (h : b_M_holds_72 G mover X K26 x2 x3 x4 σ) : PW G zm_M_holds 2 X 72 [some (zr G 58), some (iZ mover), some (iZ x2), some (iZ x3), some (iZ x4)] [] σ := by
  unfold b_M_holds_72 at h
  refine PW_aload_n zd_M_holds_72 rfl ?_
  refine PW_getR zd_M_holds_73 zf_M_186 (zs_58 _) rfl ?_
  refine PW_iload_n zd_M_holds_76 rfl ?_
  refine PW_iload zd_M_holds_77 rfl ?_
  obtain ⟨h0, hT, hF⟩ := h
  refine PW_if_eq zd_M_holds_79 h0 (fun q => ?_) (fun q => ?_)
  · have h := hT q
    exact PW_sub (by exact ⟨rfl, rfl, rfl, rfl, trivial⟩) (kb_M_holds_108  hK26 h)
  · have h := hF q
    refine PW_aload_n zd_M_holds_82 rfl ?_
    refine PW_aload_n zd_M_holds_83 rfl ?_
    refine PW_getR zd_M_holds_84 zf_M_106 (zs_58 _) rfl ?_
    refine PW_iload_n zd_M_holds_87 rfl ?_
    obtain ⟨h0, h⟩ := h
    refine PW_iaload zd_M_holds_88 (zs_77 _) h0 ?_
    refine PW_callV1i zd_M_holds_89 zl_M_443 zk_M_seen zv_M_seen (fr' := 1) (by decide) (zs_58 _) rfl rfl (Nat.le_of_ble_eq_true rfl) ?_
    refine ms_mono h ?_
    rintro v σ1 ⟨z, rfl, h⟩
    refine ⟨z, rfl, ?_⟩
    refine PW_aload_n zd_M_holds_92 rfl ?_
    refine PW_getR zd_M_holds_93 zf_M_103 (zs_58 _) rfl ?_
    refine PW_iload_n zd_M_holds_96 rfl ?_
    obtain ⟨h0, h⟩ := h
    refine PW_iaload zd_M_holds_97 (zs_76 _) h0 ?_
    obtain ⟨h0, h⟩ := h
    refine PW_iand zd_M_holds_98 h0 ?_
    refine PW_aload_n zd_M_holds_99 rfl ?_
    refine PW_getR zd_M_holds_100 zf_M_103 (zs_58 _) rfl ?_
    refine PW_iload_n zd_M_holds_103 rfl ?_
    obtain ⟨h0, h⟩ := h
    refine PW_iaload zd_M_holds_104 (zs_76 _) h0 ?_
    obtain ⟨h0, hT, hF⟩ := h
    refine PW_icmp_ne zd_M_holds_105 h0 (fun q => ?_) (fun q => ?_)
    · have h := hT q
      refine PW_iconst zd_M_holds_112 ?_
      exact PW_sub (by exact ⟨rfl, rfl, rfl, rfl, trivial⟩) (kb_M_holds_113  hK26 h)
    · have h := hF q
      exact PW_sub (by exact ⟨rfl, rfl, rfl, rfl, trivial⟩) (kb_M_holds_108  hK26 h)
def b_M_holds_222 (G : zG) (mover : Int) (X : zX) (K26 : Int → Int → zPH → Prop) (x2 x3 s0 s1 : Int) (σ : zPH) : Prop :=
  (0 ≤ s1 ∧ s1 < 1700) ∧
  (s0 = 0 ∨ s0 = 1) ∧
  ∀ σ222 : zPH, σ222 = zupd σ 86 s1.toNat s0 →
  b_M_holds_223 G mover X K26 x2 x3 σ222
set_option maxHeartbeats 4000000 in
theorem kb_M_holds_222 {G : zG} {mover : Int} {X : zX} {K26 : Int → Int → zPH → Prop} (hK26 : ∀ (y0 y1 : Int) (σ : zPH), K26 y0 y1 σ → PW G zm_M_holds 2 X 26 [some (zr G 58), some (iZ mover), some (iZ y0), some (iZ y1), none] [] σ) {x2 x3 s0 s1 : Int} {σ : zPH} (h : b_M_holds_222 G mover X K26 x2 x3 s0 s1 σ) : PW G zm_M_holds 2 X 222 [some (zr G 58), some (iZ mover), some (iZ x2), some (iZ x3), none] [iZ s0, iZ s1, zr G 86] σ := by
  unfold b_M_holds_222 at h
  obtain ⟨h0, h⟩ := h
  obtain ⟨h1, h⟩ := h
  refine PW_bastore zd_M_holds_222 (zs_86 _) h0 h1 ?_
  have h := h _ rfl
  exact PW_sub (by exact ⟨rfl, rfl, rfl, rfl, trivial⟩) (kb_M_holds_223  hK26 h)
def b_M_holds_217 (G : zG) (mover : Int) (X : zX) (K26 : Int → Int → zPH → Prop) (x2 x3 s0 : Int) (σ : zPH) : Prop :=
  b_M_holds_222 G mover X K26 x2 x3 1 s0 σ
set_option maxHeartbeats 4000000 in
theorem kb_M_holds_217 {G : zG} {mover : Int} {X : zX} {K26 : Int → Int → zPH → Prop} (hK26 : ∀ (y0 y1 : Int) (σ : zPH), K26 y0 y1 σ → PW G zm_M_holds 2 X 26 [some (zr G 58), some (iZ mover), some (iZ y0), some (iZ y1), none] [] σ) {x2 x3 s0 : Int} {σ : zPH} (h : b_M_holds_217 G mover X K26 x2 x3 s0 σ) : PW G zm_M_holds 2 X 217 [some (zr G 58), some (iZ mover), some (iZ x2), some (iZ x3), none] [iZ s0, zr G 86] σ := by
  unfold b_M_holds_217 at h
  refine PW_iconst zd_M_holds_217 ?_
  refine PW_goto zd_M_holds_218 ?_
  exact PW_sub (by exact ⟨rfl, rfl, rfl, rfl, trivial⟩) (kb_M_holds_222  hK26 h)
def b_M_holds_193 (G : zG) (mover : Int) (X : zX) (K26 : Int → Int → zPH → Prop) (x2 x3 s0 : Int) (σ : zPH) : Prop :=
  b_M_holds_222 G mover X K26 x2 x3 0 s0 σ
set_option maxHeartbeats 4000000 in
theorem kb_M_holds_193 {G : zG} {mover : Int} {X : zX} {K26 : Int → Int → zPH → Prop} (hK26 : ∀ (y0 y1 : Int) (σ : zPH), K26 y0 y1 σ → PW G zm_M_holds 2 X 26 [some (zr G 58), some (iZ mover), some (iZ y0), some (iZ y1), none] [] σ) {x2 x3 s0 : Int} {σ : zPH} (h : b_M_holds_193 G mover X K26 x2 x3 s0 σ) : PW G zm_M_holds 2 X 193 [some (zr G 58), some (iZ mover), some (iZ x2), some (iZ x3), none] [iZ s0, zr G 86] σ := by
  unfold b_M_holds_193 at h
  refine PW_iconst zd_M_holds_193 ?_
  refine PW_goto zd_M_holds_194 ?_
  exact PW_sub (by exact ⟨rfl, rfl, rfl, rfl, trivial⟩) (kb_M_holds_222  hK26 h)
def b_M_holds_149 (G : zG) (mover : Int) (X : zX) (K26 : Int → Int → zPH → Prop) (x2 x3 s0 s1 : Int) (σ : zPH) : Prop :=
  (0 ≤ s1 ∧ s1 < 1700) ∧
  (s0 = 0 ∨ s0 = 1) ∧
  ∀ σ149 : zPH, σ149 = zupd σ 86 s1.toNat s0 →
  b_M_holds_223 G mover X K26 x2 x3 σ149
set_option maxHeartbeats 4000000 in
theorem kb_M_holds_149 {G : zG} {mover : Int} {X : zX} {K26 : Int → Int → zPH → Prop} (hK26 : ∀ (y0 y1 : Int) (σ : zPH), K26 y0 y1 σ → PW G zm_M_holds 2 X 26 [some (zr G 58), some (iZ mover), some (iZ y0), some (iZ y1), none] [] σ) {x2 x3 s0 s1 : Int} {σ : zPH} (h : b_M_holds_149 G mover X K26 x2 x3 s0 s1 σ) : PW G zm_M_holds 2 X 149 [some (zr G 58), some (iZ mover), some (iZ x2), some (iZ x3), none] [iZ s0, iZ s1, zr G 86] σ := by
  unfold b_M_holds_149 at h
  obtain ⟨h0, h⟩ := h
  obtain ⟨h1, h⟩ := h
  refine PW_bastore zd_M_holds_149 (zs_86 _) h0 h1 ?_
  have h := h _ rfl
  refine PW_goto zd_M_holds_150 ?_
  exact PW_sub (by exact ⟨rfl, rfl, rfl, rfl, trivial⟩) (kb_M_holds_223  hK26 h)
def b_M_holds_26 (G : zG) (mover : Int) (X : zX) (K26 : Int → Int → zPH → Prop) (x2 x3 : Int) (σ : zPH) : Prop :=
  (0 ≤ ((6 * (σ 58 13)) + mover) ∧ ((6 * (σ 58 13)) + mover) < 12) ∧
  (zI x3 ∧ zI ((1600 * (σ 58 13)) + (σ 74 ((6 * (σ 58 13)) + mover).toNat))) ∧
  (((1600 * (σ 58 13)) + (σ 74 ((6 * (σ 58 13)) + mover).toNat)) ≤ x3 →
    ((σ 86 0) = 0 ∨ (σ 86 0) = 1) ∧
    X (some (iZ (σ 86 0))) σ) ∧
  (x3 < ((1600 * (σ 58 13)) + (σ 74 ((6 * (σ 58 13)) + mover).toNat)) →
    (0 ≤ x3 ∧ x3 < 3200) ∧
    ∀ x4 : Int, x4 = (σ 75 x3.toNat) →
    (zI x4) ∧
    (x4 = 0 →
      b_M_holds_72 G mover X K26 x2 x3 x4 σ) ∧
    (x4 ≠ 0 →
      (zI x4) ∧
      (x4 ≠ 1 →
        (zI x4) ∧
        (x4 ≠ 4 →
          (zI x4) ∧
          (x4 ≠ 2 →
            (0 ≤ ((x2 + (-1)) - 1) ∧ ((x2 + (-1)) - 1) < 1700) ∧
            (zI (σ 86 ((x2 + (-1)) - 1).toNat)) ∧
            ((σ 86 ((x2 + (-1)) - 1).toNat) ≠ 0 →
              b_M_holds_217 G mover X K26 (x2 + (-1)) x3 ((x2 + (-1)) - 1) σ) ∧
            ((σ 86 ((x2 + (-1)) - 1).toNat) = 0 →
              (0 ≤ (x2 + (-1)) ∧ (x2 + (-1)) < 1700) ∧
              (zI (σ 86 (x2 + (-1)).toNat)) ∧
              ((σ 86 (x2 + (-1)).toNat) = 0 →
                b_M_holds_222 G mover X K26 (x2 + (-1)) x3 0 ((x2 + (-1)) - 1) σ) ∧
              ((σ 86 (x2 + (-1)).toNat) ≠ 0 →
                b_M_holds_217 G mover X K26 (x2 + (-1)) x3 ((x2 + (-1)) - 1) σ))) ∧
          (x4 = 2 →
            (0 ≤ ((x2 + (-1)) - 1) ∧ ((x2 + (-1)) - 1) < 1700) ∧
            (zI (σ 86 ((x2 + (-1)) - 1).toNat)) ∧
            ((σ 86 ((x2 + (-1)) - 1).toNat) = 0 →
              b_M_holds_193 G mover X K26 (x2 + (-1)) x3 ((x2 + (-1)) - 1) σ) ∧
            ((σ 86 ((x2 + (-1)) - 1).toNat) ≠ 0 →
              (0 ≤ (x2 + (-1)) ∧ (x2 + (-1)) < 1700) ∧
              (zI (σ 86 (x2 + (-1)).toNat)) ∧
              ((σ 86 (x2 + (-1)).toNat) = 0 →
                b_M_holds_193 G mover X K26 (x2 + (-1)) x3 ((x2 + (-1)) - 1) σ) ∧
              ((σ 86 (x2 + (-1)).toNat) ≠ 0 →
                b_M_holds_222 G mover X K26 (x2 + (-1)) x3 1 ((x2 + (-1)) - 1) σ)))) ∧
        (x4 = 4 →
          (0 ≤ (x2 - 1) ∧ (x2 - 1) < 1700) ∧
          (zI (σ 86 (x2 - 1).toNat)) ∧
          ((σ 86 (x2 - 1).toNat) ≠ 0 →
            b_M_holds_149 G mover X K26 x2 x3 0 (x2 - 1) σ) ∧
          ((σ 86 (x2 - 1).toNat) = 0 →
            b_M_holds_149 G mover X K26 x2 x3 1 (x2 - 1) σ))) ∧
      (x4 = 1 →
        b_M_holds_72 G mover X K26 x2 x3 x4 σ)))
set_option maxHeartbeats 4000000 in
theorem kb_M_holds_26 {G : zG} {mover : Int} {X : zX} {K26 : Int → Int → zPH → Prop} (hK26 : ∀ (y0 y1 : Int) (σ : zPH), K26 y0 y1 σ → PW G zm_M_holds 2 X 26 [some (zr G 58), some (iZ mover), some (iZ y0), some (iZ y1), none] [] σ) {x2 x3 : Int} {σ : zPH} (h : b_M_holds_26 G mover X K26 x2 x3 σ) : PW G zm_M_holds 2 X 26 [some (zr G 58), some (iZ mover), some (iZ x2), some (iZ x3), none] [] σ := by
  unfold b_M_holds_26 at h
  refine PW_iload_n zd_M_holds_26 rfl ?_
  refine PW_sipush zd_M_holds_27 rfl ?_
  refine PW_aload_n zd_M_holds_30 rfl ?_
  refine PW_getI zd_M_holds_31 zf_M_51 (zs_58 _) rfl ?_
  refine PW_imul zd_M_holds_34 ?_
  refine PW_aload_n zd_M_holds_35 rfl ?_
  refine PW_getR zd_M_holds_36 zf_M_97 (zs_58 _) rfl ?_
  refine PW_bipush zd_M_holds_39 rfl ?_
  refine PW_aload_n zd_M_holds_41 rfl ?_
  refine PW_getI zd_M_holds_42 zf_M_51 (zs_58 _) rfl ?_
  refine PW_imul zd_M_holds_45 ?_
  refine PW_iload_n zd_M_holds_46 rfl ?_
  refine PW_iadd zd_M_holds_47 ?_
  obtain ⟨h0, h⟩ := h
  refine PW_iaload zd_M_holds_48 (zs_74 _) h0 ?_
  refine PW_iadd zd_M_holds_49 ?_
  obtain ⟨h0, hT, hF⟩ := h
  refine PW_icmp_ge zd_M_holds_50 h0 (fun q => ?_) (fun q => ?_)
  · have h := hT q
    refine PW_aload_n zd_M_holds_229 rfl ?_
    refine PW_getR zd_M_holds_230 zf_M_186 (zs_58 _) rfl ?_
    refine PW_iconst zd_M_holds_233 ?_
    refine PW_baload zd_M_holds_234 (zs_86 _) (by decide) ?_
    exact PW_zret zd_M_holds_235 rfl h.1 h.2
  · have h := hF q
    refine PW_aload_n zd_M_holds_53 rfl ?_
    refine PW_getR zd_M_holds_54 zf_M_100 (zs_58 _) rfl ?_
    refine PW_iload_n zd_M_holds_57 rfl ?_
    obtain ⟨h0, h⟩ := h
    refine PW_iaload zd_M_holds_58 (zs_75 _) h0 ?_
    refine PW_istore zd_M_holds_59 rfl (by decide) (ls2 := [_, _, _, _, _]) rfl ?_
    have h := h _ rfl
    refine PW_iload zd_M_holds_61 rfl ?_
    obtain ⟨h0, hT, hF⟩ := h
    refine PW_if_eq zd_M_holds_63 h0 (fun q => ?_) (fun q => ?_)
    · have h := hT q
      exact PW_sub (by exact ⟨rfl, rfl, rfl, rfl, rfl, trivial⟩) (kb_M_holds_72  hK26 h)
    · have h := hF q
      refine PW_iload zd_M_holds_66 rfl ?_
      refine PW_iconst zd_M_holds_68 ?_
      obtain ⟨h0, hT, hF⟩ := h
      refine PW_icmp_ne zd_M_holds_69 ⟨h0, by decide⟩ (fun q => ?_) (fun q => ?_)
      · have h := hT q
        refine PW_iload zd_M_holds_120 rfl ?_
        refine PW_iconst zd_M_holds_122 ?_
        obtain ⟨h0, hT, hF⟩ := h
        refine PW_icmp_ne zd_M_holds_123 ⟨h0, by decide⟩ (fun q => ?_) (fun q => ?_)
        · have h := hT q
          refine PW_iinc zd_M_holds_153 rfl rfl (by decide) (ls2 := [_, _, _, _, _]) rfl ?_
          refine PW_aload_n zd_M_holds_156 rfl ?_
          refine PW_getR zd_M_holds_157 zf_M_186 (zs_58 _) rfl ?_
          refine PW_iload_n zd_M_holds_160 rfl ?_
          refine PW_iconst zd_M_holds_161 ?_
          refine PW_isub zd_M_holds_162 ?_
          refine PW_iload zd_M_holds_163 rfl ?_
          refine PW_iconst zd_M_holds_165 ?_
          obtain ⟨h0, hT, hF⟩ := h
          refine PW_icmp_ne zd_M_holds_166 ⟨h0, by decide⟩ (fun q => ?_) (fun q => ?_)
          · have h := hT q
            refine PW_aload_n zd_M_holds_197 rfl ?_
            refine PW_getR zd_M_holds_198 zf_M_186 (zs_58 _) rfl ?_
            refine PW_iload_n zd_M_holds_201 rfl ?_
            refine PW_iconst zd_M_holds_202 ?_
            refine PW_isub zd_M_holds_203 ?_
            obtain ⟨h0, h⟩ := h
            refine PW_baload zd_M_holds_204 (zs_86 _) h0 ?_
            obtain ⟨h0, hT, hF⟩ := h
            refine PW_if_ne zd_M_holds_205 h0 (fun q => ?_) (fun q => ?_)
            · have h := hT q
              exact PW_sub (by exact ⟨rfl, rfl, rfl, rfl, trivial⟩) (kb_M_holds_217  hK26 h)
            · have h := hF q
              refine PW_aload_n zd_M_holds_208 rfl ?_
              refine PW_getR zd_M_holds_209 zf_M_186 (zs_58 _) rfl ?_
              refine PW_iload_n zd_M_holds_212 rfl ?_
              obtain ⟨h0, h⟩ := h
              refine PW_baload zd_M_holds_213 (zs_86 _) h0 ?_
              obtain ⟨h0, hT, hF⟩ := h
              refine PW_if_eq zd_M_holds_214 h0 (fun q => ?_) (fun q => ?_)
              · have h := hT q
                refine PW_iconst zd_M_holds_221 ?_
                exact PW_sub (by exact ⟨rfl, rfl, rfl, rfl, trivial⟩) (kb_M_holds_222  hK26 h)
              · have h := hF q
                exact PW_sub (by exact ⟨rfl, rfl, rfl, rfl, trivial⟩) (kb_M_holds_217  hK26 h)
          · have h := hF q
            refine PW_aload_n zd_M_holds_169 rfl ?_
            refine PW_getR zd_M_holds_170 zf_M_186 (zs_58 _) rfl ?_
            refine PW_iload_n zd_M_holds_173 rfl ?_
            refine PW_iconst zd_M_holds_174 ?_
            refine PW_isub zd_M_holds_175 ?_
            obtain ⟨h0, h⟩ := h
            refine PW_baload zd_M_holds_176 (zs_86 _) h0 ?_
            obtain ⟨h0, hT, hF⟩ := h
            refine PW_if_eq zd_M_holds_177 h0 (fun q => ?_) (fun q => ?_)
            · have h := hT q
              exact PW_sub (by exact ⟨rfl, rfl, rfl, rfl, trivial⟩) (kb_M_holds_193  hK26 h)
            · have h := hF q
              refine PW_aload_n zd_M_holds_180 rfl ?_
              refine PW_getR zd_M_holds_181 zf_M_186 (zs_58 _) rfl ?_
              refine PW_iload_n zd_M_holds_184 rfl ?_
              obtain ⟨h0, h⟩ := h
              refine PW_baload zd_M_holds_185 (zs_86 _) h0 ?_
              obtain ⟨h0, hT, hF⟩ := h
              refine PW_if_eq zd_M_holds_186 h0 (fun q => ?_) (fun q => ?_)
              · have h := hT q
                exact PW_sub (by exact ⟨rfl, rfl, rfl, rfl, trivial⟩) (kb_M_holds_193  hK26 h)
              · have h := hF q
                refine PW_iconst zd_M_holds_189 ?_
                refine PW_goto zd_M_holds_190 ?_
                exact PW_sub (by exact ⟨rfl, rfl, rfl, rfl, trivial⟩) (kb_M_holds_222  hK26 h)
        · have h := hF q
          refine PW_aload_n zd_M_holds_126 rfl ?_
          refine PW_getR zd_M_holds_127 zf_M_186 (zs_58 _) rfl ?_
          refine PW_iload_n zd_M_holds_130 rfl ?_
          refine PW_iconst zd_M_holds_131 ?_
          refine PW_isub zd_M_holds_132 ?_
          refine PW_aload_n zd_M_holds_133 rfl ?_
          refine PW_getR zd_M_holds_134 zf_M_186 (zs_58 _) rfl ?_
          refine PW_iload_n zd_M_holds_137 rfl ?_
          refine PW_iconst zd_M_holds_138 ?_
          refine PW_isub zd_M_holds_139 ?_
          obtain ⟨h0, h⟩ := h
          refine PW_baload zd_M_holds_140 (zs_86 _) h0 ?_
          obtain ⟨h0, hT, hF⟩ := h
          refine PW_if_ne zd_M_holds_141 h0 (fun q => ?_) (fun q => ?_)
          · have h := hT q
            refine PW_iconst zd_M_holds_148 ?_
            exact PW_sub (by exact ⟨rfl, rfl, rfl, rfl, trivial⟩) (kb_M_holds_149  hK26 h)
          · have h := hF q
            refine PW_iconst zd_M_holds_144 ?_
            refine PW_goto zd_M_holds_145 ?_
            exact PW_sub (by exact ⟨rfl, rfl, rfl, rfl, trivial⟩) (kb_M_holds_149  hK26 h)
      · have h := hF q
        exact PW_sub (by exact ⟨rfl, rfl, rfl, rfl, rfl, trivial⟩) (kb_M_holds_72  hK26 h)
theorem kl_M_holds_26 {G : zG} {mover : Int} {X : zX} {x2 x3 : Int} {σ : zPH} (h : zLP2 (b_M_holds_26 G mover X ) x2 x3 σ) : PW G zm_M_holds 2 X 26 [some (zr G 58), some (iZ mover), some (iZ x2), some (iZ x3), none] [] σ := by
  obtain ⟨n, h⟩ := h
  induction n generalizing x2 x3 σ with
  | zero => exact h.elim
  | succ n ih => exact kb_M_holds_26   (fun _ _ _ h => ih h) h
def w_M_holds (G : zG) (mover : Int) (X : zX) (σ : zPH) : Prop :=
  (0 ≤ ((6 * (σ 58 13)) + mover) ∧ ((6 * (σ 58 13)) + mover) < 12) ∧
  ∀ x3 : Int, x3 = ((1600 * (σ 58 13)) + (σ 73 ((6 * (σ 58 13)) + mover).toNat)) →
  zLP2 (b_M_holds_26 G mover X ) 0 x3 σ
set_option maxHeartbeats 4000000 in
theorem k_M_holds {G : zG} {mover : Int} {X : zX} {σ : zPH} (h : w_M_holds G mover X σ) : MS G zm_M_holds 2 [zr G 58, iZ mover] σ X := by
  refine ms_of zk_M_holds (Nat.le_of_ble_eq_true rfl) (ls := [some (zr G 58), some (iZ mover), none, none, none]) rfl ?_
  unfold w_M_holds at h
  refine PW_iconst zd_M_holds_0 ?_
  refine PW_istore_n zd_M_holds_1 rfl (by decide) (ls2 := [_, _, _, _, _]) rfl ?_
  refine PW_sipush zd_M_holds_2 rfl ?_
  refine PW_aload_n zd_M_holds_5 rfl ?_
  refine PW_getI zd_M_holds_6 zf_M_51 (zs_58 _) rfl ?_
  refine PW_imul zd_M_holds_9 ?_
  refine PW_aload_n zd_M_holds_10 rfl ?_
  refine PW_getR zd_M_holds_11 zf_M_94 (zs_58 _) rfl ?_
  refine PW_bipush zd_M_holds_14 rfl ?_
  refine PW_aload_n zd_M_holds_16 rfl ?_
  refine PW_getI zd_M_holds_17 zf_M_51 (zs_58 _) rfl ?_
  refine PW_imul zd_M_holds_20 ?_
  refine PW_iload_n zd_M_holds_21 rfl ?_
  refine PW_iadd zd_M_holds_22 ?_
  obtain ⟨h0, h⟩ := h
  refine PW_iaload zd_M_holds_23 (zs_73 _) h0 ?_
  refine PW_iadd zd_M_holds_24 ?_
  refine PW_istore_n zd_M_holds_25 rfl (by decide) (ls2 := [_, _, _, _, _]) rfl ?_
  have h := h _ rfl
  exact PW_sub (by exact ⟨rfl, rfl, rfl, rfl, trivial⟩) (kl_M_holds_26   h)
def b_M_stepped_112 (G : zG) (st : Int) (X : zX) (K52 : Int → Int → Int → zPH → Prop) (x2 x4 s0 s1 : Int) (σ : zPH) : Prop :=
  (0 ≤ s1 ∧ 0 ≤ s0) ∧
  ∀ x3 : Int, x3 = (zor s1 s0) →
  K52 x2 x3 (x4 + 1) σ
set_option maxHeartbeats 4000000 in
theorem kb_M_stepped_112 {G : zG} {st : Int} {X : zX} {K52 : Int → Int → Int → zPH → Prop} (hK52 : ∀ (y0 y1 y2 : Int) (σ : zPH), K52 y0 y1 y2 σ → PW G zm_M_stepped 5 X 52 [some (zr G 58), some (iZ st), some (iZ y0), some (iZ y1), some (iZ y2), none] [] σ) {x2 x4 s0 s1 : Int} {σ : zPH} (h : b_M_stepped_112 G st X K52 x2 x4 s0 s1 σ) : PW G zm_M_stepped 5 X 112 [some (zr G 58), some (iZ st), some (iZ x2), none, some (iZ x4), none] [iZ s0, iZ s1] σ := by
  unfold b_M_stepped_112 at h
  obtain ⟨h0, h⟩ := h
  refine PW_ior zd_M_stepped_112 h0 ?_
  refine PW_istore_n zd_M_stepped_113 rfl (by decide) (ls2 := [_, _, _, _, _, _]) rfl ?_
  have h := h _ rfl
  refine PW_iinc zd_M_stepped_114 rfl rfl (by decide) (ls2 := [_, _, _, _, _, _]) rfl ?_
  refine PW_goto zd_M_stepped_117 ?_
  exact PW_sub (by exact ⟨rfl, rfl, rfl, rfl, rfl, trivial⟩) (hK52 _ _ _ _ h)
def b_M_stepped_96 (G : zG) (st : Int) (X : zX) (K52 : Int → Int → Int → zPH → Prop) (x2 x3 x4 s0 : Int) (σ : zPH) : Prop :=
  (zI s0) ∧
  (s0 = 0 →
    b_M_stepped_112 G st X K52 x2 x4 0 x3 σ) ∧
  (s0 ≠ 0 →
    (0 ≤ x4 ∧ x4 < 32) ∧
    b_M_stepped_112 G st X K52 x2 x4 ((1 : Int) * 2 ^ x4.toNat) x3 σ)
set_option maxHeartbeats 4000000 in
theorem kb_M_stepped_96 {G : zG} {st : Int} {X : zX} {K52 : Int → Int → Int → zPH → Prop} (hK52 : ∀ (y0 y1 y2 : Int) (σ : zPH), K52 y0 y1 y2 σ → PW G zm_M_stepped 5 X 52 [some (zr G 58), some (iZ st), some (iZ y0), some (iZ y1), some (iZ y2), none] [] σ) {x2 x3 x4 s0 : Int} {σ : zPH} (h : b_M_stepped_96 G st X K52 x2 x3 x4 s0 σ) : PW G zm_M_stepped 5 X 96 [some (zr G 58), some (iZ st), some (iZ x2), some (iZ x3), some (iZ x4), none] [iZ s0] σ := by
  unfold b_M_stepped_96 at h
  refine PW_istore zd_M_stepped_96 rfl (by decide) (ls2 := [_, _, _, _, _, _]) rfl ?_
  refine PW_iload_n zd_M_stepped_98 rfl ?_
  refine PW_iload zd_M_stepped_99 rfl ?_
  obtain ⟨h0, hT, hF⟩ := h
  refine PW_if_eq zd_M_stepped_101 h0 (fun q => ?_) (fun q => ?_)
  · have h := hT q
    refine PW_iconst zd_M_stepped_111 ?_
    exact PW_sub (by exact ⟨rfl, rfl, rfl, rfl, trivial⟩) (kb_M_stepped_112  hK52 h)
  · have h := hF q
    refine PW_iconst zd_M_stepped_104 ?_
    refine PW_iload zd_M_stepped_105 rfl ?_
    obtain ⟨h0, h⟩ := h
    refine PW_ishl zd_M_stepped_107 h0 ?_
    refine PW_goto zd_M_stepped_108 ?_
    exact PW_sub (by exact ⟨rfl, rfl, rfl, rfl, trivial⟩) (kb_M_stepped_112  hK52 h)
def b_M_stepped_52 (G : zG) (st : Int) (X : zX) (K52 : Int → Int → Int → zPH → Prop) (x2 x3 x4 : Int) (σ : zPH) : Prop :=
  (0 ≤ (σ 58 13) ∧ (σ 58 13) < 2) ∧
  (zI x4 ∧ zI (σ 65 (σ 58 13).toNat)) ∧
  ((σ 65 (σ 58 13).toNat) ≤ x4 →
    X (some (iZ x3)) σ) ∧
  (x4 < (σ 65 (σ 58 13).toNat) →
    (zI x4 ∧ zI x2) ∧
    (x4 ≠ x2 →
      MS G zm_M_holds 2 [zr G 58, iZ x4] σ (fun v σ93 =>
        ∃ z93 : Int, (z93 = 0 ∨ z93 = 1) ∧ v = some (iZ z93) ∧
        b_M_stepped_96 G st X K52 x2 x3 x4 z93 σ93)) ∧
    (x4 = x2 →
      (zI st ∧ 0 ≤ x4 ∧ x4 < 32) ∧
      (zI ((st / 2 ^ x4.toNat) % 2)) ∧
      (((st / 2 ^ x4.toNat) % 2) ≠ 1 →
        b_M_stepped_96 G st X K52 x2 x3 x4 0 σ) ∧
      (((st / 2 ^ x4.toNat) % 2) = 1 →
        b_M_stepped_96 G st X K52 x2 x3 x4 1 σ)))
set_option maxHeartbeats 4000000 in
theorem kb_M_stepped_52 {G : zG} {st : Int} {X : zX} {K52 : Int → Int → Int → zPH → Prop} (hK52 : ∀ (y0 y1 y2 : Int) (σ : zPH), K52 y0 y1 y2 σ → PW G zm_M_stepped 5 X 52 [some (zr G 58), some (iZ st), some (iZ y0), some (iZ y1), some (iZ y2), none] [] σ) {x2 x3 x4 : Int} {σ : zPH} (h : b_M_stepped_52 G st X K52 x2 x3 x4 σ) : PW G zm_M_stepped 5 X 52 [some (zr G 58), some (iZ st), some (iZ x2), some (iZ x3), some (iZ x4), none] [] σ := by
  unfold b_M_stepped_52 at h
  refine PW_iload zd_M_stepped_52 rfl ?_
  refine PW_aload_n zd_M_stepped_54 rfl ?_
  refine PW_getR zd_M_stepped_55 zf_M_69 (zs_58 _) rfl ?_
  refine PW_aload_n zd_M_stepped_58 rfl ?_
  refine PW_getI zd_M_stepped_59 zf_M_51 (zs_58 _) rfl ?_
  obtain ⟨h0, h⟩ := h
  refine PW_iaload zd_M_stepped_62 (zs_65 _) h0 ?_
  obtain ⟨h0, hT, hF⟩ := h
  refine PW_icmp_ge zd_M_stepped_63 h0 (fun q => ?_) (fun q => ?_)
  · have h := hT q
    refine PW_iload_n zd_M_stepped_120 rfl ?_
    exact PW_iret zd_M_stepped_121 rfl h
  · have h := hF q
    refine PW_iload zd_M_stepped_66 rfl ?_
    refine PW_iload_n zd_M_stepped_68 rfl ?_
    obtain ⟨h0, hT, hF⟩ := h
    refine PW_icmp_ne zd_M_stepped_69 h0 (fun q => ?_) (fun q => ?_)
    · have h := hT q
      refine PW_aload_n zd_M_stepped_90 rfl ?_
      refine PW_iload zd_M_stepped_91 rfl ?_
      refine PW_callV1i zd_M_stepped_93 zl_M_461 zk_M_holds zv_M_holds (fr' := 2) (by decide) (zs_58 _) rfl rfl (Nat.le_of_ble_eq_true rfl) ?_
      refine ms_mono h ?_
      rintro v σ1 ⟨z, hz, rfl, h⟩
      refine ⟨z, rfl, ?_⟩
      exact PW_sub (by exact ⟨rfl, rfl, rfl, rfl, rfl, trivial⟩) (kb_M_stepped_96  hK52 h)
    · have h := hF q
      refine PW_iload_n zd_M_stepped_72 rfl ?_
      refine PW_iload zd_M_stepped_73 rfl ?_
      obtain ⟨h0, h⟩ := h
      refine PW_ishr zd_M_stepped_75 h0 ?_
      refine PW_iconst zd_M_stepped_76 ?_
      refine PW_iandm1 zd_M_stepped_77 ?_
      refine PW_iconst zd_M_stepped_78 ?_
      obtain ⟨h0, hT, hF⟩ := h
      refine PW_icmp_ne zd_M_stepped_79 ⟨h0, by decide⟩ (fun q => ?_) (fun q => ?_)
      · have h := hT q
        refine PW_iconst zd_M_stepped_86 ?_
        refine PW_goto zd_M_stepped_87 ?_
        exact PW_sub (by exact ⟨rfl, rfl, rfl, rfl, rfl, trivial⟩) (kb_M_stepped_96  hK52 h)
      · have h := hF q
        refine PW_iconst zd_M_stepped_82 ?_
        refine PW_goto zd_M_stepped_83 ?_
        exact PW_sub (by exact ⟨rfl, rfl, rfl, rfl, rfl, trivial⟩) (kb_M_stepped_96  hK52 h)
theorem kl_M_stepped_52 {G : zG} {st : Int} {X : zX} {x2 x3 x4 : Int} {σ : zPH} (h : zLP3 (b_M_stepped_52 G st X ) x2 x3 x4 σ) : PW G zm_M_stepped 5 X 52 [some (zr G 58), some (iZ st), some (iZ x2), some (iZ x3), some (iZ x4), none] [] σ := by
  obtain ⟨n, h⟩ := h
  induction n generalizing x2 x3 x4 σ with
  | zero => exact h.elim
  | succ n ih => exact kb_M_stepped_52   (fun _ _ _ _ h => ih h) h
def b_M_stepped_47 (G : zG) (st : Int) (X : zX) (x2 : Int) (σ : zPH) : Prop :=
  zLP3 (b_M_stepped_52 G st X ) x2 0 0 σ
set_option maxHeartbeats 4000000 in
theorem kb_M_stepped_47 {G : zG} {st : Int} {X : zX} {x2 : Int} {σ : zPH} (h : b_M_stepped_47 G st X  x2 σ) : PW G zm_M_stepped 5 X 47 [some (zr G 58), some (iZ st), some (iZ x2), none, none, none] [] σ := by
  unfold b_M_stepped_47 at h
  refine PW_iconst zd_M_stepped_47 ?_
  refine PW_istore_n zd_M_stepped_48 rfl (by decide) (ls2 := [_, _, _, _, _, _]) rfl ?_
  refine PW_iconst zd_M_stepped_49 ?_
  refine PW_istore zd_M_stepped_50 rfl (by decide) (ls2 := [_, _, _, _, _, _]) rfl ?_
  exact PW_sub (by exact ⟨rfl, rfl, rfl, rfl, rfl, trivial⟩) (kl_M_stepped_52   h)
def w_M_stepped (G : zG) (st : Int) (X : zX) (σ : zPH) : Prop :=
  MS G zm_M_shines 4 [zr G 58, iZ st] σ (fun v σ2 =>
    v = none ∧
    (zI (σ2 58 45)) ∧
    ((σ2 58 45) = (-1) →
      b_M_stepped_47 G st X  (-1) σ2) ∧
    ((σ2 58 45) ≠ (-1) →
      (0 ≤ ((144 * (σ2 58 13)) + (σ2 58 45)) ∧ ((144 * (σ2 58 13)) + (σ2 58 45)) < 288) ∧
      (zI (σ2 67 ((144 * (σ2 58 13)) + (σ2 58 45)).toNat)) ∧
      ((σ2 67 ((144 * (σ2 58 13)) + (σ2 58 45)).toNat) < 8 →
        b_M_stepped_47 G st X  (-1) σ2) ∧
      (8 ≤ (σ2 67 ((144 * (σ2 58 13)) + (σ2 58 45)).toNat) →
        MS G zm_M_numberAt 1 [zr G 58, iZ (σ2 58 45)] σ2 (fun v σ43 =>
          ∃ z43 : Int, v = some (iZ z43) ∧
          b_M_stepped_47 G st X  z43 σ43))))
set_option maxHeartbeats 4000000 in
theorem k_M_stepped {G : zG} {st : Int} {X : zX} {σ : zPH} (h : w_M_stepped G st X σ) : MS G zm_M_stepped 5 [zr G 58, iZ st] σ X := by
  refine ms_of zk_M_stepped (Nat.le_of_ble_eq_true rfl) (ls := [some (zr G 58), some (iZ st), none, none, none, none]) rfl ?_
  unfold w_M_stepped at h
  refine PW_aload_n zd_M_stepped_0 rfl ?_
  refine PW_iload_n zd_M_stepped_1 rfl ?_
  refine PW_callV1v zd_M_stepped_2 zl_M_458 zk_M_shines zv_M_shines (fr' := 4) (by decide) (zs_58 _) rfl rfl (Nat.le_of_ble_eq_true rfl) ?_
  refine ms_mono h ?_
  rintro v σ1 ⟨rfl, h⟩
  refine ⟨rfl, ?_⟩
  refine PW_iconst zd_M_stepped_5 ?_
  refine PW_istore_n zd_M_stepped_6 rfl (by decide) (ls2 := [_, _, _, _, _, _]) rfl ?_
  refine PW_aload_n zd_M_stepped_7 rfl ?_
  refine PW_getI zd_M_stepped_8 zf_M_150 (zs_58 _) rfl ?_
  refine PW_iconst zd_M_stepped_11 ?_
  obtain ⟨h0, hT, hF⟩ := h
  refine PW_icmp_eq zd_M_stepped_12 ⟨h0, by decide⟩ (fun q => ?_) (fun q => ?_)
  · have h := hT q
    exact PW_sub (by exact ⟨rfl, rfl, rfl, trivial⟩) (kb_M_stepped_47   h)
  · have h := hF q
    refine PW_aload_n zd_M_stepped_15 rfl ?_
    refine PW_getR zd_M_stepped_16 zf_M_75 (zs_58 _) rfl ?_
    refine PW_sipush zd_M_stepped_19 rfl ?_
    refine PW_aload_n zd_M_stepped_22 rfl ?_
    refine PW_getI zd_M_stepped_23 zf_M_51 (zs_58 _) rfl ?_
    refine PW_imul zd_M_stepped_26 ?_
    refine PW_aload_n zd_M_stepped_27 rfl ?_
    refine PW_getI zd_M_stepped_28 zf_M_150 (zs_58 _) rfl ?_
    refine PW_iadd zd_M_stepped_31 ?_
    obtain ⟨h0, h⟩ := h
    refine PW_iaload zd_M_stepped_32 (zs_67 _) h0 ?_
    refine PW_bipush zd_M_stepped_33 rfl ?_
    obtain ⟨h0, hT, hF⟩ := h
    refine PW_icmp_lt zd_M_stepped_35 ⟨h0, by decide⟩ (fun q => ?_) (fun q => ?_)
    · have h := hT q
      exact PW_sub (by exact ⟨rfl, rfl, rfl, trivial⟩) (kb_M_stepped_47   h)
    · have h := hF q
      refine PW_aload_n zd_M_stepped_38 rfl ?_
      refine PW_aload_n zd_M_stepped_39 rfl ?_
      refine PW_getI zd_M_stepped_40 zf_M_150 (zs_58 _) rfl ?_
      refine PW_callV1i zd_M_stepped_43 zl_M_417 zk_M_numberAt zv_M_numberAt (fr' := 1) (by decide) (zs_58 _) rfl rfl (Nat.le_of_ble_eq_true rfl) ?_
      refine ms_mono h ?_
      rintro v σ1 ⟨z, rfl, h⟩
      refine ⟨z, rfl, ?_⟩
      refine PW_istore_n zd_M_stepped_46 rfl (by decide) (ls2 := [_, _, _, _, _, _]) rfl ?_
      exact PW_sub (by exact ⟨rfl, rfl, rfl, trivial⟩) (kb_M_stepped_47   h)
def b_M_step_20 (G : zG) (n : Int) (X : zX) (K20 : Int → Int → zPH → Prop) (x2 x3 : Int) (σ : zPH) : Prop :=
  (zI x3 ∧ zI n) ∧
  (n ≤ x3 →
    (zI (σ 58 43) ∧ zI x2) ∧
    ((σ 58 43) = x2 →
      X (some (iZ (σ 58 43))) σ) ∧
    ((σ 58 43) ≠ x2 →
      MS G zm_M_remembers 0 [zr G 58, iZ (σ 58 42), iZ x2] σ (fun v σ57 =>
        v = none ∧
        X (some (iZ (σ57 58 43))) σ57))) ∧
  (x3 < n →
    MS G zm_M_stepped 5 [zr G 58, iZ (σ 58 43)] σ (fun v σ31 =>
      ∃ z31 : Int, v = some (iZ z31) ∧
      ∀ σ34 : zPH, σ34 = zupd σ31 58 43 z31 →
      K20 x2 (x3 + 1) σ34))
set_option maxHeartbeats 4000000 in
theorem kb_M_step_20 {G : zG} {n : Int} {X : zX} {K20 : Int → Int → zPH → Prop} (hK20 : ∀ (y0 y1 : Int) (σ : zPH), K20 y0 y1 σ → PW G zm_M_step 6 X 20 [some (zr G 58), some (iZ n), some (iZ y0), some (iZ y1)] [] σ) {x2 x3 : Int} {σ : zPH} (h : b_M_step_20 G n X K20 x2 x3 σ) : PW G zm_M_step 6 X 20 [some (zr G 58), some (iZ n), some (iZ x2), some (iZ x3)] [] σ := by
  unfold b_M_step_20 at h
  refine PW_iload_n zd_M_step_20 rfl ?_
  refine PW_iload_n zd_M_step_21 rfl ?_
  obtain ⟨h0, hT, hF⟩ := h
  refine PW_icmp_ge zd_M_step_22 h0 (fun q => ?_) (fun q => ?_)
  · have h := hT q
    refine PW_aload_n zd_M_step_43 rfl ?_
    refine PW_getI zd_M_step_44 zf_M_144 (zs_58 _) rfl ?_
    refine PW_iload_n zd_M_step_47 rfl ?_
    obtain ⟨h0, hT, hF⟩ := h
    refine PW_icmp_eq zd_M_step_48 h0 (fun q => ?_) (fun q => ?_)
    · have h := hT q
      refine PW_aload_n zd_M_step_60 rfl ?_
      refine PW_getI zd_M_step_61 zf_M_144 (zs_58 _) rfl ?_
      exact PW_iret zd_M_step_64 rfl h
    · have h := hF q
      refine PW_aload_n zd_M_step_51 rfl ?_
      refine PW_aload_n zd_M_step_52 rfl ?_
      refine PW_getI zd_M_step_53 zf_M_141 (zs_58 _) rfl ?_
      refine PW_iload_n zd_M_step_56 rfl ?_
      refine PW_callV2v zd_M_step_57 zl_M_449 zk_M_remembers zv_M_remembers (fr' := 0) (by decide) (zs_58 _) rfl rfl (Nat.le_of_ble_eq_true rfl) ?_
      refine ms_mono h ?_
      rintro v σ1 ⟨rfl, h⟩
      refine ⟨rfl, ?_⟩
      refine PW_aload_n zd_M_step_60 rfl ?_
      refine PW_getI zd_M_step_61 zf_M_144 (zs_58 _) rfl ?_
      exact PW_iret zd_M_step_64 rfl h
  · have h := hF q
    refine PW_aload_n zd_M_step_25 rfl ?_
    refine PW_aload_n zd_M_step_26 rfl ?_
    refine PW_aload_n zd_M_step_27 rfl ?_
    refine PW_getI zd_M_step_28 zf_M_144 (zs_58 _) rfl ?_
    refine PW_callV1i zd_M_step_31 zl_M_464 zk_M_stepped zv_M_stepped (fr' := 5) (by decide) (zs_58 _) rfl rfl (Nat.le_of_ble_eq_true rfl) ?_
    refine ms_mono h ?_
    rintro v σ1 ⟨z, rfl, h⟩
    refine ⟨z, rfl, ?_⟩
    refine PW_putI zd_M_step_34 zp_M_144 (zs_58 _) rfl ?_
    have h := h _ rfl
    refine PW_iinc zd_M_step_37 rfl rfl (by decide) (ls2 := [_, _, _, _]) rfl ?_
    refine PW_goto zd_M_step_40 ?_
    exact PW_sub (by exact ⟨rfl, rfl, rfl, rfl, trivial⟩) (hK20 _ _ _ h)
theorem kl_M_step_20 {G : zG} {n : Int} {X : zX} {x2 x3 : Int} {σ : zPH} (h : zLP2 (b_M_step_20 G n X ) x2 x3 σ) : PW G zm_M_step 6 X 20 [some (zr G 58), some (iZ n), some (iZ x2), some (iZ x3)] [] σ := by
  obtain ⟨n, h⟩ := h
  induction n generalizing x2 x3 σ with
  | zero => exact h.elim
  | succ n ih => exact kb_M_step_20   (fun _ _ _ h => ih h) h
def w_M_step (G : zG) (n : Int) (X : zX) (σ : zPH) : Prop :=
  MS G zm_M_is 0 [iZ n, iZ 0, iZ 1000] σ (fun v σ5 =>
    (v = some (iZ 0) ∧
      X (some (iZ (-1))) σ5) ∨
    (v = some (iZ 1) ∧
      ∀ x2 : Int, x2 = (σ5 58 43) →
      zLP2 (b_M_step_20 G n X ) x2 0 σ5))
set_option maxHeartbeats 4000000 in
theorem k_M_step {G : zG} {n : Int} {X : zX} {σ : zPH} (h : w_M_step G n X σ) : MS G zm_M_step 6 [zr G 58, iZ n] σ X := by
  refine ms_of zk_M_step (Nat.le_of_ble_eq_true rfl) (ls := [some (zr G 58), some (iZ n), none, none]) rfl ?_
  unfold w_M_step at h
  refine PW_iload_n zd_M_step_0 rfl ?_
  refine PW_iconst zd_M_step_1 ?_
  refine PW_sipush zd_M_step_2 rfl ?_
  refine PW_callS3i zd_M_step_5 zl_M_320 zk_M_is zv_M_is (fr' := 0) (by decide) (Nat.le_of_ble_eq_true rfl) ?_
  refine ms_mono h ?_
  rintro v σ1 (⟨rfl, h⟩ | ⟨rfl, h⟩)
  · refine ⟨0, rfl, ?_⟩
    refine PW_if_ne zd_M_step_8 (by decide) (fun q => absurd rfl q) (fun _ => ?_)
    refine PW_iconst zd_M_step_11 ?_
    exact PW_iret zd_M_step_12 rfl h
  · refine ⟨1, rfl, ?_⟩
    refine PW_if_ne zd_M_step_8 (by decide) (fun _ => ?_) (fun q => absurd q (by decide))
    refine PW_aload_n zd_M_step_13 rfl ?_
    refine PW_getI zd_M_step_14 zf_M_144 (zs_58 _) rfl ?_
    refine PW_istore_n zd_M_step_17 rfl (by decide) (ls2 := [_, _, _, _]) rfl ?_
    have h := h _ rfl
    refine PW_iconst zd_M_step_18 ?_
    refine PW_istore_n zd_M_step_19 rfl (by decide) (ls2 := [_, _, _, _]) rfl ?_
    exact PW_sub (by exact ⟨rfl, rfl, rfl, rfl, trivial⟩) (kl_M_step_20   h)
def b_M_follows_113 (G : zG) (from0 : Int) (X : zX) (K88 : Int → zPH → Prop) (x4 : Int) (σ : zPH) : Prop :=
  K88 (x4 + (-1)) σ
set_option maxHeartbeats 4000000 in
theorem kb_M_follows_113 {G : zG} {from0 : Int} {X : zX} {K88 : Int → zPH → Prop} (hK88 : ∀ (y0 : Int) (σ : zPH), K88 y0 σ → PW G zm_M_follows 6 X 88 [some (zr G 58), none, none, none, some (iZ y0)] [] σ) {x4 : Int} {σ : zPH} (h : b_M_follows_113 G from0 X K88 x4 σ) : PW G zm_M_follows 6 X 113 [some (zr G 58), none, none, none, some (iZ x4)] [] σ := by
  unfold b_M_follows_113 at h
  refine PW_iinc zd_M_follows_113 rfl rfl (by decide) (ls2 := [_, _, _, _, _]) rfl ?_
  refine PW_goto zd_M_follows_116 ?_
  exact PW_sub (by exact ⟨rfl, rfl, trivial⟩) (hK88 _ _ h)
def b_M_follows_88 (G : zG) (from0 : Int) (X : zX) (K88 : Int → zPH → Prop) (x4 : Int) (σ : zPH) : Prop :=
  (zI x4) ∧
  (x4 < 0 →
    X none σ) ∧
  (0 ≤ x4 →
    (0 ≤ x4 ∧ x4 < 64) ∧
    (zI (σ 87 x4.toNat) ∧ zI (σ 58 59)) ∧
    ((σ 87 x4.toNat) < (σ 58 59) →
      b_M_follows_113 G from0 X K88 x4 σ) ∧
    ((σ 58 59) ≤ (σ 87 x4.toNat) →
      ∀ σ110 : zPH, σ110 = zupd σ 58 62 x4 →
      b_M_follows_113 G from0 X K88 x4 σ110))
set_option maxHeartbeats 4000000 in
theorem kb_M_follows_88 {G : zG} {from0 : Int} {X : zX} {K88 : Int → zPH → Prop} (hK88 : ∀ (y0 : Int) (σ : zPH), K88 y0 σ → PW G zm_M_follows 6 X 88 [some (zr G 58), none, none, none, some (iZ y0)] [] σ) {x4 : Int} {σ : zPH} (h : b_M_follows_88 G from0 X K88 x4 σ) : PW G zm_M_follows 6 X 88 [some (zr G 58), none, none, none, some (iZ x4)] [] σ := by
  unfold b_M_follows_88 at h
  refine PW_iload zd_M_follows_88 rfl ?_
  obtain ⟨h0, hT, hF⟩ := h
  refine PW_if_lt zd_M_follows_90 h0 (fun q => ?_) (fun q => ?_)
  · have h := hT q
    exact PW_vret zd_M_follows_119 rfl h
  · have h := hF q
    refine PW_aload_n zd_M_follows_93 rfl ?_
    refine PW_getR zd_M_follows_94 zf_M_189 (zs_58 _) rfl ?_
    refine PW_iload zd_M_follows_97 rfl ?_
    obtain ⟨h0, h⟩ := h
    refine PW_iaload zd_M_follows_99 (zs_87 _) h0 ?_
    refine PW_aload_n zd_M_follows_100 rfl ?_
    refine PW_getI zd_M_follows_101 zf_M_192 (zs_58 _) rfl ?_
    obtain ⟨h0, hT, hF⟩ := h
    refine PW_icmp_lt zd_M_follows_104 h0 (fun q => ?_) (fun q => ?_)
    · have h := hT q
      exact PW_sub (by exact ⟨rfl, rfl, trivial⟩) (kb_M_follows_113  hK88 h)
    · have h := hF q
      refine PW_aload_n zd_M_follows_107 rfl ?_
      refine PW_iload zd_M_follows_108 rfl ?_
      refine PW_putI zd_M_follows_110 zp_M_201 (zs_58 _) rfl ?_
      have h := h _ rfl
      exact PW_sub (by exact ⟨rfl, rfl, trivial⟩) (kb_M_follows_113  hK88 h)
theorem kl_M_follows_88 {G : zG} {from0 : Int} {X : zX} {x4 : Int} {σ : zPH} (h : zLP1 (b_M_follows_88 G from0 X ) x4 σ) : PW G zm_M_follows 6 X 88 [some (zr G 58), none, none, none, some (iZ x4)] [] σ := by
  obtain ⟨n, h⟩ := h
  induction n generalizing x4 σ with
  | zero => exact h.elim
  | succ n ih => exact kb_M_follows_88   (fun _ _ h => ih h) h
def b_M_follows_25 (G : zG) (from0 : Int) (X : zX) (K25 : Int → Int → zPH → Prop) (x2 x3 : Int) (σ : zPH) : Prop :=
  (0 ≤ x2 ∧ x2 < 64) ∧
  (zI (σ 87 x2.toNat)) ∧
  ((σ 87 x2.toNat) ≠ (-1) →
    (0 ≤ x2 ∧ x2 < 64) ∧
    ∀ σ61 : zPH, σ61 = zupd σ 58 59 (σ 87 x2.toNat) →
    ∀ σ71 : zPH, σ71 = zupd σ61 58 60 (x3 - (σ61 58 59)) →
    ∀ σ76 : zPH, σ76 = zupd σ71 58 61 x2 →
    ∀ σ81 : zPH, σ81 = zupd σ76 58 62 (-1) →
    zLP1 (b_M_follows_88 G from0 X ) 63 σ81) ∧
  ((σ 87 x2.toNat) = (-1) →
    (0 ≤ x2 ∧ x2 < 64) ∧
    ∀ σ41 : zPH, σ41 = zupd σ 87 x2.toNat x3 →
    MS G zm_M_stepped 5 [zr G 58, iZ x2] σ41 (fun v σ47 =>
      ∃ z47 : Int, v = some (iZ z47) ∧
      K25 z47 (x3 + 1) σ47))
set_option maxHeartbeats 4000000 in
theorem kb_M_follows_25 {G : zG} {from0 : Int} {X : zX} {K25 : Int → Int → zPH → Prop} (hK25 : ∀ (y0 y1 : Int) (σ : zPH), K25 y0 y1 σ → PW G zm_M_follows 6 X 25 [some (zr G 58), none, some (iZ y0), some (iZ y1), none] [] σ) {x2 x3 : Int} {σ : zPH} (h : b_M_follows_25 G from0 X K25 x2 x3 σ) : PW G zm_M_follows 6 X 25 [some (zr G 58), none, some (iZ x2), some (iZ x3), none] [] σ := by
  unfold b_M_follows_25 at h
  refine PW_aload_n zd_M_follows_25 rfl ?_
  refine PW_getR zd_M_follows_26 zf_M_189 (zs_58 _) rfl ?_
  refine PW_iload_n zd_M_follows_29 rfl ?_
  obtain ⟨h0, h⟩ := h
  refine PW_iaload zd_M_follows_30 (zs_87 _) h0 ?_
  refine PW_iconst zd_M_follows_31 ?_
  obtain ⟨h0, hT, hF⟩ := h
  refine PW_icmp_ne zd_M_follows_32 ⟨h0, by decide⟩ (fun q => ?_) (fun q => ?_)
  · have h := hT q
    refine PW_aload_n zd_M_follows_54 rfl ?_
    refine PW_aload_n zd_M_follows_55 rfl ?_
    refine PW_getR zd_M_follows_56 zf_M_189 (zs_58 _) rfl ?_
    refine PW_iload_n zd_M_follows_59 rfl ?_
    obtain ⟨h0, h⟩ := h
    refine PW_iaload zd_M_follows_60 (zs_87 _) h0 ?_
    refine PW_putI zd_M_follows_61 zp_M_192 (zs_58 _) rfl ?_
    have h := h _ rfl
    refine PW_aload_n zd_M_follows_64 rfl ?_
    refine PW_iload_n zd_M_follows_65 rfl ?_
    refine PW_aload_n zd_M_follows_66 rfl ?_
    refine PW_getI zd_M_follows_67 zf_M_192 (zs_58 _) rfl ?_
    refine PW_isub zd_M_follows_70 ?_
    refine PW_putI zd_M_follows_71 zp_M_195 (zs_58 _) rfl ?_
    have h := h _ rfl
    refine PW_aload_n zd_M_follows_74 rfl ?_
    refine PW_iload_n zd_M_follows_75 rfl ?_
    refine PW_putI zd_M_follows_76 zp_M_198 (zs_58 _) rfl ?_
    have h := h _ rfl
    refine PW_aload_n zd_M_follows_79 rfl ?_
    refine PW_iconst zd_M_follows_80 ?_
    refine PW_putI zd_M_follows_81 zp_M_201 (zs_58 _) rfl ?_
    have h := h _ rfl
    refine PW_bipush zd_M_follows_84 rfl ?_
    refine PW_istore zd_M_follows_86 rfl (by decide) (ls2 := [_, _, _, _, _]) rfl ?_
    exact PW_sub (by exact ⟨rfl, rfl, trivial⟩) (kl_M_follows_88   h)
  · have h := hF q
    refine PW_aload_n zd_M_follows_35 rfl ?_
    refine PW_getR zd_M_follows_36 zf_M_189 (zs_58 _) rfl ?_
    refine PW_iload_n zd_M_follows_39 rfl ?_
    refine PW_iload_n zd_M_follows_40 rfl ?_
    obtain ⟨h0, h⟩ := h
    refine PW_iastore zd_M_follows_41 (zs_87 _) h0 ?_
    have h := h _ rfl
    refine PW_iinc zd_M_follows_42 rfl rfl (by decide) (ls2 := [_, _, _, _, _]) rfl ?_
    refine PW_aload_n zd_M_follows_45 rfl ?_
    refine PW_iload_n zd_M_follows_46 rfl ?_
    refine PW_callV1i zd_M_follows_47 zl_M_464 zk_M_stepped zv_M_stepped (fr' := 5) (by decide) (zs_58 _) rfl rfl (Nat.le_of_ble_eq_true rfl) ?_
    refine ms_mono h ?_
    rintro v σ1 ⟨z, rfl, h⟩
    refine ⟨z, rfl, ?_⟩
    refine PW_istore_n zd_M_follows_50 rfl (by decide) (ls2 := [_, _, _, _, _]) rfl ?_
    refine PW_goto zd_M_follows_51 ?_
    exact PW_sub (by exact ⟨rfl, rfl, rfl, trivial⟩) (hK25 _ _ _ h)
theorem kl_M_follows_25 {G : zG} {from0 : Int} {X : zX} {x2 x3 : Int} {σ : zPH} (h : zLP2 (b_M_follows_25 G from0 X ) x2 x3 σ) : PW G zm_M_follows 6 X 25 [some (zr G 58), none, some (iZ x2), some (iZ x3), none] [] σ := by
  obtain ⟨n, h⟩ := h
  induction n generalizing x2 x3 σ with
  | zero => exact h.elim
  | succ n ih => exact kb_M_follows_25   (fun _ _ _ h => ih h) h
def b_M_follows_2 (G : zG) (from0 : Int) (X : zX) (K2 : Int → zPH → Prop) (x2 : Int) (σ : zPH) : Prop :=
  (zI x2) ∧
  (64 ≤ x2 →
    zLP2 (b_M_follows_25 G from0 X ) from0 0 σ) ∧
  (x2 < 64 →
    (0 ≤ x2 ∧ x2 < 64) ∧
    ∀ σ14 : zPH, σ14 = zupd σ 87 x2.toNat (-1) →
    K2 (x2 + 1) σ14)
set_option maxHeartbeats 4000000 in
theorem kb_M_follows_2 {G : zG} {from0 : Int} {X : zX} {K2 : Int → zPH → Prop} (hK2 : ∀ (y0 : Int) (σ : zPH), K2 y0 σ → PW G zm_M_follows 6 X 2 [some (zr G 58), some (iZ from0), some (iZ y0), none, none] [] σ) {x2 : Int} {σ : zPH} (h : b_M_follows_2 G from0 X K2 x2 σ) : PW G zm_M_follows 6 X 2 [some (zr G 58), some (iZ from0), some (iZ x2), none, none] [] σ := by
  unfold b_M_follows_2 at h
  refine PW_iload_n zd_M_follows_2 rfl ?_
  refine PW_bipush zd_M_follows_3 rfl ?_
  obtain ⟨h0, hT, hF⟩ := h
  refine PW_icmp_ge zd_M_follows_5 ⟨h0, by decide⟩ (fun q => ?_) (fun q => ?_)
  · have h := hT q
    refine PW_iload_n zd_M_follows_21 rfl ?_
    refine PW_istore_n zd_M_follows_22 rfl (by decide) (ls2 := [_, _, _, _, _]) rfl ?_
    refine PW_iconst zd_M_follows_23 ?_
    refine PW_istore_n zd_M_follows_24 rfl (by decide) (ls2 := [_, _, _, _, _]) rfl ?_
    exact PW_sub (by exact ⟨rfl, rfl, rfl, trivial⟩) (kl_M_follows_25   h)
  · have h := hF q
    refine PW_aload_n zd_M_follows_8 rfl ?_
    refine PW_getR zd_M_follows_9 zf_M_189 (zs_58 _) rfl ?_
    refine PW_iload_n zd_M_follows_12 rfl ?_
    refine PW_iconst zd_M_follows_13 ?_
    obtain ⟨h0, h⟩ := h
    refine PW_iastore zd_M_follows_14 (zs_87 _) h0 ?_
    have h := h _ rfl
    refine PW_iinc zd_M_follows_15 rfl rfl (by decide) (ls2 := [_, _, _, _, _]) rfl ?_
    refine PW_goto zd_M_follows_18 ?_
    exact PW_sub (by exact ⟨rfl, rfl, rfl, trivial⟩) (hK2 _ _ h)
theorem kl_M_follows_2 {G : zG} {from0 : Int} {X : zX} {x2 : Int} {σ : zPH} (h : zLP1 (b_M_follows_2 G from0 X ) x2 σ) : PW G zm_M_follows 6 X 2 [some (zr G 58), some (iZ from0), some (iZ x2), none, none] [] σ := by
  obtain ⟨n, h⟩ := h
  induction n generalizing x2 σ with
  | zero => exact h.elim
  | succ n ih => exact kb_M_follows_2   (fun _ _ h => ih h) h
def w_M_follows (G : zG) (from0 : Int) (X : zX) (σ : zPH) : Prop :=
  zLP1 (b_M_follows_2 G from0 X ) 0 σ
set_option maxHeartbeats 4000000 in
theorem k_M_follows {G : zG} {from0 : Int} {X : zX} {σ : zPH} (h : w_M_follows G from0 X σ) : MS G zm_M_follows 6 [zr G 58, iZ from0] σ X := by
  refine ms_of zk_M_follows (Nat.le_of_ble_eq_true rfl) (ls := [some (zr G 58), some (iZ from0), none, none, none]) rfl ?_
  unfold w_M_follows at h
  refine PW_iconst zd_M_follows_0 ?_
  refine PW_istore_n zd_M_follows_1 rfl (by decide) (ls2 := [_, _, _, _, _]) rfl ?_
  exact PW_sub (by exact ⟨rfl, rfl, rfl, trivial⟩) (kl_M_follows_2   h)
def w_M_round (G : zG) (what : Int) (X : zX) (σ : zPH) : Prop :=
  MS G zm_M_is 0 [iZ what, iZ 0, iZ 3] σ (fun v σ3 =>
    (v = some (iZ 0) ∧
      X (some (iZ (-1))) σ3) ∨
    (v = some (iZ 1) ∧
      MS G zm_M_follows 6 [zr G 58, iZ (σ3 58 43)] σ3 (fun v σ16 =>
        v = none ∧
        (zI what) ∧
        (what ≠ 0 →
          (zI what) ∧
          (what ≠ 1 →
            (zI what) ∧
            (what ≠ 2 →
              X (some (iZ (σ16 58 62))) σ16) ∧
            (what = 2 →
              X (some (iZ (σ16 58 61))) σ16)) ∧
          (what = 1 →
            X (some (iZ (σ16 58 60))) σ16)) ∧
        (what = 0 →
          X (some (iZ (σ16 58 59))) σ16))))
set_option maxHeartbeats 4000000 in
theorem k_M_round {G : zG} {what : Int} {X : zX} {σ : zPH} (h : w_M_round G what X σ) : MS G zm_M_round 7 [zr G 58, iZ what] σ X := by
  refine ms_of zk_M_round (Nat.le_of_ble_eq_true rfl) (ls := [some (zr G 58), some (iZ what)]) rfl ?_
  unfold w_M_round at h
  refine PW_iload_n zd_M_round_0 rfl ?_
  refine PW_iconst zd_M_round_1 ?_
  refine PW_iconst zd_M_round_2 ?_
  refine PW_callS3i zd_M_round_3 zl_M_320 zk_M_is zv_M_is (fr' := 0) (by decide) (Nat.le_of_ble_eq_true rfl) ?_
  refine ms_mono h ?_
  rintro v σ1 (⟨rfl, h⟩ | ⟨rfl, h⟩)
  · refine ⟨0, rfl, ?_⟩
    refine PW_if_ne zd_M_round_6 (by decide) (fun q => absurd rfl q) (fun _ => ?_)
    refine PW_iconst zd_M_round_9 ?_
    exact PW_iret zd_M_round_10 rfl h
  · refine ⟨1, rfl, ?_⟩
    refine PW_if_ne zd_M_round_6 (by decide) (fun _ => ?_) (fun q => absurd q (by decide))
    refine PW_aload_n zd_M_round_11 rfl ?_
    refine PW_aload_n zd_M_round_12 rfl ?_
    refine PW_getI zd_M_round_13 zf_M_144 (zs_58 _) rfl ?_
    refine PW_callV1v zd_M_round_16 zl_M_467 zk_M_follows zv_M_follows (fr' := 6) (by decide) (zs_58 _) rfl rfl (Nat.le_of_ble_eq_true rfl) ?_
    refine ms_mono h ?_
    rintro v σ1 ⟨rfl, h⟩
    refine ⟨rfl, ?_⟩
    refine PW_iload_n zd_M_round_19 rfl ?_
    obtain ⟨h0, hT, hF⟩ := h
    refine PW_if_ne zd_M_round_20 h0 (fun q => ?_) (fun q => ?_)
    · have h := hT q
      refine PW_iload_n zd_M_round_30 rfl ?_
      refine PW_iconst zd_M_round_31 ?_
      obtain ⟨h0, hT, hF⟩ := h
      refine PW_icmp_ne zd_M_round_32 ⟨h0, by decide⟩ (fun q => ?_) (fun q => ?_)
      · have h := hT q
        refine PW_iload_n zd_M_round_42 rfl ?_
        refine PW_iconst zd_M_round_43 ?_
        obtain ⟨h0, hT, hF⟩ := h
        refine PW_icmp_ne zd_M_round_44 ⟨h0, by decide⟩ (fun q => ?_) (fun q => ?_)
        · have h := hT q
          refine PW_aload_n zd_M_round_54 rfl ?_
          refine PW_getI zd_M_round_55 zf_M_201 (zs_58 _) rfl ?_
          exact PW_iret zd_M_round_58 rfl h
        · have h := hF q
          refine PW_aload_n zd_M_round_47 rfl ?_
          refine PW_getI zd_M_round_48 zf_M_198 (zs_58 _) rfl ?_
          refine PW_goto zd_M_round_51 ?_
          exact PW_iret zd_M_round_58 rfl h
      · have h := hF q
        refine PW_aload_n zd_M_round_35 rfl ?_
        refine PW_getI zd_M_round_36 zf_M_195 (zs_58 _) rfl ?_
        refine PW_goto zd_M_round_39 ?_
        exact PW_iret zd_M_round_58 rfl h
    · have h := hF q
      refine PW_aload_n zd_M_round_23 rfl ?_
      refine PW_getI zd_M_round_24 zf_M_192 (zs_58 _) rfl ?_
      refine PW_goto zd_M_round_27 ?_
      exact PW_iret zd_M_round_58 rfl h
def b_M_rests_41 (G : zG) (k : Int) (X : zX) (K11 : Int → Int → zPH → Prop) (x2 x3 : Int) (σ : zPH) : Prop :=
  K11 x2 (x3 + 1) σ
set_option maxHeartbeats 4000000 in
theorem kb_M_rests_41 {G : zG} {k : Int} {X : zX} {K11 : Int → Int → zPH → Prop} (hK11 : ∀ (y0 y1 : Int) (σ : zPH), K11 y0 y1 σ → PW G zm_M_rests 6 X 11 [some (zr G 58), some (iZ k), some (iZ y0), some (iZ y1)] [] σ) {x2 x3 : Int} {σ : zPH} (h : b_M_rests_41 G k X K11 x2 x3 σ) : PW G zm_M_rests 6 X 41 [some (zr G 58), some (iZ k), some (iZ x2), some (iZ x3)] [] σ := by
  unfold b_M_rests_41 at h
  refine PW_iinc zd_M_rests_41 rfl rfl (by decide) (ls2 := [_, _, _, _]) rfl ?_
  refine PW_goto zd_M_rests_44 ?_
  exact PW_sub (by exact ⟨rfl, rfl, rfl, rfl, trivial⟩) (hK11 _ _ _ h)
def b_M_rests_11 (G : zG) (k : Int) (X : zX) (K11 : Int → Int → zPH → Prop) (x2 x3 : Int) (σ : zPH) : Prop :=
  MS G zm_M_states 0 [zr G 58] σ (fun v σ13 =>
    ∃ z13 : Int, v = some (iZ z13) ∧
    (zI x3 ∧ zI z13) ∧
    (z13 ≤ x3 →
      (zI k) ∧
      (k ≠ (-1) →
        X (some (iZ (-1))) σ13) ∧
      (k = (-1) →
        X (some (iZ x2)) σ13)) ∧
    (x3 < z13 →
      MS G zm_M_stepped 5 [zr G 58, iZ x3] σ13 (fun v σ21 =>
        ∃ z21 : Int, v = some (iZ z21) ∧
        (zI z21 ∧ zI x3) ∧
        (z21 = x3 →
          (zI x2 ∧ zI k) ∧
          (x2 ≠ k →
            b_M_rests_41 G k X K11 (x2 + 1) x3 σ21) ∧
          (x2 = k →
            X (some (iZ x3)) σ21)) ∧
        (z21 ≠ x3 →
          b_M_rests_41 G k X K11 x2 x3 σ21))))
set_option maxHeartbeats 4000000 in
theorem kb_M_rests_11 {G : zG} {k : Int} {X : zX} {K11 : Int → Int → zPH → Prop} (hK11 : ∀ (y0 y1 : Int) (σ : zPH), K11 y0 y1 σ → PW G zm_M_rests 6 X 11 [some (zr G 58), some (iZ k), some (iZ y0), some (iZ y1)] [] σ) {x2 x3 : Int} {σ : zPH} (h : b_M_rests_11 G k X K11 x2 x3 σ) : PW G zm_M_rests 6 X 11 [some (zr G 58), some (iZ k), some (iZ x2), some (iZ x3)] [] σ := by
  unfold b_M_rests_11 at h
  refine PW_iload_n zd_M_rests_11 rfl ?_
  refine PW_aload_n zd_M_rests_12 rfl ?_
  refine PW_callV0i zd_M_rests_13 zl_M_455 zk_M_states zv_M_states (fr' := 0) (by decide) (zs_58 _) rfl rfl (Nat.le_of_ble_eq_true rfl) ?_
  refine ms_mono h ?_
  rintro v σ1 ⟨z, rfl, h⟩
  refine ⟨z, rfl, ?_⟩
  obtain ⟨h0, hT, hF⟩ := h
  refine PW_icmp_ge zd_M_rests_16 h0 (fun q => ?_) (fun q => ?_)
  · have h := hT q
    refine PW_iload_n zd_M_rests_47 rfl ?_
    refine PW_iconst zd_M_rests_48 ?_
    obtain ⟨h0, hT, hF⟩ := h
    refine PW_icmp_ne zd_M_rests_49 ⟨h0, by decide⟩ (fun q => ?_) (fun q => ?_)
    · have h := hT q
      refine PW_iconst zd_M_rests_56 ?_
      exact PW_iret zd_M_rests_57 rfl h
    · have h := hF q
      refine PW_iload_n zd_M_rests_52 rfl ?_
      refine PW_goto zd_M_rests_53 ?_
      exact PW_iret zd_M_rests_57 rfl h
  · have h := hF q
    refine PW_aload_n zd_M_rests_19 rfl ?_
    refine PW_iload_n zd_M_rests_20 rfl ?_
    refine PW_callV1i zd_M_rests_21 zl_M_464 zk_M_stepped zv_M_stepped (fr' := 5) (by decide) (zs_58 _) rfl rfl (Nat.le_of_ble_eq_true rfl) ?_
    refine ms_mono h ?_
    rintro v σ1 ⟨z, rfl, h⟩
    refine ⟨z, rfl, ?_⟩
    refine PW_iload_n zd_M_rests_24 rfl ?_
    obtain ⟨h0, hT, hF⟩ := h
    refine PW_icmp_eq zd_M_rests_25 h0 (fun q => ?_) (fun q => ?_)
    · have h := hT q
      refine PW_iload_n zd_M_rests_31 rfl ?_
      refine PW_iload_n zd_M_rests_32 rfl ?_
      obtain ⟨h0, hT, hF⟩ := h
      refine PW_icmp_ne zd_M_rests_33 h0 (fun q => ?_) (fun q => ?_)
      · have h := hT q
        refine PW_iinc zd_M_rests_38 rfl rfl (by decide) (ls2 := [_, _, _, _]) rfl ?_
        exact PW_sub (by exact ⟨rfl, rfl, rfl, rfl, trivial⟩) (kb_M_rests_41  hK11 h)
      · have h := hF q
        refine PW_iload_n zd_M_rests_36 rfl ?_
        exact PW_iret zd_M_rests_37 rfl h
    · have h := hF q
      refine PW_goto zd_M_rests_28 ?_
      exact PW_sub (by exact ⟨rfl, rfl, rfl, rfl, trivial⟩) (kb_M_rests_41  hK11 h)
theorem kl_M_rests_11 {G : zG} {k : Int} {X : zX} {x2 x3 : Int} {σ : zPH} (h : zLP2 (b_M_rests_11 G k X ) x2 x3 σ) : PW G zm_M_rests 6 X 11 [some (zr G 58), some (iZ k), some (iZ x2), some (iZ x3)] [] σ := by
  obtain ⟨n, h⟩ := h
  induction n generalizing x2 x3 σ with
  | zero => exact h.elim
  | succ n ih => exact kb_M_rests_11   (fun _ _ _ h => ih h) h
def w_M_rests (G : zG) (k : Int) (X : zX) (σ : zPH) : Prop :=
  (zI k) ∧
  ((-1) ≤ k →
    zLP2 (b_M_rests_11 G k X ) 0 0 σ) ∧
  (k < (-1) →
    X (some (iZ (-1))) σ)
set_option maxHeartbeats 4000000 in
theorem k_M_rests {G : zG} {k : Int} {X : zX} {σ : zPH} (h : w_M_rests G k X σ) : MS G zm_M_rests 6 [zr G 58, iZ k] σ X := by
  refine ms_of zk_M_rests (Nat.le_of_ble_eq_true rfl) (ls := [some (zr G 58), some (iZ k), none, none]) rfl ?_
  unfold w_M_rests at h
  refine PW_iload_n zd_M_rests_0 rfl ?_
  refine PW_iconst zd_M_rests_1 ?_
  obtain ⟨h0, hT, hF⟩ := h
  refine PW_icmp_ge zd_M_rests_2 ⟨h0, by decide⟩ (fun q => ?_) (fun q => ?_)
  · have h := hT q
    refine PW_iconst zd_M_rests_7 ?_
    refine PW_istore_n zd_M_rests_8 rfl (by decide) (ls2 := [_, _, _, _]) rfl ?_
    refine PW_iconst zd_M_rests_9 ?_
    refine PW_istore_n zd_M_rests_10 rfl (by decide) (ls2 := [_, _, _, _]) rfl ?_
    exact PW_sub (by exact ⟨rfl, rfl, rfl, rfl, trivial⟩) (kl_M_rests_11   h)
  · have h := hF q
    refine PW_iconst zd_M_rests_5 ?_
    exact PW_iret zd_M_rests_6 rfl h
def b_M_drawn_52 (G : zG) (st : Int) (X : zX) (K20 : Int → Int → zPH → Prop) (x3 s0 s1 : Int) (σ : zPH) : Prop :=
  ∀ x2 : Int, x2 = (s1 + s0) →
  K20 x2 (x3 + 1) σ
set_option maxHeartbeats 4000000 in
theorem kb_M_drawn_52 {G : zG} {st : Int} {X : zX} {K20 : Int → Int → zPH → Prop} (hK20 : ∀ (y0 y1 : Int) (σ : zPH), K20 y0 y1 σ → PW G zm_M_drawn 7 X 20 [some (zr G 58), some (iZ st), some (iZ y0), some (iZ y1)] [] σ) {x3 s0 s1 : Int} {σ : zPH} (h : b_M_drawn_52 G st X K20 x3 s0 s1 σ) : PW G zm_M_drawn 7 X 52 [some (zr G 58), some (iZ st), none, some (iZ x3)] [iZ s0, iZ s1] σ := by
  unfold b_M_drawn_52 at h
  refine PW_iadd zd_M_drawn_52 ?_
  refine PW_istore_n zd_M_drawn_53 rfl (by decide) (ls2 := [_, _, _, _]) rfl ?_
  have h := h _ rfl
  refine PW_iinc zd_M_drawn_54 rfl rfl (by decide) (ls2 := [_, _, _, _]) rfl ?_
  refine PW_goto zd_M_drawn_57 ?_
  exact PW_sub (by exact ⟨rfl, rfl, rfl, rfl, trivial⟩) (hK20 _ _ _ h)
def b_M_drawn_20 (G : zG) (st : Int) (X : zX) (K20 : Int → Int → zPH → Prop) (x2 x3 : Int) (σ : zPH) : Prop :=
  MS G zm_M_states 0 [zr G 58] σ (fun v σ22 =>
    ∃ z22 : Int, v = some (iZ z22) ∧
    (zI x3 ∧ zI z22) ∧
    (z22 ≤ x3 →
      X (some (iZ x2)) σ22) ∧
    (x3 < z22 →
      MS G zm_M_follows 6 [zr G 58, iZ x3] σ22 (fun v σ30 =>
        v = none ∧
        (0 ≤ st ∧ st < 64) ∧
        (zI (σ30 87 st.toNat) ∧ zI (σ30 58 59)) ∧
        ((σ30 87 st.toNat) < (σ30 58 59) →
          b_M_drawn_52 G st X K20 x3 0 x2 σ30) ∧
        ((σ30 58 59) ≤ (σ30 87 st.toNat) →
          b_M_drawn_52 G st X K20 x3 1 x2 σ30))))
set_option maxHeartbeats 4000000 in
theorem kb_M_drawn_20 {G : zG} {st : Int} {X : zX} {K20 : Int → Int → zPH → Prop} (hK20 : ∀ (y0 y1 : Int) (σ : zPH), K20 y0 y1 σ → PW G zm_M_drawn 7 X 20 [some (zr G 58), some (iZ st), some (iZ y0), some (iZ y1)] [] σ) {x2 x3 : Int} {σ : zPH} (h : b_M_drawn_20 G st X K20 x2 x3 σ) : PW G zm_M_drawn 7 X 20 [some (zr G 58), some (iZ st), some (iZ x2), some (iZ x3)] [] σ := by
  unfold b_M_drawn_20 at h
  refine PW_iload_n zd_M_drawn_20 rfl ?_
  refine PW_aload_n zd_M_drawn_21 rfl ?_
  refine PW_callV0i zd_M_drawn_22 zl_M_455 zk_M_states zv_M_states (fr' := 0) (by decide) (zs_58 _) rfl rfl (Nat.le_of_ble_eq_true rfl) ?_
  refine ms_mono h ?_
  rintro v σ1 ⟨z, rfl, h⟩
  refine ⟨z, rfl, ?_⟩
  obtain ⟨h0, hT, hF⟩ := h
  refine PW_icmp_ge zd_M_drawn_25 h0 (fun q => ?_) (fun q => ?_)
  · have h := hT q
    refine PW_iload_n zd_M_drawn_60 rfl ?_
    exact PW_iret zd_M_drawn_61 rfl h
  · have h := hF q
    refine PW_aload_n zd_M_drawn_28 rfl ?_
    refine PW_iload_n zd_M_drawn_29 rfl ?_
    refine PW_callV1v zd_M_drawn_30 zl_M_467 zk_M_follows zv_M_follows (fr' := 6) (by decide) (zs_58 _) rfl rfl (Nat.le_of_ble_eq_true rfl) ?_
    refine ms_mono h ?_
    rintro v σ1 ⟨rfl, h⟩
    refine ⟨rfl, ?_⟩
    refine PW_iload_n zd_M_drawn_33 rfl ?_
    refine PW_aload_n zd_M_drawn_34 rfl ?_
    refine PW_getR zd_M_drawn_35 zf_M_189 (zs_58 _) rfl ?_
    refine PW_iload_n zd_M_drawn_38 rfl ?_
    obtain ⟨h0, h⟩ := h
    refine PW_iaload zd_M_drawn_39 (zs_87 _) h0 ?_
    refine PW_aload_n zd_M_drawn_40 rfl ?_
    refine PW_getI zd_M_drawn_41 zf_M_192 (zs_58 _) rfl ?_
    obtain ⟨h0, hT, hF⟩ := h
    refine PW_icmp_lt zd_M_drawn_44 h0 (fun q => ?_) (fun q => ?_)
    · have h := hT q
      refine PW_iconst zd_M_drawn_51 ?_
      exact PW_sub (by exact ⟨rfl, rfl, rfl, trivial⟩) (kb_M_drawn_52  hK20 h)
    · have h := hF q
      refine PW_iconst zd_M_drawn_47 ?_
      refine PW_goto zd_M_drawn_48 ?_
      exact PW_sub (by exact ⟨rfl, rfl, rfl, trivial⟩) (kb_M_drawn_52  hK20 h)
theorem kl_M_drawn_20 {G : zG} {st : Int} {X : zX} {x2 x3 : Int} {σ : zPH} (h : zLP2 (b_M_drawn_20 G st X ) x2 x3 σ) : PW G zm_M_drawn 7 X 20 [some (zr G 58), some (iZ st), some (iZ x2), some (iZ x3)] [] σ := by
  obtain ⟨n, h⟩ := h
  induction n generalizing x2 x3 σ with
  | zero => exact h.elim
  | succ n ih => exact kb_M_drawn_20   (fun _ _ _ h => ih h) h
def w_M_drawn (G : zG) (st : Int) (X : zX) (σ : zPH) : Prop :=
  MS G zm_M_states 0 [zr G 58] σ (fun v σ3 =>
    ∃ z3 : Int, v = some (iZ z3) ∧
    MS G zm_M_is 0 [iZ st, iZ 0, iZ (z3 - 1)] σ3 (fun v σ8 =>
      (v = some (iZ 0) ∧
        X (some (iZ (-1))) σ8) ∨
      (v = some (iZ 1) ∧
        zLP2 (b_M_drawn_20 G st X ) 0 0 σ8)))
set_option maxHeartbeats 4000000 in
theorem k_M_drawn {G : zG} {st : Int} {X : zX} {σ : zPH} (h : w_M_drawn G st X σ) : MS G zm_M_drawn 7 [zr G 58, iZ st] σ X := by
  refine ms_of zk_M_drawn (Nat.le_of_ble_eq_true rfl) (ls := [some (zr G 58), some (iZ st), none, none]) rfl ?_
  unfold w_M_drawn at h
  refine PW_iload_n zd_M_drawn_0 rfl ?_
  refine PW_iconst zd_M_drawn_1 ?_
  refine PW_aload_n zd_M_drawn_2 rfl ?_
  refine PW_callV0i zd_M_drawn_3 zl_M_455 zk_M_states zv_M_states (fr' := 0) (by decide) (zs_58 _) rfl rfl (Nat.le_of_ble_eq_true rfl) ?_
  refine ms_mono h ?_
  rintro v σ1 ⟨z, rfl, h⟩
  refine ⟨z, rfl, ?_⟩
  refine PW_iconst zd_M_drawn_6 ?_
  refine PW_isub zd_M_drawn_7 ?_
  refine PW_callS3i zd_M_drawn_8 zl_M_320 zk_M_is zv_M_is (fr' := 0) (by decide) (Nat.le_of_ble_eq_true rfl) ?_
  refine ms_mono h ?_
  rintro v σ1 (⟨rfl, h⟩ | ⟨rfl, h⟩)
  · refine ⟨0, rfl, ?_⟩
    refine PW_if_ne zd_M_drawn_11 (by decide) (fun q => absurd rfl q) (fun _ => ?_)
    refine PW_iconst zd_M_drawn_14 ?_
    exact PW_iret zd_M_drawn_15 rfl h
  · refine ⟨1, rfl, ?_⟩
    refine PW_if_ne zd_M_drawn_11 (by decide) (fun _ => ?_) (fun q => absurd q (by decide))
    refine PW_iconst zd_M_drawn_16 ?_
    refine PW_istore_n zd_M_drawn_17 rfl (by decide) (ls2 := [_, _, _, _]) rfl ?_
    refine PW_iconst zd_M_drawn_18 ?_
    refine PW_istore_n zd_M_drawn_19 rfl (by decide) (ls2 := [_, _, _, _]) rfl ?_
    exact PW_sub (by exact ⟨rfl, rfl, rfl, rfl, trivial⟩) (kl_M_drawn_20   h)
def w_M_litEnd (G : zG) (X : zX) (σ : zPH) : Prop :=
  MS G zm_M_follows 6 [zr G 58, iZ (σ 58 43)] σ (fun v σ5 =>
    v = none ∧
    (zI (σ5 58 60)) ∧
    ((σ5 58 60) = 1 →
      MS G zm_M_shines 4 [zr G 58, iZ (σ5 58 61)] σ5 (fun v σ23 =>
        v = none ∧
        MS G zm_M_litEyes 2 [zr G 58] σ23 (fun v σ27 =>
          ∃ z27 : Int, v = some (iZ z27) ∧
          X (some (iZ z27)) σ27))) ∧
    ((σ5 58 60) ≠ 1 →
      X (some (iZ (-1))) σ5))
set_option maxHeartbeats 4000000 in
theorem k_M_litEnd {G : zG} {X : zX} {σ : zPH} (h : w_M_litEnd G  X σ) : MS G zm_M_litEnd 7 [zr G 58] σ X := by
  refine ms_of zk_M_litEnd (Nat.le_of_ble_eq_true rfl) (ls := [some (zr G 58)]) rfl ?_
  unfold w_M_litEnd at h
  refine PW_aload_n zd_M_litEnd_0 rfl ?_
  refine PW_aload_n zd_M_litEnd_1 rfl ?_
  refine PW_getI zd_M_litEnd_2 zf_M_144 (zs_58 _) rfl ?_
  refine PW_callV1v zd_M_litEnd_5 zl_M_467 zk_M_follows zv_M_follows (fr' := 6) (by decide) (zs_58 _) rfl rfl (Nat.le_of_ble_eq_true rfl) ?_
  refine ms_mono h ?_
  rintro v σ1 ⟨rfl, h⟩
  refine ⟨rfl, ?_⟩
  refine PW_aload_n zd_M_litEnd_8 rfl ?_
  refine PW_getI zd_M_litEnd_9 zf_M_195 (zs_58 _) rfl ?_
  refine PW_iconst zd_M_litEnd_12 ?_
  obtain ⟨h0, hT, hF⟩ := h
  refine PW_icmp_eq zd_M_litEnd_13 ⟨h0, by decide⟩ (fun q => ?_) (fun q => ?_)
  · have h := hT q
    refine PW_aload_n zd_M_litEnd_18 rfl ?_
    refine PW_aload_n zd_M_litEnd_19 rfl ?_
    refine PW_getI zd_M_litEnd_20 zf_M_198 (zs_58 _) rfl ?_
    refine PW_callV1v zd_M_litEnd_23 zl_M_458 zk_M_shines zv_M_shines (fr' := 4) (by decide) (zs_58 _) rfl rfl (Nat.le_of_ble_eq_true rfl) ?_
    refine ms_mono h ?_
    rintro v σ1 ⟨rfl, h⟩
    refine ⟨rfl, ?_⟩
    refine PW_aload_n zd_M_litEnd_26 rfl ?_
    refine PW_callV0i zd_M_litEnd_27 zl_M_470 zk_M_litEyes zv_M_litEyes (fr' := 2) (by decide) (zs_58 _) rfl rfl (Nat.le_of_ble_eq_true rfl) ?_
    refine ms_mono h ?_
    rintro v σ1 ⟨z, rfl, h⟩
    refine ⟨z, rfl, ?_⟩
    exact PW_iret zd_M_litEnd_30 rfl h
  · have h := hF q
    refine PW_iconst zd_M_litEnd_16 ?_
    exact PW_iret zd_M_litEnd_17 rfl h
def w_M_wish (G : zG) (eye0 how : Int) (X : zX) (σ : zPH) : Prop :=
  MS G zm_M_isEye 1 [zr G 58, iZ eye0] σ (fun v σ2 =>
    (v = some (iZ 0) ∧
      X (some (iZ 0)) σ2) ∨
    (v = some (iZ 1) ∧
      MS G zm_M_is 0 [iZ how, iZ 0, iZ 2] σ2 (fun v σ11 =>
        (v = some (iZ 0) ∧
          X (some (iZ 0)) σ11) ∨
        (v = some (iZ 1) ∧
          (0 ≤ eye0 ∧ eye0 < 8) ∧
          ∀ σ25 : zPH, σ25 = zupd σ11 83 eye0.toNat how →
          X (some (iZ 1)) σ25))))
set_option maxHeartbeats 4000000 in
theorem k_M_wish {G : zG} {eye0 how : Int} {X : zX} {σ : zPH} (h : w_M_wish G eye0 how X σ) : MS G zm_M_wish 2 [zr G 58, iZ eye0, iZ how] σ X := by
  refine ms_of zk_M_wish (Nat.le_of_ble_eq_true rfl) (ls := [some (zr G 58), some (iZ eye0), some (iZ how)]) rfl ?_
  unfold w_M_wish at h
  refine PW_aload_n zd_M_wish_0 rfl ?_
  refine PW_iload_n zd_M_wish_1 rfl ?_
  refine PW_callV1i zd_M_wish_2 zl_M_409 zk_M_isEye zv_M_isEye (fr' := 1) (by decide) (zs_58 _) rfl rfl (Nat.le_of_ble_eq_true rfl) ?_
  refine ms_mono h ?_
  rintro v σ1 (⟨rfl, h⟩ | ⟨rfl, h⟩)
  · refine ⟨0, rfl, ?_⟩
    refine PW_if_eq zd_M_wish_5 (by decide) (fun _ => ?_) (fun q => absurd rfl q)
    refine PW_iconst zd_M_wish_17 ?_
    exact PW_zret zd_M_wish_18 rfl (by decide) h
  · refine ⟨1, rfl, ?_⟩
    refine PW_if_eq zd_M_wish_5 (by decide) (fun q => absurd q (by decide)) (fun _ => ?_)
    refine PW_iload_n zd_M_wish_8 rfl ?_
    refine PW_iconst zd_M_wish_9 ?_
    refine PW_iconst zd_M_wish_10 ?_
    refine PW_callS3i zd_M_wish_11 zl_M_320 zk_M_is zv_M_is (fr' := 0) (by decide) (Nat.le_of_ble_eq_true rfl) ?_
    refine ms_mono h ?_
    rintro v σ1 (⟨rfl, h⟩ | ⟨rfl, h⟩)
    · refine ⟨0, rfl, ?_⟩
      refine PW_if_ne zd_M_wish_14 (by decide) (fun q => absurd rfl q) (fun _ => ?_)
      refine PW_iconst zd_M_wish_17 ?_
      exact PW_zret zd_M_wish_18 rfl (by decide) h
    · refine ⟨1, rfl, ?_⟩
      refine PW_if_ne zd_M_wish_14 (by decide) (fun _ => ?_) (fun q => absurd q (by decide))
      refine PW_aload_n zd_M_wish_19 rfl ?_
      refine PW_getR zd_M_wish_20 zf_M_147 (zs_58 _) rfl ?_
      refine PW_iload_n zd_M_wish_23 rfl ?_
      refine PW_iload_n zd_M_wish_24 rfl ?_
      obtain ⟨h0, h⟩ := h
      refine PW_iastore zd_M_wish_25 (zs_83 _) h0 ?_
      have h := h _ rfl
      refine PW_iconst zd_M_wish_26 ?_
      exact PW_zret zd_M_wish_27 rfl (by decide) h
def b_M_isMet_70 (G : zG) (X : zX) (K14 : Int → Int → zPH → Prop) (x1 x2 : Int) (σ : zPH) : Prop :=
  K14 x1 (x2 + 1) σ
set_option maxHeartbeats 4000000 in
theorem kb_M_isMet_70 {G : zG} {X : zX} {K14 : Int → Int → zPH → Prop} (hK14 : ∀ (y0 y1 : Int) (σ : zPH), K14 y0 y1 σ → PW G zm_M_isMet 8 X 14 [some (zr G 58), some (iZ y0), some (iZ y1)] [] σ) {x1 x2 : Int} {σ : zPH} (h : b_M_isMet_70 G  X K14 x1 x2 σ) : PW G zm_M_isMet 8 X 70 [some (zr G 58), some (iZ x1), some (iZ x2)] [] σ := by
  unfold b_M_isMet_70 at h
  refine PW_iinc zd_M_isMet_70 rfl rfl (by decide) (ls2 := [_, _, _]) rfl ?_
  refine PW_goto zd_M_isMet_73 ?_
  exact PW_sub (by exact ⟨rfl, rfl, rfl, trivial⟩) (hK14 _ _ _ h)
def b_M_isMet_65 (G : zG) (X : zX) (K14 : Int → Int → zPH → Prop) (x1 x2 s0 s1 : Int) (σ : zPH) : Prop :=
  (zI s1 ∧ zI s0) ∧
  (s1 = s0 →
    b_M_isMet_70 G  X K14 x1 x2 σ) ∧
  (s1 ≠ s0 →
    X (some (iZ 0)) σ)
set_option maxHeartbeats 4000000 in
theorem kb_M_isMet_65 {G : zG} {X : zX} {K14 : Int → Int → zPH → Prop} (hK14 : ∀ (y0 y1 : Int) (σ : zPH), K14 y0 y1 σ → PW G zm_M_isMet 8 X 14 [some (zr G 58), some (iZ y0), some (iZ y1)] [] σ) {x1 x2 s0 s1 : Int} {σ : zPH} (h : b_M_isMet_65 G  X K14 x1 x2 s0 s1 σ) : PW G zm_M_isMet 8 X 65 [some (zr G 58), some (iZ x1), some (iZ x2)] [iZ s0, iZ s1] σ := by
  unfold b_M_isMet_65 at h
  obtain ⟨h0, hT, hF⟩ := h
  refine PW_icmp_eq zd_M_isMet_65 h0 (fun q => ?_) (fun q => ?_)
  · have h := hT q
    exact PW_sub (by exact ⟨rfl, rfl, rfl, trivial⟩) (kb_M_isMet_70  hK14 h)
  · have h := hF q
    refine PW_iconst zd_M_isMet_68 ?_
    exact PW_zret zd_M_isMet_69 rfl (by decide) h
def b_M_isMet_51 (G : zG) (X : zX) (K14 : Int → Int → zPH → Prop) (x1 x2 s0 : Int) (σ : zPH) : Prop :=
  (zI x1 ∧ 0 ≤ x2 ∧ x2 < 32) ∧
  (zI ((x1 / 2 ^ x2.toNat) % 2)) ∧
  (((x1 / 2 ^ x2.toNat) % 2) ≠ 1 →
    b_M_isMet_65 G  X K14 x1 x2 0 s0 σ) ∧
  (((x1 / 2 ^ x2.toNat) % 2) = 1 →
    b_M_isMet_65 G  X K14 x1 x2 1 s0 σ)
set_option maxHeartbeats 4000000 in
theorem kb_M_isMet_51 {G : zG} {X : zX} {K14 : Int → Int → zPH → Prop} (hK14 : ∀ (y0 y1 : Int) (σ : zPH), K14 y0 y1 σ → PW G zm_M_isMet 8 X 14 [some (zr G 58), some (iZ y0), some (iZ y1)] [] σ) {x1 x2 s0 : Int} {σ : zPH} (h : b_M_isMet_51 G  X K14 x1 x2 s0 σ) : PW G zm_M_isMet 8 X 51 [some (zr G 58), some (iZ x1), some (iZ x2)] [iZ s0] σ := by
  unfold b_M_isMet_51 at h
  refine PW_iload_n zd_M_isMet_51 rfl ?_
  refine PW_iload_n zd_M_isMet_52 rfl ?_
  obtain ⟨h0, h⟩ := h
  refine PW_ishr zd_M_isMet_53 h0 ?_
  refine PW_iconst zd_M_isMet_54 ?_
  refine PW_iandm1 zd_M_isMet_55 ?_
  refine PW_iconst zd_M_isMet_56 ?_
  obtain ⟨h0, hT, hF⟩ := h
  refine PW_icmp_ne zd_M_isMet_57 ⟨h0, by decide⟩ (fun q => ?_) (fun q => ?_)
  · have h := hT q
    refine PW_iconst zd_M_isMet_64 ?_
    exact PW_sub (by exact ⟨rfl, rfl, rfl, trivial⟩) (kb_M_isMet_65  hK14 h)
  · have h := hF q
    refine PW_iconst zd_M_isMet_60 ?_
    refine PW_goto zd_M_isMet_61 ?_
    exact PW_sub (by exact ⟨rfl, rfl, rfl, trivial⟩) (kb_M_isMet_65  hK14 h)
def b_M_isMet_14 (G : zG) (X : zX) (K14 : Int → Int → zPH → Prop) (x1 x2 : Int) (σ : zPH) : Prop :=
  (0 ≤ (σ 58 13) ∧ (σ 58 13) < 2) ∧
  (zI x2 ∧ zI (σ 66 (σ 58 13).toNat)) ∧
  ((σ 66 (σ 58 13).toNat) ≤ x2 →
    X (some (iZ 1)) σ) ∧
  (x2 < (σ 66 (σ 58 13).toNat) →
    (0 ≤ x2 ∧ x2 < 8) ∧
    (zI (σ 83 x2.toNat)) ∧
    ((σ 83 x2.toNat) = 0 →
      b_M_isMet_70 G  X K14 x1 x2 σ) ∧
    ((σ 83 x2.toNat) ≠ 0 →
      (0 ≤ x2 ∧ x2 < 8) ∧
      (zI (σ 83 x2.toNat)) ∧
      ((σ 83 x2.toNat) ≠ 1 →
        b_M_isMet_51 G  X K14 x1 x2 0 σ) ∧
      ((σ 83 x2.toNat) = 1 →
        b_M_isMet_51 G  X K14 x1 x2 1 σ)))
set_option maxHeartbeats 4000000 in
theorem kb_M_isMet_14 {G : zG} {X : zX} {K14 : Int → Int → zPH → Prop} (hK14 : ∀ (y0 y1 : Int) (σ : zPH), K14 y0 y1 σ → PW G zm_M_isMet 8 X 14 [some (zr G 58), some (iZ y0), some (iZ y1)] [] σ) {x1 x2 : Int} {σ : zPH} (h : b_M_isMet_14 G  X K14 x1 x2 σ) : PW G zm_M_isMet 8 X 14 [some (zr G 58), some (iZ x1), some (iZ x2)] [] σ := by
  unfold b_M_isMet_14 at h
  refine PW_iload_n zd_M_isMet_14 rfl ?_
  refine PW_aload_n zd_M_isMet_15 rfl ?_
  refine PW_getR zd_M_isMet_16 zf_M_72 (zs_58 _) rfl ?_
  refine PW_aload_n zd_M_isMet_19 rfl ?_
  refine PW_getI zd_M_isMet_20 zf_M_51 (zs_58 _) rfl ?_
  obtain ⟨h0, h⟩ := h
  refine PW_iaload zd_M_isMet_23 (zs_66 _) h0 ?_
  obtain ⟨h0, hT, hF⟩ := h
  refine PW_icmp_ge zd_M_isMet_24 h0 (fun q => ?_) (fun q => ?_)
  · have h := hT q
    refine PW_iconst zd_M_isMet_76 ?_
    exact PW_zret zd_M_isMet_77 rfl (by decide) h
  · have h := hF q
    refine PW_aload_n zd_M_isMet_27 rfl ?_
    refine PW_getR zd_M_isMet_28 zf_M_147 (zs_58 _) rfl ?_
    refine PW_iload_n zd_M_isMet_31 rfl ?_
    obtain ⟨h0, h⟩ := h
    refine PW_iaload zd_M_isMet_32 (zs_83 _) h0 ?_
    obtain ⟨h0, hT, hF⟩ := h
    refine PW_if_eq zd_M_isMet_33 h0 (fun q => ?_) (fun q => ?_)
    · have h := hT q
      exact PW_sub (by exact ⟨rfl, rfl, rfl, trivial⟩) (kb_M_isMet_70  hK14 h)
    · have h := hF q
      refine PW_aload_n zd_M_isMet_36 rfl ?_
      refine PW_getR zd_M_isMet_37 zf_M_147 (zs_58 _) rfl ?_
      refine PW_iload_n zd_M_isMet_40 rfl ?_
      obtain ⟨h0, h⟩ := h
      refine PW_iaload zd_M_isMet_41 (zs_83 _) h0 ?_
      refine PW_iconst zd_M_isMet_42 ?_
      obtain ⟨h0, hT, hF⟩ := h
      refine PW_icmp_ne zd_M_isMet_43 ⟨h0, by decide⟩ (fun q => ?_) (fun q => ?_)
      · have h := hT q
        refine PW_iconst zd_M_isMet_50 ?_
        exact PW_sub (by exact ⟨rfl, rfl, rfl, trivial⟩) (kb_M_isMet_51  hK14 h)
      · have h := hF q
        refine PW_iconst zd_M_isMet_46 ?_
        refine PW_goto zd_M_isMet_47 ?_
        exact PW_sub (by exact ⟨rfl, rfl, rfl, trivial⟩) (kb_M_isMet_51  hK14 h)
theorem kl_M_isMet_14 {G : zG} {X : zX} {x1 x2 : Int} {σ : zPH} (h : zLP2 (b_M_isMet_14 G  X ) x1 x2 σ) : PW G zm_M_isMet 8 X 14 [some (zr G 58), some (iZ x1), some (iZ x2)] [] σ := by
  obtain ⟨n, h⟩ := h
  induction n generalizing x1 x2 σ with
  | zero => exact h.elim
  | succ n ih => exact kb_M_isMet_14   (fun _ _ _ h => ih h) h
def w_M_isMet (G : zG) (X : zX) (σ : zPH) : Prop :=
  MS G zm_M_litEnd 7 [zr G 58] σ (fun v σ1 =>
    ∃ z1 : Int, v = some (iZ z1) ∧
    (zI z1) ∧
    (z1 ≠ (-1) →
      zLP2 (b_M_isMet_14 G  X ) z1 0 σ1) ∧
    (z1 = (-1) →
      X (some (iZ 0)) σ1))
set_option maxHeartbeats 4000000 in
theorem k_M_isMet {G : zG} {X : zX} {σ : zPH} (h : w_M_isMet G  X σ) : MS G zm_M_isMet 8 [zr G 58] σ X := by
  refine ms_of zk_M_isMet (Nat.le_of_ble_eq_true rfl) (ls := [some (zr G 58), none, none]) rfl ?_
  unfold w_M_isMet at h
  refine PW_aload_n zd_M_isMet_0 rfl ?_
  refine PW_callV0i zd_M_isMet_1 zl_M_473 zk_M_litEnd zv_M_litEnd (fr' := 7) (by decide) (zs_58 _) rfl rfl (Nat.le_of_ble_eq_true rfl) ?_
  refine ms_mono h ?_
  rintro v σ1 ⟨z, rfl, h⟩
  refine ⟨z, rfl, ?_⟩
  refine PW_istore_n zd_M_isMet_4 rfl (by decide) (ls2 := [_, _, _]) rfl ?_
  refine PW_iload_n zd_M_isMet_5 rfl ?_
  refine PW_iconst zd_M_isMet_6 ?_
  obtain ⟨h0, hT, hF⟩ := h
  refine PW_icmp_ne zd_M_isMet_7 ⟨h0, by decide⟩ (fun q => ?_) (fun q => ?_)
  · have h := hT q
    refine PW_iconst zd_M_isMet_12 ?_
    refine PW_istore_n zd_M_isMet_13 rfl (by decide) (ls2 := [_, _, _]) rfl ?_
    exact PW_sub (by exact ⟨rfl, rfl, rfl, trivial⟩) (kl_M_isMet_14   h)
  · have h := hF q
    refine PW_iconst zd_M_isMet_10 ?_
    exact PW_zret zd_M_isMet_11 rfl (by decide) h
def w_M_met (G : zG) (X : zX) (σ : zPH) : Prop :=
  MS G zm_M_isMet 8 [zr G 58] σ (fun v σ1 =>
    (v = some (iZ 0) ∧
      X (some (iZ 0)) σ1) ∨
    (v = some (iZ 1) ∧
      X (some (iZ 1)) σ1))
set_option maxHeartbeats 4000000 in
theorem k_M_met {G : zG} {X : zX} {σ : zPH} (h : w_M_met G  X σ) : MS G zm_M_met 9 [zr G 58] σ X := by
  refine ms_of zk_M_met (Nat.le_of_ble_eq_true rfl) (ls := [some (zr G 58)]) rfl ?_
  unfold w_M_met at h
  refine PW_aload_n zd_M_met_0 rfl ?_
  refine PW_callV0i zd_M_met_1 zl_M_476 zk_M_isMet zv_M_isMet (fr' := 8) (by decide) (zs_58 _) rfl rfl (Nat.le_of_ble_eq_true rfl) ?_
  refine ms_mono h ?_
  rintro v σ1 (⟨rfl, h⟩ | ⟨rfl, h⟩)
  · refine ⟨0, rfl, ?_⟩
    refine PW_if_eq zd_M_met_4 (by decide) (fun _ => ?_) (fun q => absurd rfl q)
    refine PW_iconst zd_M_met_11 ?_
    exact PW_iret zd_M_met_12 rfl h
  · refine ⟨1, rfl, ?_⟩
    refine PW_if_eq zd_M_met_4 (by decide) (fun q => absurd q (by decide)) (fun _ => ?_)
    refine PW_iconst zd_M_met_7 ?_
    refine PW_goto zd_M_met_8 ?_
    exact PW_iret zd_M_met_12 rfl h
def b_M_fewest_64 (G : zG) (set0 : Int) (X : zX) (K10 : Int → Int → Int → zPH → Prop) (x2 x3 x4 : Int) (σ : zPH) : Prop :=
  K10 x2 x3 (x4 + 1) σ
set_option maxHeartbeats 4000000 in
theorem kb_M_fewest_64 {G : zG} {set0 : Int} {X : zX} {K10 : Int → Int → Int → zPH → Prop} (hK10 : ∀ (y0 y1 y2 : Int) (σ : zPH), K10 y0 y1 y2 σ → PW G zm_M_fewest 9 X 10 [some (zr G 58), some (iZ set0), some (iZ y0), some (iZ y1), some (iZ y2)] [] σ) {x2 x3 x4 : Int} {σ : zPH} (h : b_M_fewest_64 G set0 X K10 x2 x3 x4 σ) : PW G zm_M_fewest 9 X 64 [some (zr G 58), some (iZ set0), some (iZ x2), some (iZ x3), some (iZ x4)] [] σ := by
  unfold b_M_fewest_64 at h
  refine PW_iinc zd_M_fewest_64 rfl rfl (by decide) (ls2 := [_, _, _, _, _]) rfl ?_
  refine PW_goto zd_M_fewest_67 ?_
  exact PW_sub (by exact ⟨rfl, rfl, rfl, rfl, rfl, trivial⟩) (hK10 _ _ _ _ h)
def b_M_fewest_46 (G : zG) (set0 : Int) (X : zX) (K10 : Int → Int → Int → zPH → Prop) (x2 x3 x4 : Int) (σ : zPH) : Prop :=
  (0 ≤ x2 ∧ 0 ≤ x4) ∧
  ∀ σ51 : zPH, σ51 = zupd σ 58 42 (zxor x2 x4) →
  MS G zm_M_isMet 8 [zr G 58] σ51 (fun v σ55 =>
    (v = some (iZ 0) ∧
      b_M_fewest_64 G set0 X K10 x2 x3 x4 σ55) ∨
    (v = some (iZ 1) ∧
      b_M_fewest_64 G set0 X K10 x2 x4 x4 σ55))
set_option maxHeartbeats 4000000 in
theorem kb_M_fewest_46 {G : zG} {set0 : Int} {X : zX} {K10 : Int → Int → Int → zPH → Prop} (hK10 : ∀ (y0 y1 y2 : Int) (σ : zPH), K10 y0 y1 y2 σ → PW G zm_M_fewest 9 X 10 [some (zr G 58), some (iZ set0), some (iZ y0), some (iZ y1), some (iZ y2)] [] σ) {x2 x3 x4 : Int} {σ : zPH} (h : b_M_fewest_46 G set0 X K10 x2 x3 x4 σ) : PW G zm_M_fewest 9 X 46 [some (zr G 58), some (iZ set0), some (iZ x2), some (iZ x3), some (iZ x4)] [] σ := by
  unfold b_M_fewest_46 at h
  refine PW_aload_n zd_M_fewest_46 rfl ?_
  refine PW_iload_n zd_M_fewest_47 rfl ?_
  refine PW_iload zd_M_fewest_48 rfl ?_
  obtain ⟨h0, h⟩ := h
  refine PW_ixor zd_M_fewest_50 h0 ?_
  refine PW_putI zd_M_fewest_51 zp_M_141 (zs_58 _) rfl ?_
  have h := h _ rfl
  refine PW_aload_n zd_M_fewest_54 rfl ?_
  refine PW_callV0i zd_M_fewest_55 zl_M_476 zk_M_isMet zv_M_isMet (fr' := 8) (by decide) (zs_58 _) rfl rfl (Nat.le_of_ble_eq_true rfl) ?_
  refine ms_mono h ?_
  rintro v σ1 (⟨rfl, h⟩ | ⟨rfl, h⟩)
  · refine ⟨0, rfl, ?_⟩
    refine PW_if_eq zd_M_fewest_58 (by decide) (fun _ => ?_) (fun q => absurd rfl q)
    exact PW_sub (by exact ⟨rfl, rfl, rfl, rfl, rfl, trivial⟩) (kb_M_fewest_64  hK10 h)
  · refine ⟨1, rfl, ?_⟩
    refine PW_if_eq zd_M_fewest_58 (by decide) (fun q => absurd q (by decide)) (fun _ => ?_)
    refine PW_iload zd_M_fewest_61 rfl ?_
    refine PW_istore_n zd_M_fewest_63 rfl (by decide) (ls2 := [_, _, _, _, _]) rfl ?_
    exact PW_sub (by exact ⟨rfl, rfl, rfl, rfl, rfl, trivial⟩) (kb_M_fewest_64  hK10 h)
def b_M_fewest_10 (G : zG) (set0 : Int) (X : zX) (K10 : Int → Int → Int → zPH → Prop) (x2 x3 x4 : Int) (σ : zPH) : Prop :=
  (0 ≤ (σ 58 13) ∧ (σ 58 13) < 2) ∧
  (0 ≤ (σ 64 (σ 58 13).toNat) ∧ (σ 64 (σ 58 13).toNat) < 32) ∧
  (zI x4 ∧ zI ((1 : Int) * 2 ^ (σ 64 (σ 58 13).toNat).toNat)) ∧
  (((1 : Int) * 2 ^ (σ 64 (σ 58 13).toNat).toNat) ≤ x4 →
    ∀ σ72 : zPH, σ72 = zupd σ 58 42 x2 →
    (zI x3) ∧
    (x3 = (-1) →
      X (some (iZ x3)) σ72) ∧
    (x3 ≠ (-1) →
      (zI set0) ∧
      (set0 = 0 →
        MS G zm_M_bitsOf 0 [iZ x3] σ72 (fun v σ89 =>
          ∃ z89 : Int, v = some (iZ z89) ∧
          X (some (iZ z89)) σ89)) ∧
      (set0 ≠ 0 →
        X (some (iZ x3)) σ72))) ∧
  (x4 < ((1 : Int) * 2 ^ (σ 64 (σ 58 13).toNat).toNat) →
    (zI x3) ∧
    (x3 = (-1) →
      b_M_fewest_46 G set0 X K10 x2 x3 x4 σ) ∧
    (x3 ≠ (-1) →
      MS G zm_M_bitsOf 0 [iZ x4] σ (fun v σ33 =>
        ∃ z33 : Int, v = some (iZ z33) ∧
        MS G zm_M_bitsOf 0 [iZ x3] σ33 (fun v σ37 =>
          ∃ z37 : Int, v = some (iZ z37) ∧
          (zI z33 ∧ zI z37) ∧
          (z33 < z37 →
            b_M_fewest_46 G set0 X K10 x2 x3 x4 σ37) ∧
          (z37 ≤ z33 →
            b_M_fewest_64 G set0 X K10 x2 x3 x4 σ37)))))
set_option maxHeartbeats 4000000 in
theorem kb_M_fewest_10 {G : zG} {set0 : Int} {X : zX} {K10 : Int → Int → Int → zPH → Prop} (hK10 : ∀ (y0 y1 y2 : Int) (σ : zPH), K10 y0 y1 y2 σ → PW G zm_M_fewest 9 X 10 [some (zr G 58), some (iZ set0), some (iZ y0), some (iZ y1), some (iZ y2)] [] σ) {x2 x3 x4 : Int} {σ : zPH} (h : b_M_fewest_10 G set0 X K10 x2 x3 x4 σ) : PW G zm_M_fewest 9 X 10 [some (zr G 58), some (iZ set0), some (iZ x2), some (iZ x3), some (iZ x4)] [] σ := by
  unfold b_M_fewest_10 at h
  refine PW_iload zd_M_fewest_10 rfl ?_
  refine PW_iconst zd_M_fewest_12 ?_
  refine PW_aload_n zd_M_fewest_13 rfl ?_
  refine PW_getR zd_M_fewest_14 zf_M_66 (zs_58 _) rfl ?_
  refine PW_aload_n zd_M_fewest_17 rfl ?_
  refine PW_getI zd_M_fewest_18 zf_M_51 (zs_58 _) rfl ?_
  obtain ⟨h0, h⟩ := h
  refine PW_iaload zd_M_fewest_21 (zs_64 _) h0 ?_
  obtain ⟨h0, h⟩ := h
  refine PW_ishl zd_M_fewest_22 h0 ?_
  obtain ⟨h0, hT, hF⟩ := h
  refine PW_icmp_ge zd_M_fewest_23 h0 (fun q => ?_) (fun q => ?_)
  · have h := hT q
    refine PW_aload_n zd_M_fewest_70 rfl ?_
    refine PW_iload_n zd_M_fewest_71 rfl ?_
    refine PW_putI zd_M_fewest_72 zp_M_141 (zs_58 _) rfl ?_
    have h := h _ rfl
    refine PW_iload_n zd_M_fewest_75 rfl ?_
    refine PW_iconst zd_M_fewest_76 ?_
    obtain ⟨h0, hT, hF⟩ := h
    refine PW_icmp_eq zd_M_fewest_77 ⟨h0, by decide⟩ (fun q => ?_) (fun q => ?_)
    · have h := hT q
      refine PW_iload_n zd_M_fewest_84 rfl ?_
      refine PW_goto zd_M_fewest_85 ?_
      exact PW_iret zd_M_fewest_92 rfl h
    · have h := hF q
      refine PW_iload_n zd_M_fewest_80 rfl ?_
      obtain ⟨h0, hT, hF⟩ := h
      refine PW_if_eq zd_M_fewest_81 h0 (fun q => ?_) (fun q => ?_)
      · have h := hT q
        refine PW_iload_n zd_M_fewest_88 rfl ?_
        refine PW_callS1i zd_M_fewest_89 zl_M_452 zk_M_bitsOf zv_M_bitsOf (fr' := 0) (by decide) (Nat.le_of_ble_eq_true rfl) ?_
        refine ms_mono h ?_
        rintro v σ1 ⟨z, rfl, h⟩
        refine ⟨z, rfl, ?_⟩
        exact PW_iret zd_M_fewest_92 rfl h
      · have h := hF q
        refine PW_iload_n zd_M_fewest_84 rfl ?_
        refine PW_goto zd_M_fewest_85 ?_
        exact PW_iret zd_M_fewest_92 rfl h
  · have h := hF q
    refine PW_iload_n zd_M_fewest_26 rfl ?_
    refine PW_iconst zd_M_fewest_27 ?_
    obtain ⟨h0, hT, hF⟩ := h
    refine PW_icmp_eq zd_M_fewest_28 ⟨h0, by decide⟩ (fun q => ?_) (fun q => ?_)
    · have h := hT q
      exact PW_sub (by exact ⟨rfl, rfl, rfl, rfl, rfl, trivial⟩) (kb_M_fewest_46  hK10 h)
    · have h := hF q
      refine PW_iload zd_M_fewest_31 rfl ?_
      refine PW_callS1i zd_M_fewest_33 zl_M_452 zk_M_bitsOf zv_M_bitsOf (fr' := 0) (by decide) (Nat.le_of_ble_eq_true rfl) ?_
      refine ms_mono h ?_
      rintro v σ1 ⟨z, rfl, h⟩
      refine ⟨z, rfl, ?_⟩
      refine PW_iload_n zd_M_fewest_36 rfl ?_
      refine PW_callS1i zd_M_fewest_37 zl_M_452 zk_M_bitsOf zv_M_bitsOf (fr' := 0) (by decide) (Nat.le_of_ble_eq_true rfl) ?_
      refine ms_mono h ?_
      rintro v σ1 ⟨z, rfl, h⟩
      refine ⟨z, rfl, ?_⟩
      obtain ⟨h0, hT, hF⟩ := h
      refine PW_icmp_lt zd_M_fewest_40 h0 (fun q => ?_) (fun q => ?_)
      · have h := hT q
        exact PW_sub (by exact ⟨rfl, rfl, rfl, rfl, rfl, trivial⟩) (kb_M_fewest_46  hK10 h)
      · have h := hF q
        refine PW_goto zd_M_fewest_43 ?_
        exact PW_sub (by exact ⟨rfl, rfl, rfl, rfl, rfl, trivial⟩) (kb_M_fewest_64  hK10 h)
theorem kl_M_fewest_10 {G : zG} {set0 : Int} {X : zX} {x2 x3 x4 : Int} {σ : zPH} (h : zLP3 (b_M_fewest_10 G set0 X ) x2 x3 x4 σ) : PW G zm_M_fewest 9 X 10 [some (zr G 58), some (iZ set0), some (iZ x2), some (iZ x3), some (iZ x4)] [] σ := by
  obtain ⟨n, h⟩ := h
  induction n generalizing x2 x3 x4 σ with
  | zero => exact h.elim
  | succ n ih => exact kb_M_fewest_10   (fun _ _ _ _ h => ih h) h
def w_M_fewest (G : zG) (set0 : Int) (X : zX) (σ : zPH) : Prop :=
  ∀ x2 : Int, x2 = (σ 58 42) →
  zLP3 (b_M_fewest_10 G set0 X ) x2 (-1) 0 σ
set_option maxHeartbeats 4000000 in
theorem k_M_fewest {G : zG} {set0 : Int} {X : zX} {σ : zPH} (h : w_M_fewest G set0 X σ) : MS G zm_M_fewest 9 [zr G 58, iZ set0] σ X := by
  refine ms_of zk_M_fewest (Nat.le_of_ble_eq_true rfl) (ls := [some (zr G 58), some (iZ set0), none, none, none]) rfl ?_
  unfold w_M_fewest at h
  refine PW_aload_n zd_M_fewest_0 rfl ?_
  refine PW_getI zd_M_fewest_1 zf_M_141 (zs_58 _) rfl ?_
  refine PW_istore_n zd_M_fewest_4 rfl (by decide) (ls2 := [_, _, _, _, _]) rfl ?_
  have h := h _ rfl
  refine PW_iconst zd_M_fewest_5 ?_
  refine PW_istore_n zd_M_fewest_6 rfl (by decide) (ls2 := [_, _, _, _, _]) rfl ?_
  refine PW_iconst zd_M_fewest_7 ?_
  refine PW_istore zd_M_fewest_8 rfl (by decide) (ls2 := [_, _, _, _, _]) rfl ?_
  exact PW_sub (by exact ⟨rfl, rfl, rfl, rfl, rfl, trivial⟩) (kl_M_fewest_10   h)
def b_M_needed_74 (G : zG) (column row : Int) (X : zX) (σ : zPH) : Prop :=
  (0 ≤ (σ 58 13) ∧ (σ 58 13) < 2) ∧
  (0 ≤ (σ 66 (σ 58 13).toNat) ∧ (σ 66 (σ 58 13).toNat) < 32) ∧
  X (some (iZ (((1 : Int) * 2 ^ (σ 66 (σ 58 13).toNat).toNat) - 1))) σ
set_option maxHeartbeats 4000000 in
theorem kb_M_needed_74 {G : zG} {column row : Int} {X : zX} {σ : zPH} (h : b_M_needed_74 G column row X   σ) : PW G zm_M_needed 8 X 74 [some (zr G 58), none, none, none, none] [] σ := by
  unfold b_M_needed_74 at h
  refine PW_iconst zd_M_needed_74 ?_
  refine PW_aload_n zd_M_needed_75 rfl ?_
  refine PW_getR zd_M_needed_76 zf_M_72 (zs_58 _) rfl ?_
  refine PW_aload_n zd_M_needed_79 rfl ?_
  refine PW_getI zd_M_needed_80 zf_M_51 (zs_58 _) rfl ?_
  obtain ⟨h0, h⟩ := h
  refine PW_iaload zd_M_needed_83 (zs_66 _) h0 ?_
  obtain ⟨h0, h⟩ := h
  refine PW_ishl zd_M_needed_84 h0 ?_
  refine PW_iconst zd_M_needed_85 ?_
  refine PW_isub zd_M_needed_86 ?_
  refine PW_goto zd_M_needed_87 ?_
  exact PW_iret zd_M_needed_94 rfl h
def b_M_needed_63 (G : zG) (column row : Int) (X : zX) (x3 x4 : Int) (σ : zPH) : Prop :=
  (zI x3) ∧
  (x3 = (-1) →
    b_M_needed_74 G column row X  σ) ∧
  (x3 ≠ (-1) →
    (zI x4) ∧
    (x4 ≠ (-1) →
      (0 ≤ x3 ∧ 0 ≤ x4) ∧
      X (some (iZ (zxor x3 x4))) σ) ∧
    (x4 = (-1) →
      b_M_needed_74 G column row X  σ))
set_option maxHeartbeats 4000000 in
theorem kb_M_needed_63 {G : zG} {column row : Int} {X : zX} {x3 x4 : Int} {σ : zPH} (h : b_M_needed_63 G column row X  x3 x4 σ) : PW G zm_M_needed 8 X 63 [some (zr G 58), none, none, some (iZ x3), some (iZ x4)] [] σ := by
  unfold b_M_needed_63 at h
  refine PW_iload_n zd_M_needed_63 rfl ?_
  refine PW_iconst zd_M_needed_64 ?_
  obtain ⟨h0, hT, hF⟩ := h
  refine PW_icmp_eq zd_M_needed_65 ⟨h0, by decide⟩ (fun q => ?_) (fun q => ?_)
  · have h := hT q
    exact PW_sub (by exact ⟨rfl, trivial⟩) (kb_M_needed_74   h)
  · have h := hF q
    refine PW_iload zd_M_needed_68 rfl ?_
    refine PW_iconst zd_M_needed_70 ?_
    obtain ⟨h0, hT, hF⟩ := h
    refine PW_icmp_ne zd_M_needed_71 ⟨h0, by decide⟩ (fun q => ?_) (fun q => ?_)
    · have h := hT q
      refine PW_iload_n zd_M_needed_90 rfl ?_
      refine PW_iload zd_M_needed_91 rfl ?_
      obtain ⟨h0, h⟩ := h
      refine PW_ixor zd_M_needed_93 h0 ?_
      exact PW_iret zd_M_needed_94 rfl h
    · have h := hF q
      exact PW_sub (by exact ⟨rfl, trivial⟩) (kb_M_needed_74   h)
def w_M_needed (G : zG) (column row : Int) (X : zX) (σ : zPH) : Prop :=
  MS G zm_M_isSquare 1 [zr G 58, iZ column, iZ row] σ (fun v σ3 =>
    (v = some (iZ 0) ∧
      X (some (iZ (-1))) σ3) ∨
    (v = some (iZ 1) ∧
      MS G zm_M_sortAt 1 [zr G 58, iZ ((12 * row) + column)] σ3 (fun v σ16 =>
        ∃ z16 : Int, v = some (iZ z16) ∧
        (zI z16) ∧
        (z16 ≠ 0 →
          MS G zm_M_litEnd 7 [zr G 58] σ16 (fun v σ25 =>
            ∃ z25 : Int, v = some (iZ z25) ∧
            ∀ σ36 : zPH, σ36 = zupd σ25 58 45 ((12 * row) + column) →
            MS G zm_M_litEnd 7 [zr G 58] σ36 (fun v σ40 =>
              ∃ z40 : Int, v = some (iZ z40) ∧
              ∀ σ47 : zPH, σ47 = zupd σ40 58 45 (-1) →
              (zI z25) ∧
              (z25 ≠ (-1) →
                b_M_needed_63 G column row X  z25 z40 σ47) ∧
              (z25 = (-1) →
                (zI z40) ∧
                (z40 ≠ (-1) →
                  b_M_needed_63 G column row X  z25 z40 σ47) ∧
                (z40 = (-1) →
                  X (some (iZ 0)) σ47))))) ∧
        (z16 = 0 →
          X (some (iZ (-1))) σ16))))
set_option maxHeartbeats 4000000 in
theorem k_M_needed {G : zG} {column row : Int} {X : zX} {σ : zPH} (h : w_M_needed G column row X σ) : MS G zm_M_needed 8 [zr G 58, iZ column, iZ row] σ X := by
  refine ms_of zk_M_needed (Nat.le_of_ble_eq_true rfl) (ls := [some (zr G 58), some (iZ column), some (iZ row), none, none]) rfl ?_
  unfold w_M_needed at h
  refine PW_aload_n zd_M_needed_0 rfl ?_
  refine PW_iload_n zd_M_needed_1 rfl ?_
  refine PW_iload_n zd_M_needed_2 rfl ?_
  refine PW_callV2i zd_M_needed_3 zl_M_420 zk_M_isSquare zv_M_isSquare (fr' := 1) (by decide) (zs_58 _) rfl rfl (Nat.le_of_ble_eq_true rfl) ?_
  refine ms_mono h ?_
  rintro v σ1 (⟨rfl, h⟩ | ⟨rfl, h⟩)
  · refine ⟨0, rfl, ?_⟩
    refine PW_if_eq zd_M_needed_6 (by decide) (fun _ => ?_) (fun q => absurd rfl q)
    refine PW_iconst zd_M_needed_22 ?_
    exact PW_iret zd_M_needed_23 rfl h
  · refine ⟨1, rfl, ?_⟩
    refine PW_if_eq zd_M_needed_6 (by decide) (fun q => absurd q (by decide)) (fun _ => ?_)
    refine PW_aload_n zd_M_needed_9 rfl ?_
    refine PW_bipush zd_M_needed_10 rfl ?_
    refine PW_iload_n zd_M_needed_12 rfl ?_
    refine PW_imul zd_M_needed_13 ?_
    refine PW_iload_n zd_M_needed_14 rfl ?_
    refine PW_iadd zd_M_needed_15 ?_
    refine PW_callV1i zd_M_needed_16 zl_M_424 zk_M_sortAt zv_M_sortAt (fr' := 1) (by decide) (zs_58 _) rfl rfl (Nat.le_of_ble_eq_true rfl) ?_
    refine ms_mono h ?_
    rintro v σ1 ⟨z, rfl, h⟩
    refine ⟨z, rfl, ?_⟩
    obtain ⟨h0, hT, hF⟩ := h
    refine PW_if_ne zd_M_needed_19 h0 (fun q => ?_) (fun q => ?_)
    · have h := hT q
      refine PW_aload_n zd_M_needed_24 rfl ?_
      refine PW_callV0i zd_M_needed_25 zl_M_473 zk_M_litEnd zv_M_litEnd (fr' := 7) (by decide) (zs_58 _) rfl rfl (Nat.le_of_ble_eq_true rfl) ?_
      refine ms_mono h ?_
      rintro v σ1 ⟨z, rfl, h⟩
      refine ⟨z, rfl, ?_⟩
      refine PW_istore_n zd_M_needed_28 rfl (by decide) (ls2 := [_, _, _, _, _]) rfl ?_
      refine PW_aload_n zd_M_needed_29 rfl ?_
      refine PW_bipush zd_M_needed_30 rfl ?_
      refine PW_iload_n zd_M_needed_32 rfl ?_
      refine PW_imul zd_M_needed_33 ?_
      refine PW_iload_n zd_M_needed_34 rfl ?_
      refine PW_iadd zd_M_needed_35 ?_
      refine PW_putI zd_M_needed_36 zp_M_150 (zs_58 _) rfl ?_
      have h := h _ rfl
      refine PW_aload_n zd_M_needed_39 rfl ?_
      refine PW_callV0i zd_M_needed_40 zl_M_473 zk_M_litEnd zv_M_litEnd (fr' := 7) (by decide) (zs_58 _) rfl rfl (Nat.le_of_ble_eq_true rfl) ?_
      refine ms_mono h ?_
      rintro v σ1 ⟨z, rfl, h⟩
      refine ⟨z, rfl, ?_⟩
      refine PW_istore zd_M_needed_43 rfl (by decide) (ls2 := [_, _, _, _, _]) rfl ?_
      refine PW_aload_n zd_M_needed_45 rfl ?_
      refine PW_iconst zd_M_needed_46 ?_
      refine PW_putI zd_M_needed_47 zp_M_150 (zs_58 _) rfl ?_
      have h := h _ rfl
      refine PW_iload_n zd_M_needed_50 rfl ?_
      refine PW_iconst zd_M_needed_51 ?_
      obtain ⟨h0, hT, hF⟩ := h
      refine PW_icmp_ne zd_M_needed_52 ⟨h0, by decide⟩ (fun q => ?_) (fun q => ?_)
      · have h := hT q
        exact PW_sub (by exact ⟨rfl, rfl, rfl, trivial⟩) (kb_M_needed_63   h)
      · have h := hF q
        refine PW_iload zd_M_needed_55 rfl ?_
        refine PW_iconst zd_M_needed_57 ?_
        obtain ⟨h0, hT, hF⟩ := h
        refine PW_icmp_ne zd_M_needed_58 ⟨h0, by decide⟩ (fun q => ?_) (fun q => ?_)
        · have h := hT q
          exact PW_sub (by exact ⟨rfl, rfl, rfl, trivial⟩) (kb_M_needed_63   h)
        · have h := hF q
          refine PW_iconst zd_M_needed_61 ?_
          exact PW_iret zd_M_needed_62 rfl h
    · have h := hF q
      refine PW_iconst zd_M_needed_22 ?_
      exact PW_iret zd_M_needed_23 rfl h
def w_M_isEmpty (G : zG) (column row : Int) (X : zX) (σ : zPH) : Prop :=
  MS G zm_M_isSquare 1 [zr G 58, iZ column, iZ row] σ (fun v σ3 =>
    (v = some (iZ 0) ∧
      X (some (iZ 0)) σ3) ∨
    (v = some (iZ 1) ∧
      MS G zm_M_sortAt 1 [zr G 58, iZ ((12 * row) + column)] σ3 (fun v σ16 =>
        ∃ z16 : Int, v = some (iZ z16) ∧
        (zI z16) ∧
        (z16 ≠ 0 →
          X (some (iZ 0)) σ16) ∧
        (z16 = 0 →
          X (some (iZ 1)) σ16))))
set_option maxHeartbeats 4000000 in
theorem k_M_isEmpty {G : zG} {column row : Int} {X : zX} {σ : zPH} (h : w_M_isEmpty G column row X σ) : MS G zm_M_isEmpty 2 [zr G 58, iZ column, iZ row] σ X := by
  refine ms_of zk_M_isEmpty (Nat.le_of_ble_eq_true rfl) (ls := [some (zr G 58), some (iZ column), some (iZ row)]) rfl ?_
  unfold w_M_isEmpty at h
  refine PW_aload_n zd_M_isEmpty_0 rfl ?_
  refine PW_iload_n zd_M_isEmpty_1 rfl ?_
  refine PW_iload_n zd_M_isEmpty_2 rfl ?_
  refine PW_callV2i zd_M_isEmpty_3 zl_M_420 zk_M_isSquare zv_M_isSquare (fr' := 1) (by decide) (zs_58 _) rfl rfl (Nat.le_of_ble_eq_true rfl) ?_
  refine ms_mono h ?_
  rintro v σ1 (⟨rfl, h⟩ | ⟨rfl, h⟩)
  · refine ⟨0, rfl, ?_⟩
    refine PW_if_eq zd_M_isEmpty_6 (by decide) (fun _ => ?_) (fun q => absurd rfl q)
    refine PW_iconst zd_M_isEmpty_26 ?_
    exact PW_zret zd_M_isEmpty_27 rfl (by decide) h
  · refine ⟨1, rfl, ?_⟩
    refine PW_if_eq zd_M_isEmpty_6 (by decide) (fun q => absurd q (by decide)) (fun _ => ?_)
    refine PW_aload_n zd_M_isEmpty_9 rfl ?_
    refine PW_bipush zd_M_isEmpty_10 rfl ?_
    refine PW_iload_n zd_M_isEmpty_12 rfl ?_
    refine PW_imul zd_M_isEmpty_13 ?_
    refine PW_iload_n zd_M_isEmpty_14 rfl ?_
    refine PW_iadd zd_M_isEmpty_15 ?_
    refine PW_callV1i zd_M_isEmpty_16 zl_M_424 zk_M_sortAt zv_M_sortAt (fr' := 1) (by decide) (zs_58 _) rfl rfl (Nat.le_of_ble_eq_true rfl) ?_
    refine ms_mono h ?_
    rintro v σ1 ⟨z, rfl, h⟩
    refine ⟨z, rfl, ?_⟩
    obtain ⟨h0, hT, hF⟩ := h
    refine PW_if_ne zd_M_isEmpty_19 h0 (fun q => ?_) (fun q => ?_)
    · have h := hT q
      refine PW_iconst zd_M_isEmpty_26 ?_
      exact PW_zret zd_M_isEmpty_27 rfl (by decide) h
    · have h := hF q
      refine PW_iconst zd_M_isEmpty_22 ?_
      refine PW_goto zd_M_isEmpty_23 ?_
      exact PW_zret zd_M_isEmpty_27 rfl (by decide) h
def w_M_shadowOf (G : zG) (q without : Int) (X : zX) (σ : zPH) : Prop :=
  ∀ σ2 : zPH, σ2 = zupd σ 58 46 q →
  ∀ σ8 : zPH, σ8 = zupd σ2 58 47 6 →
  ∀ σ13 : zPH, σ13 = zupd σ8 58 48 (-1) →
  MS G zm_M_litEnd 7 [zr G 58] σ13 (fun v σ17 =>
    ∃ z17 : Int, v = some (iZ z17) ∧
    ∀ σ23 : zPH, σ23 = zupd σ17 58 46 (-1) →
    (zI z17) ∧
    (z17 = (-1) →
      X (some (iZ 0)) σ23) ∧
    (z17 ≠ (-1) →
      (zI without) ∧
      (without ≠ (-1) →
        (0 ≤ without ∧ 0 ≤ z17) ∧
        MS G zm_M_bitsOf 0 [iZ (zdif without z17)] σ23 (fun v σ45 =>
          ∃ z45 : Int, v = some (iZ z45) ∧
          X (some (iZ z45)) σ45)) ∧
      (without = (-1) →
        X (some (iZ 0)) σ23)))
set_option maxHeartbeats 4000000 in
theorem k_M_shadowOf {G : zG} {q without : Int} {X : zX} {σ : zPH} (h : w_M_shadowOf G q without X σ) : MS G zm_M_shadowOf 8 [zr G 58, iZ q, iZ without] σ X := by
  refine ms_of zk_M_shadowOf (Nat.le_of_ble_eq_true rfl) (ls := [some (zr G 58), some (iZ q), some (iZ without), none]) rfl ?_
  unfold w_M_shadowOf at h
  refine PW_aload_n zd_M_shadowOf_0 rfl ?_
  refine PW_iload_n zd_M_shadowOf_1 rfl ?_
  refine PW_putI zd_M_shadowOf_2 zp_M_153 (zs_58 _) rfl ?_
  have h := h _ rfl
  refine PW_aload_n zd_M_shadowOf_5 rfl ?_
  refine PW_bipush zd_M_shadowOf_6 rfl ?_
  refine PW_putI zd_M_shadowOf_8 zp_M_156 (zs_58 _) rfl ?_
  have h := h _ rfl
  refine PW_aload_n zd_M_shadowOf_11 rfl ?_
  refine PW_iconst zd_M_shadowOf_12 ?_
  refine PW_putI zd_M_shadowOf_13 zp_M_159 (zs_58 _) rfl ?_
  have h := h _ rfl
  refine PW_aload_n zd_M_shadowOf_16 rfl ?_
  refine PW_callV0i zd_M_shadowOf_17 zl_M_473 zk_M_litEnd zv_M_litEnd (fr' := 7) (by decide) (zs_58 _) rfl rfl (Nat.le_of_ble_eq_true rfl) ?_
  refine ms_mono h ?_
  rintro v σ1 ⟨z, rfl, h⟩
  refine ⟨z, rfl, ?_⟩
  refine PW_istore_n zd_M_shadowOf_20 rfl (by decide) (ls2 := [_, _, _, _]) rfl ?_
  refine PW_aload_n zd_M_shadowOf_21 rfl ?_
  refine PW_iconst zd_M_shadowOf_22 ?_
  refine PW_putI zd_M_shadowOf_23 zp_M_153 (zs_58 _) rfl ?_
  have h := h _ rfl
  refine PW_iload_n zd_M_shadowOf_26 rfl ?_
  refine PW_iconst zd_M_shadowOf_27 ?_
  obtain ⟨h0, hT, hF⟩ := h
  refine PW_icmp_eq zd_M_shadowOf_28 ⟨h0, by decide⟩ (fun q => ?_) (fun q => ?_)
  · have h := hT q
    refine PW_iconst zd_M_shadowOf_36 ?_
    refine PW_goto zd_M_shadowOf_37 ?_
    exact PW_iret zd_M_shadowOf_48 rfl h
  · have h := hF q
    refine PW_iload_n zd_M_shadowOf_31 rfl ?_
    refine PW_iconst zd_M_shadowOf_32 ?_
    obtain ⟨h0, hT, hF⟩ := h
    refine PW_icmp_ne zd_M_shadowOf_33 ⟨h0, by decide⟩ (fun q => ?_) (fun q => ?_)
    · have h := hT q
      refine PW_iload_n zd_M_shadowOf_40 rfl ?_
      refine PW_iload_n zd_M_shadowOf_41 rfl ?_
      refine PW_iconst zd_M_shadowOf_42 ?_
      refine PW_ixorM zd_M_shadowOf_43 ?_
      obtain ⟨h0, h⟩ := h
      refine PW_iandn zd_M_shadowOf_44 h0 ?_
      refine PW_callS1i zd_M_shadowOf_45 zl_M_452 zk_M_bitsOf zv_M_bitsOf (fr' := 0) (by decide) (Nat.le_of_ble_eq_true rfl) ?_
      refine ms_mono h ?_
      rintro v σ1 ⟨z, rfl, h⟩
      refine ⟨z, rfl, ?_⟩
      exact PW_iret zd_M_shadowOf_48 rfl h
    · have h := hF q
      refine PW_iconst zd_M_shadowOf_36 ?_
      refine PW_goto zd_M_shadowOf_37 ?_
      exact PW_iret zd_M_shadowOf_48 rfl h
def w_M_shadow (G : zG) (column row : Int) (X : zX) (σ : zPH) : Prop :=
  MS G zm_M_isEmpty 2 [zr G 58, iZ column, iZ row] σ (fun v σ3 =>
    (v = some (iZ 0) ∧
      X (some (iZ (-1))) σ3) ∨
    (v = some (iZ 1) ∧
      MS G zm_M_litEnd 7 [zr G 58] σ3 (fun v σ17 =>
        ∃ z17 : Int, v = some (iZ z17) ∧
        MS G zm_M_shadowOf 8 [zr G 58, iZ ((12 * row) + column), iZ z17] σ17 (fun v σ20 =>
          ∃ z20 : Int, v = some (iZ z20) ∧
          X (some (iZ z20)) σ20))))
set_option maxHeartbeats 4000000 in
theorem k_M_shadow {G : zG} {column row : Int} {X : zX} {σ : zPH} (h : w_M_shadow G column row X σ) : MS G zm_M_shadow 9 [zr G 58, iZ column, iZ row] σ X := by
  refine ms_of zk_M_shadow (Nat.le_of_ble_eq_true rfl) (ls := [some (zr G 58), some (iZ column), some (iZ row)]) rfl ?_
  unfold w_M_shadow at h
  refine PW_aload_n zd_M_shadow_0 rfl ?_
  refine PW_iload_n zd_M_shadow_1 rfl ?_
  refine PW_iload_n zd_M_shadow_2 rfl ?_
  refine PW_callV2i zd_M_shadow_3 zl_M_479 zk_M_isEmpty zv_M_isEmpty (fr' := 2) (by decide) (zs_58 _) rfl rfl (Nat.le_of_ble_eq_true rfl) ?_
  refine ms_mono h ?_
  rintro v σ1 (⟨rfl, h⟩ | ⟨rfl, h⟩)
  · refine ⟨0, rfl, ?_⟩
    refine PW_if_eq zd_M_shadow_6 (by decide) (fun _ => ?_) (fun q => absurd rfl q)
    refine PW_iconst zd_M_shadow_26 ?_
    exact PW_iret zd_M_shadow_27 rfl h
  · refine ⟨1, rfl, ?_⟩
    refine PW_if_eq zd_M_shadow_6 (by decide) (fun q => absurd q (by decide)) (fun _ => ?_)
    refine PW_aload_n zd_M_shadow_9 rfl ?_
    refine PW_bipush zd_M_shadow_10 rfl ?_
    refine PW_iload_n zd_M_shadow_12 rfl ?_
    refine PW_imul zd_M_shadow_13 ?_
    refine PW_iload_n zd_M_shadow_14 rfl ?_
    refine PW_iadd zd_M_shadow_15 ?_
    refine PW_aload_n zd_M_shadow_16 rfl ?_
    refine PW_callV0i zd_M_shadow_17 zl_M_473 zk_M_litEnd zv_M_litEnd (fr' := 7) (by decide) (zs_58 _) rfl rfl (Nat.le_of_ble_eq_true rfl) ?_
    refine ms_mono h ?_
    rintro v σ1 ⟨z, rfl, h⟩
    refine ⟨z, rfl, ?_⟩
    refine PW_callV2i zd_M_shadow_20 zl_M_482 zk_M_shadowOf zv_M_shadowOf (fr' := 8) (by decide) (zs_58 _) rfl rfl (Nat.le_of_ble_eq_true rfl) ?_
    refine ms_mono h ?_
    rintro v σ1 ⟨z, rfl, h⟩
    refine ⟨z, rfl, ?_⟩
    refine PW_goto zd_M_shadow_23 ?_
    exact PW_iret zd_M_shadow_27 rfl h
def b_M_darkest_107 (G : zG) (what : Int) (X : zX) (K24 : Int → Int → Int → Int → zPH → Prop) (K41 : Int → Int → Int → Int → Int → zPH → Prop) (x2 x3 x4 x5 x6 : Int) (σ : zPH) : Prop :=
  K41 x2 x3 x4 x5 (x6 + 1) σ
set_option maxHeartbeats 4000000 in
theorem kb_M_darkest_107 {G : zG} {what : Int} {X : zX} {K24 : Int → Int → Int → Int → zPH → Prop} {K41 : Int → Int → Int → Int → Int → zPH → Prop} (hK24 : ∀ (y0 y1 y2 y3 : Int) (σ : zPH), K24 y0 y1 y2 y3 σ → PW G zm_M_darkest 9 X 24 [some (zr G 58), some (iZ what), some (iZ y0), some (iZ y1), some (iZ y2), some (iZ y3), none, none] [] σ) (hK41 : ∀ (y0 y1 y2 y3 y4 : Int) (σ : zPH), K41 y0 y1 y2 y3 y4 σ → PW G zm_M_darkest 9 X 41 [some (zr G 58), some (iZ what), some (iZ y0), some (iZ y1), some (iZ y2), some (iZ y3), some (iZ y4), none] [] σ) {x2 x3 x4 x5 x6 : Int} {σ : zPH} (h : b_M_darkest_107 G what X K24 K41 x2 x3 x4 x5 x6 σ) : PW G zm_M_darkest 9 X 107 [some (zr G 58), some (iZ what), some (iZ x2), some (iZ x3), some (iZ x4), some (iZ x5), some (iZ x6), none] [] σ := by
  unfold b_M_darkest_107 at h
  refine PW_iinc zd_M_darkest_107 rfl rfl (by decide) (ls2 := [_, _, _, _, _, _, _, _]) rfl ?_
  refine PW_goto zd_M_darkest_110 ?_
  exact PW_sub (by exact ⟨rfl, rfl, rfl, rfl, rfl, rfl, rfl, trivial⟩) (hK41 _ _ _ _ _ _ h)
def b_M_darkest_83 (G : zG) (what : Int) (X : zX) (K24 : Int → Int → Int → Int → zPH → Prop) (K41 : Int → Int → Int → Int → Int → zPH → Prop) (x2 x3 x4 x5 x6 s0 : Int) (σ : zPH) : Prop :=
  (zI s0 ∧ zI x3) ∧
  (x3 < s0 →
    ∀ x4_ : Int, x4_ = ((12 * x5) + x6) →
    b_M_darkest_107 G what X K24 K41 x2 s0 x4_ x5 x6 σ) ∧
  (s0 ≤ x3 →
    b_M_darkest_107 G what X K24 K41 x2 x3 x4 x5 x6 σ)
set_option maxHeartbeats 4000000 in
theorem kb_M_darkest_83 {G : zG} {what : Int} {X : zX} {K24 : Int → Int → Int → Int → zPH → Prop} {K41 : Int → Int → Int → Int → Int → zPH → Prop} (hK24 : ∀ (y0 y1 y2 y3 : Int) (σ : zPH), K24 y0 y1 y2 y3 σ → PW G zm_M_darkest 9 X 24 [some (zr G 58), some (iZ what), some (iZ y0), some (iZ y1), some (iZ y2), some (iZ y3), none, none] [] σ) (hK41 : ∀ (y0 y1 y2 y3 y4 : Int) (σ : zPH), K41 y0 y1 y2 y3 y4 σ → PW G zm_M_darkest 9 X 41 [some (zr G 58), some (iZ what), some (iZ y0), some (iZ y1), some (iZ y2), some (iZ y3), some (iZ y4), none] [] σ) {x2 x3 x4 x5 x6 s0 : Int} {σ : zPH} (h : b_M_darkest_83 G what X K24 K41 x2 x3 x4 x5 x6 s0 σ) : PW G zm_M_darkest 9 X 83 [some (zr G 58), some (iZ what), some (iZ x2), some (iZ x3), some (iZ x4), some (iZ x5), some (iZ x6), none] [iZ s0] σ := by
  unfold b_M_darkest_83 at h
  refine PW_istore zd_M_darkest_83 rfl (by decide) (ls2 := [_, _, _, _, _, _, _, _]) rfl ?_
  refine PW_iload zd_M_darkest_85 rfl ?_
  refine PW_iload_n zd_M_darkest_87 rfl ?_
  obtain ⟨h0, hT, hF⟩ := h
  refine PW_icmp_gt zd_M_darkest_88 h0 (fun q => ?_) (fun q => ?_)
  · have h := hT q
    refine PW_iload zd_M_darkest_94 rfl ?_
    refine PW_istore_n zd_M_darkest_96 rfl (by decide) (ls2 := [_, _, _, _, _, _, _, _]) rfl ?_
    refine PW_bipush zd_M_darkest_97 rfl ?_
    refine PW_iload zd_M_darkest_99 rfl ?_
    refine PW_imul zd_M_darkest_101 ?_
    refine PW_iload zd_M_darkest_102 rfl ?_
    refine PW_iadd zd_M_darkest_104 ?_
    refine PW_istore zd_M_darkest_105 rfl (by decide) (ls2 := [_, _, _, _, _, _, _, _]) rfl ?_
    have h := h _ rfl
    exact PW_sub (by exact ⟨rfl, rfl, rfl, rfl, rfl, rfl, rfl, trivial⟩) (kb_M_darkest_107  hK24 hK41 h)
  · have h := hF q
    refine PW_goto zd_M_darkest_91 ?_
    exact PW_sub (by exact ⟨rfl, rfl, rfl, rfl, rfl, rfl, rfl, trivial⟩) (kb_M_darkest_107  hK24 hK41 h)
def b_M_darkest_41 (G : zG) (what : Int) (X : zX) (K24 : Int → Int → Int → Int → zPH → Prop) (K41 : Int → Int → Int → Int → Int → zPH → Prop) (x2 x3 x4 x5 x6 : Int) (σ : zPH) : Prop :=
  (0 ≤ (σ 58 13) ∧ (σ 58 13) < 2) ∧
  (zI x6 ∧ zI (σ 60 (σ 58 13).toNat)) ∧
  ((σ 60 (σ 58 13).toNat) ≤ x6 →
    K24 x2 x3 x4 (x5 + 1) σ) ∧
  (x6 < (σ 60 (σ 58 13).toNat) →
    MS G zm_M_isEmpty 2 [zr G 58, iZ x6, iZ x5] σ (fun v σ60 =>
      (v = some (iZ 0) ∧
        b_M_darkest_83 G what X K24 K41 x2 x3 x4 x5 x6 (-1) σ60) ∨
      (v = some (iZ 1) ∧
        MS G zm_M_shadowOf 8 [zr G 58, iZ ((12 * x5) + x6), iZ x2] σ60 (fun v σ76 =>
          ∃ z76 : Int, v = some (iZ z76) ∧
          b_M_darkest_83 G what X K24 K41 x2 x3 x4 x5 x6 z76 σ76))))
set_option maxHeartbeats 4000000 in
theorem kb_M_darkest_41 {G : zG} {what : Int} {X : zX} {K24 : Int → Int → Int → Int → zPH → Prop} {K41 : Int → Int → Int → Int → Int → zPH → Prop} (hK24 : ∀ (y0 y1 y2 y3 : Int) (σ : zPH), K24 y0 y1 y2 y3 σ → PW G zm_M_darkest 9 X 24 [some (zr G 58), some (iZ what), some (iZ y0), some (iZ y1), some (iZ y2), some (iZ y3), none, none] [] σ) (hK41 : ∀ (y0 y1 y2 y3 y4 : Int) (σ : zPH), K41 y0 y1 y2 y3 y4 σ → PW G zm_M_darkest 9 X 41 [some (zr G 58), some (iZ what), some (iZ y0), some (iZ y1), some (iZ y2), some (iZ y3), some (iZ y4), none] [] σ) {x2 x3 x4 x5 x6 : Int} {σ : zPH} (h : b_M_darkest_41 G what X K24 K41 x2 x3 x4 x5 x6 σ) : PW G zm_M_darkest 9 X 41 [some (zr G 58), some (iZ what), some (iZ x2), some (iZ x3), some (iZ x4), some (iZ x5), some (iZ x6), none] [] σ := by
  unfold b_M_darkest_41 at h
  refine PW_iload zd_M_darkest_41 rfl ?_
  refine PW_aload_n zd_M_darkest_43 rfl ?_
  refine PW_getR zd_M_darkest_44 zf_M_54 (zs_58 _) rfl ?_
  refine PW_aload_n zd_M_darkest_47 rfl ?_
  refine PW_getI zd_M_darkest_48 zf_M_51 (zs_58 _) rfl ?_
  obtain ⟨h0, h⟩ := h
  refine PW_iaload zd_M_darkest_51 (zs_60 _) h0 ?_
  obtain ⟨h0, hT, hF⟩ := h
  refine PW_icmp_ge zd_M_darkest_52 h0 (fun q => ?_) (fun q => ?_)
  · have h := hT q
    refine PW_iinc zd_M_darkest_113 rfl rfl (by decide) (ls2 := [_, _, _, _, _, _, _, _]) rfl ?_
    refine PW_goto zd_M_darkest_116 ?_
    exact PW_sub (by exact ⟨rfl, rfl, rfl, rfl, rfl, rfl, trivial⟩) (hK24 _ _ _ _ _ h)
  · have h := hF q
    refine PW_aload_n zd_M_darkest_55 rfl ?_
    refine PW_iload zd_M_darkest_56 rfl ?_
    refine PW_iload zd_M_darkest_58 rfl ?_
    refine PW_callV2i zd_M_darkest_60 zl_M_479 zk_M_isEmpty zv_M_isEmpty (fr' := 2) (by decide) (zs_58 _) rfl rfl (Nat.le_of_ble_eq_true rfl) ?_
    refine ms_mono h ?_
    rintro v σ1 (⟨rfl, h⟩ | ⟨rfl, h⟩)
    · refine ⟨0, rfl, ?_⟩
      refine PW_if_eq zd_M_darkest_63 (by decide) (fun _ => ?_) (fun q => absurd rfl q)
      refine PW_iconst zd_M_darkest_82 ?_
      exact PW_sub (by exact ⟨rfl, rfl, rfl, rfl, rfl, rfl, rfl, trivial⟩) (kb_M_darkest_83  hK24 hK41 h)
    · refine ⟨1, rfl, ?_⟩
      refine PW_if_eq zd_M_darkest_63 (by decide) (fun q => absurd q (by decide)) (fun _ => ?_)
      refine PW_aload_n zd_M_darkest_66 rfl ?_
      refine PW_bipush zd_M_darkest_67 rfl ?_
      refine PW_iload zd_M_darkest_69 rfl ?_
      refine PW_imul zd_M_darkest_71 ?_
      refine PW_iload zd_M_darkest_72 rfl ?_
      refine PW_iadd zd_M_darkest_74 ?_
      refine PW_iload_n zd_M_darkest_75 rfl ?_
      refine PW_callV2i zd_M_darkest_76 zl_M_482 zk_M_shadowOf zv_M_shadowOf (fr' := 8) (by decide) (zs_58 _) rfl rfl (Nat.le_of_ble_eq_true rfl) ?_
      refine ms_mono h ?_
      rintro v σ1 ⟨z, rfl, h⟩
      refine ⟨z, rfl, ?_⟩
      refine PW_goto zd_M_darkest_79 ?_
      exact PW_sub (by exact ⟨rfl, rfl, rfl, rfl, rfl, rfl, rfl, trivial⟩) (kb_M_darkest_83  hK24 hK41 h)
theorem kl_M_darkest_41 {G : zG} {what : Int} {X : zX} {K24 : Int → Int → Int → Int → zPH → Prop} (hK24 : ∀ (y0 y1 y2 y3 : Int) (σ : zPH), K24 y0 y1 y2 y3 σ → PW G zm_M_darkest 9 X 24 [some (zr G 58), some (iZ what), some (iZ y0), some (iZ y1), some (iZ y2), some (iZ y3), none, none] [] σ) {x2 x3 x4 x5 x6 : Int} {σ : zPH} (h : zLP5 (b_M_darkest_41 G what X K24) x2 x3 x4 x5 x6 σ) : PW G zm_M_darkest 9 X 41 [some (zr G 58), some (iZ what), some (iZ x2), some (iZ x3), some (iZ x4), some (iZ x5), some (iZ x6), none] [] σ := by
  obtain ⟨n, h⟩ := h
  induction n generalizing x2 x3 x4 x5 x6 σ with
  | zero => exact h.elim
  | succ n ih => exact kb_M_darkest_41  hK24 (fun _ _ _ _ _ _ h => ih h) h
def b_M_darkest_24 (G : zG) (what : Int) (X : zX) (K24 : Int → Int → Int → Int → zPH → Prop) (x2 x3 x4 x5 : Int) (σ : zPH) : Prop :=
  (0 ≤ (σ 58 13) ∧ (σ 58 13) < 2) ∧
  (zI x5 ∧ zI (σ 61 (σ 58 13).toNat)) ∧
  ((σ 61 (σ 58 13).toNat) ≤ x5 →
    (zI x4) ∧
    (x4 ≠ (-1) →
      (zI what) ∧
      (what ≠ 0 →
        (zI what) ∧
        (what ≠ 1 →
          X (some (iZ x3)) σ) ∧
        (what = 1 →
          (0 ≤ x4 ∧ x4 < 2147483648) ∧
          X (some (iZ (x4 / 12))) σ)) ∧
      (what = 0 →
        (0 ≤ x4 ∧ x4 < 2147483648) ∧
        X (some (iZ (x4 % 12))) σ)) ∧
    (x4 = (-1) →
      X (some (iZ (-1))) σ)) ∧
  (x5 < (σ 61 (σ 58 13).toNat) →
    zLP5 (b_M_darkest_41 G what X K24) x2 x3 x4 x5 0 σ)
set_option maxHeartbeats 4000000 in
theorem kb_M_darkest_24 {G : zG} {what : Int} {X : zX} {K24 : Int → Int → Int → Int → zPH → Prop} (hK24 : ∀ (y0 y1 y2 y3 : Int) (σ : zPH), K24 y0 y1 y2 y3 σ → PW G zm_M_darkest 9 X 24 [some (zr G 58), some (iZ what), some (iZ y0), some (iZ y1), some (iZ y2), some (iZ y3), none, none] [] σ) {x2 x3 x4 x5 : Int} {σ : zPH} (h : b_M_darkest_24 G what X K24 x2 x3 x4 x5 σ) : PW G zm_M_darkest 9 X 24 [some (zr G 58), some (iZ what), some (iZ x2), some (iZ x3), some (iZ x4), some (iZ x5), none, none] [] σ := by
  unfold b_M_darkest_24 at h
  refine PW_iload zd_M_darkest_24 rfl ?_
  refine PW_aload_n zd_M_darkest_26 rfl ?_
  refine PW_getR zd_M_darkest_27 zf_M_57 (zs_58 _) rfl ?_
  refine PW_aload_n zd_M_darkest_30 rfl ?_
  refine PW_getI zd_M_darkest_31 zf_M_51 (zs_58 _) rfl ?_
  obtain ⟨h0, h⟩ := h
  refine PW_iaload zd_M_darkest_34 (zs_61 _) h0 ?_
  obtain ⟨h0, hT, hF⟩ := h
  refine PW_icmp_ge zd_M_darkest_35 h0 (fun q => ?_) (fun q => ?_)
  · have h := hT q
    refine PW_iload zd_M_darkest_119 rfl ?_
    refine PW_iconst zd_M_darkest_121 ?_
    obtain ⟨h0, hT, hF⟩ := h
    refine PW_icmp_ne zd_M_darkest_122 ⟨h0, by decide⟩ (fun q => ?_) (fun q => ?_)
    · have h := hT q
      refine PW_iload_n zd_M_darkest_129 rfl ?_
      obtain ⟨h0, hT, hF⟩ := h
      refine PW_if_ne zd_M_darkest_130 h0 (fun q => ?_) (fun q => ?_)
      · have h := hT q
        refine PW_iload_n zd_M_darkest_141 rfl ?_
        refine PW_iconst zd_M_darkest_142 ?_
        obtain ⟨h0, hT, hF⟩ := h
        refine PW_icmp_ne zd_M_darkest_143 ⟨h0, by decide⟩ (fun q => ?_) (fun q => ?_)
        · have h := hT q
          refine PW_iload_n zd_M_darkest_154 rfl ?_
          exact PW_iret zd_M_darkest_155 rfl h
        · have h := hF q
          refine PW_iload zd_M_darkest_146 rfl ?_
          refine PW_bipush zd_M_darkest_148 rfl ?_
          obtain ⟨h0, h⟩ := h
          refine PW_idiv zd_M_darkest_150 ⟨h0, by decide⟩ ?_
          refine PW_goto zd_M_darkest_151 ?_
          exact PW_iret zd_M_darkest_155 rfl h
      · have h := hF q
        refine PW_iload zd_M_darkest_133 rfl ?_
        refine PW_bipush zd_M_darkest_135 rfl ?_
        obtain ⟨h0, h⟩ := h
        refine PW_irem zd_M_darkest_137 ⟨h0, by decide⟩ ?_
        refine PW_goto zd_M_darkest_138 ?_
        exact PW_iret zd_M_darkest_155 rfl h
    · have h := hF q
      refine PW_iconst zd_M_darkest_125 ?_
      refine PW_goto zd_M_darkest_126 ?_
      exact PW_iret zd_M_darkest_155 rfl h
  · have h := hF q
    refine PW_iconst zd_M_darkest_38 ?_
    refine PW_istore zd_M_darkest_39 rfl (by decide) (ls2 := [_, _, _, _, _, _, _, _]) rfl ?_
    exact PW_sub (by exact ⟨rfl, rfl, rfl, rfl, rfl, rfl, rfl, trivial⟩) (kl_M_darkest_41  hK24 h)
theorem kl_M_darkest_24 {G : zG} {what : Int} {X : zX} {x2 x3 x4 x5 : Int} {σ : zPH} (h : zLP4 (b_M_darkest_24 G what X ) x2 x3 x4 x5 σ) : PW G zm_M_darkest 9 X 24 [some (zr G 58), some (iZ what), some (iZ x2), some (iZ x3), some (iZ x4), some (iZ x5), none, none] [] σ := by
  obtain ⟨n, h⟩ := h
  induction n generalizing x2 x3 x4 x5 σ with
  | zero => exact h.elim
  | succ n ih => exact kb_M_darkest_24   (fun _ _ _ _ _ h => ih h) h
def w_M_darkest (G : zG) (what : Int) (X : zX) (σ : zPH) : Prop :=
  MS G zm_M_is 0 [iZ what, iZ 0, iZ 2] σ (fun v σ3 =>
    (v = some (iZ 0) ∧
      X (some (iZ (-1))) σ3) ∨
    (v = some (iZ 1) ∧
      MS G zm_M_litEnd 7 [zr G 58] σ3 (fun v σ12 =>
        ∃ z12 : Int, v = some (iZ z12) ∧
        zLP4 (b_M_darkest_24 G what X ) z12 (-1) (-1) 0 σ12)))
set_option maxHeartbeats 4000000 in
theorem k_M_darkest {G : zG} {what : Int} {X : zX} {σ : zPH} (h : w_M_darkest G what X σ) : MS G zm_M_darkest 9 [zr G 58, iZ what] σ X := by
  refine ms_of zk_M_darkest (Nat.le_of_ble_eq_true rfl) (ls := [some (zr G 58), some (iZ what), none, none, none, none, none, none]) rfl ?_
  unfold w_M_darkest at h
  refine PW_iload_n zd_M_darkest_0 rfl ?_
  refine PW_iconst zd_M_darkest_1 ?_
  refine PW_iconst zd_M_darkest_2 ?_
  refine PW_callS3i zd_M_darkest_3 zl_M_320 zk_M_is zv_M_is (fr' := 0) (by decide) (Nat.le_of_ble_eq_true rfl) ?_
  refine ms_mono h ?_
  rintro v σ1 (⟨rfl, h⟩ | ⟨rfl, h⟩)
  · refine ⟨0, rfl, ?_⟩
    refine PW_if_ne zd_M_darkest_6 (by decide) (fun q => absurd rfl q) (fun _ => ?_)
    refine PW_iconst zd_M_darkest_9 ?_
    exact PW_iret zd_M_darkest_10 rfl h
  · refine ⟨1, rfl, ?_⟩
    refine PW_if_ne zd_M_darkest_6 (by decide) (fun _ => ?_) (fun q => absurd q (by decide))
    refine PW_aload_n zd_M_darkest_11 rfl ?_
    refine PW_callV0i zd_M_darkest_12 zl_M_473 zk_M_litEnd zv_M_litEnd (fr' := 7) (by decide) (zs_58 _) rfl rfl (Nat.le_of_ble_eq_true rfl) ?_
    refine ms_mono h ?_
    rintro v σ1 ⟨z, rfl, h⟩
    refine ⟨z, rfl, ?_⟩
    refine PW_istore_n zd_M_darkest_15 rfl (by decide) (ls2 := [_, _, _, _, _, _, _, _]) rfl ?_
    refine PW_iconst zd_M_darkest_16 ?_
    refine PW_istore_n zd_M_darkest_17 rfl (by decide) (ls2 := [_, _, _, _, _, _, _, _]) rfl ?_
    refine PW_iconst zd_M_darkest_18 ?_
    refine PW_istore zd_M_darkest_19 rfl (by decide) (ls2 := [_, _, _, _, _, _, _, _]) rfl ?_
    refine PW_iconst zd_M_darkest_21 ?_
    refine PW_istore zd_M_darkest_22 rfl (by decide) (ls2 := [_, _, _, _, _, _, _, _]) rfl ?_
    exact PW_sub (by exact ⟨rfl, rfl, rfl, rfl, rfl, rfl, trivial⟩) (kl_M_darkest_24   h)
def b_M_more_116 (G : zG) (what : Int) (X : zX) (K13 : Int → zPH → Prop) (x2 : Int) (σ : zPH) : Prop :=
  K13 (x2 + 1) σ
set_option maxHeartbeats 4000000 in
theorem kb_M_more_116 {G : zG} {what : Int} {X : zX} {K13 : Int → zPH → Prop} (hK13 : ∀ (y0 : Int) (σ : zPH), K13 y0 σ → PW G zm_M_more 9 X 13 [some (zr G 58), some (iZ what), some (iZ y0), none, none, none] [] σ) {x2 : Int} {σ : zPH} (h : b_M_more_116 G what X K13 x2 σ) : PW G zm_M_more 9 X 116 [some (zr G 58), some (iZ what), some (iZ x2), none, none, none] [] σ := by
  unfold b_M_more_116 at h
  refine PW_iinc zd_M_more_116 rfl rfl (by decide) (ls2 := [_, _, _, _, _, _]) rfl ?_
  refine PW_goto zd_M_more_119 ?_
  exact PW_sub (by exact ⟨rfl, rfl, rfl, trivial⟩) (hK13 _ _ h)
def b_M_more_13 (G : zG) (what : Int) (X : zX) (K13 : Int → zPH → Prop) (x2 : Int) (σ : zPH) : Prop :=
  (0 ≤ (σ 58 13) ∧ (σ 58 13) < 2) ∧
  (zI x2 ∧ zI (24 * (σ 61 (σ 58 13).toNat))) ∧
  ((24 * (σ 61 (σ 58 13).toNat)) ≤ x2 →
    X (some (iZ (-1))) σ) ∧
  (x2 < (24 * (σ 61 (σ 58 13).toNat)) →
    (0 ≤ x2 ∧ x2 < 2147483648) ∧
    ∀ x3 : Int, x3 = (x2 / 24) →
    (0 ≤ x2 ∧ x2 < 2147483648) ∧
    (0 ≤ (x2 / 2) ∧ (x2 / 2) < 2147483648) ∧
    ∀ x4 : Int, x4 = ((x2 / 2) % 12) →
    MS G zm_M_isEmpty 2 [zr G 58, iZ x4, iZ x3] σ (fun v σ46 =>
      (v = some (iZ 0) ∧
        b_M_more_116 G what X K13 x2 σ46) ∨
      (v = some (iZ 1) ∧
        ∀ σ63 : zPH, σ63 = zupd σ46 58 46 ((12 * x3) + x4) →
        ∀ σ68 : zPH, σ68 = zupd σ63 58 47 2 →
        (0 ≤ x2 ∧ x2 < 2147483648) ∧
        ∀ σ75 : zPH, σ75 = zupd σ68 58 48 (x2 % 2) →
        MS G zm_M_isMet 8 [zr G 58] σ75 (fun v σ79 =>
          ∃ z79 : Int, (z79 = 0 ∨ z79 = 1) ∧ v = some (iZ z79) ∧
          ∀ σ86 : zPH, σ86 = zupd σ79 58 46 (-1) →
          (zI z79) ∧
          (z79 = 0 →
            b_M_more_116 G what X K13 x2 σ86) ∧
          (z79 ≠ 0 →
            (zI what) ∧
            (what ≠ 0 →
              (zI what) ∧
              (what ≠ 1 →
                (0 ≤ x2 ∧ x2 < 2147483648) ∧
                X (some (iZ (x2 % 2))) σ86) ∧
              (what = 1 →
                X (some (iZ x3)) σ86)) ∧
            (what = 0 →
              X (some (iZ x4)) σ86))))))
set_option maxHeartbeats 4000000 in
theorem kb_M_more_13 {G : zG} {what : Int} {X : zX} {K13 : Int → zPH → Prop} (hK13 : ∀ (y0 : Int) (σ : zPH), K13 y0 σ → PW G zm_M_more 9 X 13 [some (zr G 58), some (iZ what), some (iZ y0), none, none, none] [] σ) {x2 : Int} {σ : zPH} (h : b_M_more_13 G what X K13 x2 σ) : PW G zm_M_more 9 X 13 [some (zr G 58), some (iZ what), some (iZ x2), none, none, none] [] σ := by
  unfold b_M_more_13 at h
  refine PW_iload_n zd_M_more_13 rfl ?_
  refine PW_bipush zd_M_more_14 rfl ?_
  refine PW_aload_n zd_M_more_16 rfl ?_
  refine PW_getR zd_M_more_17 zf_M_57 (zs_58 _) rfl ?_
  refine PW_aload_n zd_M_more_20 rfl ?_
  refine PW_getI zd_M_more_21 zf_M_51 (zs_58 _) rfl ?_
  obtain ⟨h0, h⟩ := h
  refine PW_iaload zd_M_more_24 (zs_61 _) h0 ?_
  refine PW_imul zd_M_more_25 ?_
  obtain ⟨h0, hT, hF⟩ := h
  refine PW_icmp_ge zd_M_more_26 h0 (fun q => ?_) (fun q => ?_)
  · have h := hT q
    refine PW_iconst zd_M_more_122 ?_
    exact PW_iret zd_M_more_123 rfl h
  · have h := hF q
    refine PW_iload_n zd_M_more_29 rfl ?_
    refine PW_bipush zd_M_more_30 rfl ?_
    obtain ⟨h0, h⟩ := h
    refine PW_idiv zd_M_more_32 ⟨h0, by decide⟩ ?_
    refine PW_istore_n zd_M_more_33 rfl (by decide) (ls2 := [_, _, _, _, _, _]) rfl ?_
    have h := h _ rfl
    refine PW_iload_n zd_M_more_34 rfl ?_
    refine PW_iconst zd_M_more_35 ?_
    obtain ⟨h0, h⟩ := h
    refine PW_idiv zd_M_more_36 ⟨h0, by decide⟩ ?_
    refine PW_bipush zd_M_more_37 rfl ?_
    obtain ⟨h0, h⟩ := h
    refine PW_irem zd_M_more_39 ⟨h0, by decide⟩ ?_
    refine PW_istore zd_M_more_40 rfl (by decide) (ls2 := [_, _, _, _, _, _]) rfl ?_
    have h := h _ rfl
    refine PW_aload_n zd_M_more_42 rfl ?_
    refine PW_iload zd_M_more_43 rfl ?_
    refine PW_iload_n zd_M_more_45 rfl ?_
    refine PW_callV2i zd_M_more_46 zl_M_479 zk_M_isEmpty zv_M_isEmpty (fr' := 2) (by decide) (zs_58 _) rfl rfl (Nat.le_of_ble_eq_true rfl) ?_
    refine ms_mono h ?_
    rintro v σ1 (⟨rfl, h⟩ | ⟨rfl, h⟩)
    · refine ⟨0, rfl, ?_⟩
      refine PW_if_ne zd_M_more_49 (by decide) (fun q => absurd rfl q) (fun _ => ?_)
      refine PW_goto zd_M_more_52 ?_
      exact PW_sub (by exact ⟨rfl, rfl, rfl, trivial⟩) (kb_M_more_116  hK13 h)
    · refine ⟨1, rfl, ?_⟩
      refine PW_if_ne zd_M_more_49 (by decide) (fun _ => ?_) (fun q => absurd q (by decide))
      refine PW_aload_n zd_M_more_55 rfl ?_
      refine PW_bipush zd_M_more_56 rfl ?_
      refine PW_iload_n zd_M_more_58 rfl ?_
      refine PW_imul zd_M_more_59 ?_
      refine PW_iload zd_M_more_60 rfl ?_
      refine PW_iadd zd_M_more_62 ?_
      refine PW_putI zd_M_more_63 zp_M_153 (zs_58 _) rfl ?_
      have h := h _ rfl
      refine PW_aload_n zd_M_more_66 rfl ?_
      refine PW_iconst zd_M_more_67 ?_
      refine PW_putI zd_M_more_68 zp_M_156 (zs_58 _) rfl ?_
      have h := h _ rfl
      refine PW_aload_n zd_M_more_71 rfl ?_
      refine PW_iload_n zd_M_more_72 rfl ?_
      refine PW_iconst zd_M_more_73 ?_
      obtain ⟨h0, h⟩ := h
      refine PW_irem zd_M_more_74 ⟨h0, by decide⟩ ?_
      refine PW_putI zd_M_more_75 zp_M_159 (zs_58 _) rfl ?_
      have h := h _ rfl
      refine PW_aload_n zd_M_more_78 rfl ?_
      refine PW_callV0i zd_M_more_79 zl_M_476 zk_M_isMet zv_M_isMet (fr' := 8) (by decide) (zs_58 _) rfl rfl (Nat.le_of_ble_eq_true rfl) ?_
      refine ms_mono h ?_
      rintro v σ1 ⟨z, hz, rfl, h⟩
      refine ⟨z, rfl, ?_⟩
      refine PW_istore zd_M_more_82 rfl (by decide) (ls2 := [_, _, _, _, _, _]) rfl ?_
      refine PW_aload_n zd_M_more_84 rfl ?_
      refine PW_iconst zd_M_more_85 ?_
      refine PW_putI zd_M_more_86 zp_M_153 (zs_58 _) rfl ?_
      have h := h _ rfl
      refine PW_iload zd_M_more_89 rfl ?_
      obtain ⟨h0, hT, hF⟩ := h
      refine PW_if_eq zd_M_more_91 h0 (fun q => ?_) (fun q => ?_)
      · have h := hT q
        exact PW_sub (by exact ⟨rfl, rfl, rfl, trivial⟩) (kb_M_more_116  hK13 h)
      · have h := hF q
        refine PW_iload_n zd_M_more_94 rfl ?_
        obtain ⟨h0, hT, hF⟩ := h
        refine PW_if_ne zd_M_more_95 h0 (fun q => ?_) (fun q => ?_)
        · have h := hT q
          refine PW_iload_n zd_M_more_103 rfl ?_
          refine PW_iconst zd_M_more_104 ?_
          obtain ⟨h0, hT, hF⟩ := h
          refine PW_icmp_ne zd_M_more_105 ⟨h0, by decide⟩ (fun q => ?_) (fun q => ?_)
          · have h := hT q
            refine PW_iload_n zd_M_more_112 rfl ?_
            refine PW_iconst zd_M_more_113 ?_
            obtain ⟨h0, h⟩ := h
            refine PW_irem zd_M_more_114 ⟨h0, by decide⟩ ?_
            exact PW_iret zd_M_more_115 rfl h
          · have h := hF q
            refine PW_iload_n zd_M_more_108 rfl ?_
            refine PW_goto zd_M_more_109 ?_
            exact PW_iret zd_M_more_115 rfl h
        · have h := hF q
          refine PW_iload zd_M_more_98 rfl ?_
          refine PW_goto zd_M_more_100 ?_
          exact PW_iret zd_M_more_115 rfl h
theorem kl_M_more_13 {G : zG} {what : Int} {X : zX} {x2 : Int} {σ : zPH} (h : zLP1 (b_M_more_13 G what X ) x2 σ) : PW G zm_M_more 9 X 13 [some (zr G 58), some (iZ what), some (iZ x2), none, none, none] [] σ := by
  obtain ⟨n, h⟩ := h
  induction n generalizing x2 σ with
  | zero => exact h.elim
  | succ n ih => exact kb_M_more_13   (fun _ _ h => ih h) h
def w_M_more (G : zG) (what : Int) (X : zX) (σ : zPH) : Prop :=
  MS G zm_M_is 0 [iZ what, iZ 0, iZ 2] σ (fun v σ3 =>
    (v = some (iZ 0) ∧
      X (some (iZ (-1))) σ3) ∨
    (v = some (iZ 1) ∧
      zLP1 (b_M_more_13 G what X ) 0 σ3))
set_option maxHeartbeats 4000000 in
theorem k_M_more {G : zG} {what : Int} {X : zX} {σ : zPH} (h : w_M_more G what X σ) : MS G zm_M_more 9 [zr G 58, iZ what] σ X := by
  refine ms_of zk_M_more (Nat.le_of_ble_eq_true rfl) (ls := [some (zr G 58), some (iZ what), none, none, none, none]) rfl ?_
  unfold w_M_more at h
  refine PW_iload_n zd_M_more_0 rfl ?_
  refine PW_iconst zd_M_more_1 ?_
  refine PW_iconst zd_M_more_2 ?_
  refine PW_callS3i zd_M_more_3 zl_M_320 zk_M_is zv_M_is (fr' := 0) (by decide) (Nat.le_of_ble_eq_true rfl) ?_
  refine ms_mono h ?_
  rintro v σ1 (⟨rfl, h⟩ | ⟨rfl, h⟩)
  · refine ⟨0, rfl, ?_⟩
    refine PW_if_ne zd_M_more_6 (by decide) (fun q => absurd rfl q) (fun _ => ?_)
    refine PW_iconst zd_M_more_9 ?_
    exact PW_iret zd_M_more_10 rfl h
  · refine ⟨1, rfl, ?_⟩
    refine PW_if_ne zd_M_more_6 (by decide) (fun _ => ?_) (fun q => absurd q (by decide))
    refine PW_iconst zd_M_more_11 ?_
    refine PW_istore_n zd_M_more_12 rfl (by decide) (ls2 := [_, _, _, _, _, _]) rfl ?_
    exact PW_sub (by exact ⟨rfl, rfl, rfl, trivial⟩) (kl_M_more_13   h)
def b_M_solves_88 (G : zG) (X : zX) (K36 : Int → Int → Int → zPH → Prop) (x1 x2 x3 : Int) (σ : zPH) : Prop :=
  K36 x1 x2 (x3 + 1) σ
set_option maxHeartbeats 4000000 in
theorem kb_M_solves_88 {G : zG} {X : zX} {K36 : Int → Int → Int → zPH → Prop} (hK36 : ∀ (y0 y1 y2 : Int) (σ : zPH), K36 y0 y1 y2 σ → PW G zm_M_solves 9 X 36 [some (zr G 58), some (iZ y0), some (iZ y1), some (iZ y2)] [] σ) {x1 x2 x3 : Int} {σ : zPH} (h : b_M_solves_88 G  X K36 x1 x2 x3 σ) : PW G zm_M_solves 9 X 88 [some (zr G 58), some (iZ x1), some (iZ x2), some (iZ x3)] [] σ := by
  unfold b_M_solves_88 at h
  refine PW_iinc zd_M_solves_88 rfl rfl (by decide) (ls2 := [_, _, _, _]) rfl ?_
  refine PW_goto zd_M_solves_91 ?_
  exact PW_sub (by exact ⟨rfl, rfl, rfl, rfl, trivial⟩) (hK36 _ _ _ _ h)
def b_M_solves_36 (G : zG) (X : zX) (K36 : Int → Int → Int → zPH → Prop) (x1 x2 x3 : Int) (σ : zPH) : Prop :=
  (zI x3 ∧ zI x2) ∧
  (x2 < x3 →
    ∀ σ96 : zPH, σ96 = zupd σ 58 42 x1 →
    X none σ96) ∧
  (x3 ≤ x2 →
    ∀ σ43 : zPH, σ43 = zupd σ 58 42 x3 →
    MS G zm_M_isMet 8 [zr G 58] σ43 (fun v σ47 =>
      (v = some (iZ 0) ∧
        b_M_solves_88 G  X K36 x1 x2 x3 σ47) ∨
      (v = some (iZ 1) ∧
        ∀ σ63 : zPH, σ63 = zupd σ47 58 63 ((σ47 58 63) + 1) →
        (0 ≤ (σ63 58 64) ∧ 0 ≤ x3) ∧
        ∀ σ73 : zPH, σ73 = zupd σ63 58 64 (zand (σ63 58 64) x3) →
        (0 ≤ (σ73 58 65) ∧ 0 ≤ x3) ∧
        ∀ σ85 : zPH, σ85 = zupd σ73 58 65 (zdif (σ73 58 65) x3) →
        b_M_solves_88 G  X K36 x1 x2 x3 σ85)))
set_option maxHeartbeats 4000000 in
theorem kb_M_solves_36 {G : zG} {X : zX} {K36 : Int → Int → Int → zPH → Prop} (hK36 : ∀ (y0 y1 y2 : Int) (σ : zPH), K36 y0 y1 y2 σ → PW G zm_M_solves 9 X 36 [some (zr G 58), some (iZ y0), some (iZ y1), some (iZ y2)] [] σ) {x1 x2 x3 : Int} {σ : zPH} (h : b_M_solves_36 G  X K36 x1 x2 x3 σ) : PW G zm_M_solves 9 X 36 [some (zr G 58), some (iZ x1), some (iZ x2), some (iZ x3)] [] σ := by
  unfold b_M_solves_36 at h
  refine PW_iload_n zd_M_solves_36 rfl ?_
  refine PW_iload_n zd_M_solves_37 rfl ?_
  obtain ⟨h0, hT, hF⟩ := h
  refine PW_icmp_gt zd_M_solves_38 h0 (fun q => ?_) (fun q => ?_)
  · have h := hT q
    refine PW_aload_n zd_M_solves_94 rfl ?_
    refine PW_iload_n zd_M_solves_95 rfl ?_
    refine PW_putI zd_M_solves_96 zp_M_141 (zs_58 _) rfl ?_
    have h := h _ rfl
    exact PW_vret zd_M_solves_99 rfl h
  · have h := hF q
    refine PW_aload_n zd_M_solves_41 rfl ?_
    refine PW_iload_n zd_M_solves_42 rfl ?_
    refine PW_putI zd_M_solves_43 zp_M_141 (zs_58 _) rfl ?_
    have h := h _ rfl
    refine PW_aload_n zd_M_solves_46 rfl ?_
    refine PW_callV0i zd_M_solves_47 zl_M_476 zk_M_isMet zv_M_isMet (fr' := 8) (by decide) (zs_58 _) rfl rfl (Nat.le_of_ble_eq_true rfl) ?_
    refine ms_mono h ?_
    rintro v σ1 (⟨rfl, h⟩ | ⟨rfl, h⟩)
    · refine ⟨0, rfl, ?_⟩
      refine PW_if_ne zd_M_solves_50 (by decide) (fun q => absurd rfl q) (fun _ => ?_)
      refine PW_goto zd_M_solves_53 ?_
      exact PW_sub (by exact ⟨rfl, rfl, rfl, rfl, trivial⟩) (kb_M_solves_88  hK36 h)
    · refine ⟨1, rfl, ?_⟩
      refine PW_if_ne zd_M_solves_50 (by decide) (fun _ => ?_) (fun q => absurd q (by decide))
      refine PW_aload_n zd_M_solves_56 rfl ?_
      refine PW_dup zd_M_solves_57 rfl ?_
      refine PW_getI zd_M_solves_58 zf_M_204 (zs_58 _) rfl ?_
      refine PW_iconst zd_M_solves_61 ?_
      refine PW_iadd zd_M_solves_62 ?_
      refine PW_putI zd_M_solves_63 zp_M_204 (zs_58 _) rfl ?_
      have h := h _ rfl
      refine PW_aload_n zd_M_solves_66 rfl ?_
      refine PW_dup zd_M_solves_67 rfl ?_
      refine PW_getI zd_M_solves_68 zf_M_207 (zs_58 _) rfl ?_
      refine PW_iload_n zd_M_solves_71 rfl ?_
      obtain ⟨h0, h⟩ := h
      refine PW_iand zd_M_solves_72 h0 ?_
      refine PW_putI zd_M_solves_73 zp_M_207 (zs_58 _) rfl ?_
      have h := h _ rfl
      refine PW_aload_n zd_M_solves_76 rfl ?_
      refine PW_dup zd_M_solves_77 rfl ?_
      refine PW_getI zd_M_solves_78 zf_M_210 (zs_58 _) rfl ?_
      refine PW_iload_n zd_M_solves_81 rfl ?_
      refine PW_iconst zd_M_solves_82 ?_
      refine PW_ixorM zd_M_solves_83 ?_
      obtain ⟨h0, h⟩ := h
      refine PW_iandn zd_M_solves_84 h0 ?_
      refine PW_putI zd_M_solves_85 zp_M_210 (zs_58 _) rfl ?_
      have h := h _ rfl
      exact PW_sub (by exact ⟨rfl, rfl, rfl, rfl, trivial⟩) (kb_M_solves_88  hK36 h)
theorem kl_M_solves_36 {G : zG} {X : zX} {x1 x2 x3 : Int} {σ : zPH} (h : zLP3 (b_M_solves_36 G  X ) x1 x2 x3 σ) : PW G zm_M_solves 9 X 36 [some (zr G 58), some (iZ x1), some (iZ x2), some (iZ x3)] [] σ := by
  obtain ⟨n, h⟩ := h
  induction n generalizing x1 x2 x3 σ with
  | zero => exact h.elim
  | succ n ih => exact kb_M_solves_36   (fun _ _ _ _ h => ih h) h
def w_M_solves (G : zG) (X : zX) (σ : zPH) : Prop :=
  ∀ x1 : Int, x1 = (σ 58 42) →
  (0 ≤ (σ 58 13) ∧ (σ 58 13) < 2) ∧
  (0 ≤ (σ 64 (σ 58 13).toNat) ∧ (σ 64 (σ 58 13).toNat) < 32) ∧
  ∀ x2 : Int, x2 = (((1 : Int) * 2 ^ (σ 64 (σ 58 13).toNat).toNat) - 1) →
  ∀ σ21 : zPH, σ21 = zupd σ 58 63 0 →
  ∀ σ26 : zPH, σ26 = zupd σ21 58 64 x2 →
  ∀ σ31 : zPH, σ31 = zupd σ26 58 65 x2 →
  zLP3 (b_M_solves_36 G  X ) x1 x2 0 σ31
set_option maxHeartbeats 4000000 in
theorem k_M_solves {G : zG} {X : zX} {σ : zPH} (h : w_M_solves G  X σ) : MS G zm_M_solves 9 [zr G 58] σ X := by
  refine ms_of zk_M_solves (Nat.le_of_ble_eq_true rfl) (ls := [some (zr G 58), none, none, none]) rfl ?_
  unfold w_M_solves at h
  refine PW_aload_n zd_M_solves_0 rfl ?_
  refine PW_getI zd_M_solves_1 zf_M_141 (zs_58 _) rfl ?_
  refine PW_istore_n zd_M_solves_4 rfl (by decide) (ls2 := [_, _, _, _]) rfl ?_
  have h := h _ rfl
  refine PW_iconst zd_M_solves_5 ?_
  refine PW_aload_n zd_M_solves_6 rfl ?_
  refine PW_getR zd_M_solves_7 zf_M_66 (zs_58 _) rfl ?_
  refine PW_aload_n zd_M_solves_10 rfl ?_
  refine PW_getI zd_M_solves_11 zf_M_51 (zs_58 _) rfl ?_
  obtain ⟨h0, h⟩ := h
  refine PW_iaload zd_M_solves_14 (zs_64 _) h0 ?_
  obtain ⟨h0, h⟩ := h
  refine PW_ishl zd_M_solves_15 h0 ?_
  refine PW_iconst zd_M_solves_16 ?_
  refine PW_isub zd_M_solves_17 ?_
  refine PW_istore_n zd_M_solves_18 rfl (by decide) (ls2 := [_, _, _, _]) rfl ?_
  have h := h _ rfl
  refine PW_aload_n zd_M_solves_19 rfl ?_
  refine PW_iconst zd_M_solves_20 ?_
  refine PW_putI zd_M_solves_21 zp_M_204 (zs_58 _) rfl ?_
  have h := h _ rfl
  refine PW_aload_n zd_M_solves_24 rfl ?_
  refine PW_iload_n zd_M_solves_25 rfl ?_
  refine PW_putI zd_M_solves_26 zp_M_207 (zs_58 _) rfl ?_
  have h := h _ rfl
  refine PW_aload_n zd_M_solves_29 rfl ?_
  refine PW_iload_n zd_M_solves_30 rfl ?_
  refine PW_putI zd_M_solves_31 zp_M_210 (zs_58 _) rfl ?_
  have h := h _ rfl
  refine PW_iconst zd_M_solves_34 ?_
  refine PW_istore_n zd_M_solves_35 rfl (by decide) (ls2 := [_, _, _, _]) rfl ?_
  exact PW_sub (by exact ⟨rfl, rfl, rfl, rfl, trivial⟩) (kl_M_solves_36   h)
def w_M_solutions (G : zG) (what : Int) (X : zX) (σ : zPH) : Prop :=
  MS G zm_M_is 0 [iZ what, iZ 0, iZ 2] σ (fun v σ3 =>
    (v = some (iZ 0) ∧
      X (some (iZ (-1))) σ3) ∨
    (v = some (iZ 1) ∧
      MS G zm_M_solves 9 [zr G 58] σ3 (fun v σ12 =>
        v = none ∧
        (zI what) ∧
        (what ≠ 0 →
          (zI what) ∧
          (what ≠ 1 →
            X (some (iZ (σ12 58 65))) σ12) ∧
          (what = 1 →
            X (some (iZ (σ12 58 64))) σ12)) ∧
        (what = 0 →
          X (some (iZ (σ12 58 63))) σ12))))
set_option maxHeartbeats 4000000 in
theorem k_M_solutions {G : zG} {what : Int} {X : zX} {σ : zPH} (h : w_M_solutions G what X σ) : MS G zm_M_solutions 10 [zr G 58, iZ what] σ X := by
  refine ms_of zk_M_solutions (Nat.le_of_ble_eq_true rfl) (ls := [some (zr G 58), some (iZ what)]) rfl ?_
  unfold w_M_solutions at h
  refine PW_iload_n zd_M_solutions_0 rfl ?_
  refine PW_iconst zd_M_solutions_1 ?_
  refine PW_iconst zd_M_solutions_2 ?_
  refine PW_callS3i zd_M_solutions_3 zl_M_320 zk_M_is zv_M_is (fr' := 0) (by decide) (Nat.le_of_ble_eq_true rfl) ?_
  refine ms_mono h ?_
  rintro v σ1 (⟨rfl, h⟩ | ⟨rfl, h⟩)
  · refine ⟨0, rfl, ?_⟩
    refine PW_if_ne zd_M_solutions_6 (by decide) (fun q => absurd rfl q) (fun _ => ?_)
    refine PW_iconst zd_M_solutions_9 ?_
    exact PW_iret zd_M_solutions_10 rfl h
  · refine ⟨1, rfl, ?_⟩
    refine PW_if_ne zd_M_solutions_6 (by decide) (fun _ => ?_) (fun q => absurd q (by decide))
    refine PW_aload_n zd_M_solutions_11 rfl ?_
    refine PW_callV0v zd_M_solutions_12 zl_M_485 zk_M_solves zv_M_solves (fr' := 9) (by decide) (zs_58 _) rfl rfl (Nat.le_of_ble_eq_true rfl) ?_
    refine ms_mono h ?_
    rintro v σ1 ⟨rfl, h⟩
    refine ⟨rfl, ?_⟩
    refine PW_iload_n zd_M_solutions_15 rfl ?_
    obtain ⟨h0, hT, hF⟩ := h
    refine PW_if_ne zd_M_solutions_16 h0 (fun q => ?_) (fun q => ?_)
    · have h := hT q
      refine PW_iload_n zd_M_solutions_26 rfl ?_
      refine PW_iconst zd_M_solutions_27 ?_
      obtain ⟨h0, hT, hF⟩ := h
      refine PW_icmp_ne zd_M_solutions_28 ⟨h0, by decide⟩ (fun q => ?_) (fun q => ?_)
      · have h := hT q
        refine PW_aload_n zd_M_solutions_38 rfl ?_
        refine PW_getI zd_M_solutions_39 zf_M_210 (zs_58 _) rfl ?_
        exact PW_iret zd_M_solutions_42 rfl h
      · have h := hF q
        refine PW_aload_n zd_M_solutions_31 rfl ?_
        refine PW_getI zd_M_solutions_32 zf_M_207 (zs_58 _) rfl ?_
        refine PW_goto zd_M_solutions_35 ?_
        exact PW_iret zd_M_solutions_42 rfl h
    · have h := hF q
      refine PW_aload_n zd_M_solutions_19 rfl ?_
      refine PW_getI zd_M_solutions_20 zf_M_204 (zs_58 _) rfl ?_
      refine PW_goto zd_M_solutions_23 ?_
      exact PW_iret zd_M_solutions_42 rfl h
def b_M_near_54 (G : zG) (X : zX) (K9 : Int → Int → Int → zPH → Prop) (x1 x2 x3 : Int) (σ : zPH) : Prop :=
  K9 x1 x2 (x3 + 1) σ
set_option maxHeartbeats 4000000 in
theorem kb_M_near_54 {G : zG} {X : zX} {K9 : Int → Int → Int → zPH → Prop} (hK9 : ∀ (y0 y1 y2 : Int) (σ : zPH), K9 y0 y1 y2 σ → PW G zm_M_near 9 X 9 [some (zr G 58), some (iZ y0), some (iZ y1), some (iZ y2)] [] σ) {x1 x2 x3 : Int} {σ : zPH} (h : b_M_near_54 G  X K9 x1 x2 x3 σ) : PW G zm_M_near 9 X 54 [some (zr G 58), some (iZ x1), some (iZ x2), some (iZ x3)] [] σ := by
  unfold b_M_near_54 at h
  refine PW_iinc zd_M_near_54 rfl rfl (by decide) (ls2 := [_, _, _, _]) rfl ?_
  refine PW_goto zd_M_near_57 ?_
  exact PW_sub (by exact ⟨rfl, rfl, rfl, rfl, trivial⟩) (hK9 _ _ _ _ h)
def b_M_near_40 (G : zG) (X : zX) (K9 : Int → Int → Int → zPH → Prop) (x1 x2 x3 : Int) (σ : zPH) : Prop :=
  ∀ σ42 : zPH, σ42 = zupd σ 58 43 x3 →
  MS G zm_M_isMet 8 [zr G 58] σ42 (fun v σ46 =>
    (v = some (iZ 0) ∧
      b_M_near_54 G  X K9 x1 x2 x3 σ46) ∨
    (v = some (iZ 1) ∧
      b_M_near_54 G  X K9 x1 x3 x3 σ46))
set_option maxHeartbeats 4000000 in
theorem kb_M_near_40 {G : zG} {X : zX} {K9 : Int → Int → Int → zPH → Prop} (hK9 : ∀ (y0 y1 y2 : Int) (σ : zPH), K9 y0 y1 y2 σ → PW G zm_M_near 9 X 9 [some (zr G 58), some (iZ y0), some (iZ y1), some (iZ y2)] [] σ) {x1 x2 x3 : Int} {σ : zPH} (h : b_M_near_40 G  X K9 x1 x2 x3 σ) : PW G zm_M_near 9 X 40 [some (zr G 58), some (iZ x1), some (iZ x2), some (iZ x3)] [] σ := by
  unfold b_M_near_40 at h
  refine PW_aload_n zd_M_near_40 rfl ?_
  refine PW_iload_n zd_M_near_41 rfl ?_
  refine PW_putI zd_M_near_42 zp_M_144 (zs_58 _) rfl ?_
  have h := h _ rfl
  refine PW_aload_n zd_M_near_45 rfl ?_
  refine PW_callV0i zd_M_near_46 zl_M_476 zk_M_isMet zv_M_isMet (fr' := 8) (by decide) (zs_58 _) rfl rfl (Nat.le_of_ble_eq_true rfl) ?_
  refine ms_mono h ?_
  rintro v σ1 (⟨rfl, h⟩ | ⟨rfl, h⟩)
  · refine ⟨0, rfl, ?_⟩
    refine PW_if_eq zd_M_near_49 (by decide) (fun _ => ?_) (fun q => absurd rfl q)
    exact PW_sub (by exact ⟨rfl, rfl, rfl, rfl, trivial⟩) (kb_M_near_54  hK9 h)
  · refine ⟨1, rfl, ?_⟩
    refine PW_if_eq zd_M_near_49 (by decide) (fun q => absurd q (by decide)) (fun _ => ?_)
    refine PW_iload_n zd_M_near_52 rfl ?_
    refine PW_istore_n zd_M_near_53 rfl (by decide) (ls2 := [_, _, _, _]) rfl ?_
    exact PW_sub (by exact ⟨rfl, rfl, rfl, rfl, trivial⟩) (kb_M_near_54  hK9 h)
def b_M_near_9 (G : zG) (X : zX) (K9 : Int → Int → Int → zPH → Prop) (x1 x2 x3 : Int) (σ : zPH) : Prop :=
  MS G zm_M_states 0 [zr G 58] σ (fun v σ11 =>
    ∃ z11 : Int, v = some (iZ z11) ∧
    (zI x3 ∧ zI z11) ∧
    (z11 ≤ x3 →
      ∀ σ62 : zPH, σ62 = zupd σ11 58 43 x1 →
      X (some (iZ x2)) σ62) ∧
    (x3 < z11 →
      (zI x2) ∧
      (x2 = (-1) →
        b_M_near_40 G  X K9 x1 x2 x3 σ11) ∧
      (x2 ≠ (-1) →
        (0 ≤ x3 ∧ 0 ≤ x1) ∧
        MS G zm_M_bitsOf 0 [iZ (zxor x3 x1)] σ11 (fun v σ25 =>
          ∃ z25 : Int, v = some (iZ z25) ∧
          (0 ≤ x2 ∧ 0 ≤ x1) ∧
          MS G zm_M_bitsOf 0 [iZ (zxor x2 x1)] σ25 (fun v σ31 =>
            ∃ z31 : Int, v = some (iZ z31) ∧
            (zI z25 ∧ zI z31) ∧
            (z25 < z31 →
              b_M_near_40 G  X K9 x1 x2 x3 σ31) ∧
            (z31 ≤ z25 →
              b_M_near_54 G  X K9 x1 x2 x3 σ31))))))
set_option maxHeartbeats 4000000 in
theorem kb_M_near_9 {G : zG} {X : zX} {K9 : Int → Int → Int → zPH → Prop} (hK9 : ∀ (y0 y1 y2 : Int) (σ : zPH), K9 y0 y1 y2 σ → PW G zm_M_near 9 X 9 [some (zr G 58), some (iZ y0), some (iZ y1), some (iZ y2)] [] σ) {x1 x2 x3 : Int} {σ : zPH} (h : b_M_near_9 G  X K9 x1 x2 x3 σ) : PW G zm_M_near 9 X 9 [some (zr G 58), some (iZ x1), some (iZ x2), some (iZ x3)] [] σ := by
  unfold b_M_near_9 at h
  refine PW_iload_n zd_M_near_9 rfl ?_
  refine PW_aload_n zd_M_near_10 rfl ?_
  refine PW_callV0i zd_M_near_11 zl_M_455 zk_M_states zv_M_states (fr' := 0) (by decide) (zs_58 _) rfl rfl (Nat.le_of_ble_eq_true rfl) ?_
  refine ms_mono h ?_
  rintro v σ1 ⟨z, rfl, h⟩
  refine ⟨z, rfl, ?_⟩
  obtain ⟨h0, hT, hF⟩ := h
  refine PW_icmp_ge zd_M_near_14 h0 (fun q => ?_) (fun q => ?_)
  · have h := hT q
    refine PW_aload_n zd_M_near_60 rfl ?_
    refine PW_iload_n zd_M_near_61 rfl ?_
    refine PW_putI zd_M_near_62 zp_M_144 (zs_58 _) rfl ?_
    have h := h _ rfl
    refine PW_iload_n zd_M_near_65 rfl ?_
    exact PW_iret zd_M_near_66 rfl h
  · have h := hF q
    refine PW_iload_n zd_M_near_17 rfl ?_
    refine PW_iconst zd_M_near_18 ?_
    obtain ⟨h0, hT, hF⟩ := h
    refine PW_icmp_eq zd_M_near_19 ⟨h0, by decide⟩ (fun q => ?_) (fun q => ?_)
    · have h := hT q
      exact PW_sub (by exact ⟨rfl, rfl, rfl, rfl, trivial⟩) (kb_M_near_40  hK9 h)
    · have h := hF q
      refine PW_iload_n zd_M_near_22 rfl ?_
      refine PW_iload_n zd_M_near_23 rfl ?_
      obtain ⟨h0, h⟩ := h
      refine PW_ixor zd_M_near_24 h0 ?_
      refine PW_callS1i zd_M_near_25 zl_M_452 zk_M_bitsOf zv_M_bitsOf (fr' := 0) (by decide) (Nat.le_of_ble_eq_true rfl) ?_
      refine ms_mono h ?_
      rintro v σ1 ⟨z, rfl, h⟩
      refine ⟨z, rfl, ?_⟩
      refine PW_iload_n zd_M_near_28 rfl ?_
      refine PW_iload_n zd_M_near_29 rfl ?_
      obtain ⟨h0, h⟩ := h
      refine PW_ixor zd_M_near_30 h0 ?_
      refine PW_callS1i zd_M_near_31 zl_M_452 zk_M_bitsOf zv_M_bitsOf (fr' := 0) (by decide) (Nat.le_of_ble_eq_true rfl) ?_
      refine ms_mono h ?_
      rintro v σ1 ⟨z, rfl, h⟩
      refine ⟨z, rfl, ?_⟩
      obtain ⟨h0, hT, hF⟩ := h
      refine PW_icmp_lt zd_M_near_34 h0 (fun q => ?_) (fun q => ?_)
      · have h := hT q
        exact PW_sub (by exact ⟨rfl, rfl, rfl, rfl, trivial⟩) (kb_M_near_40  hK9 h)
      · have h := hF q
        refine PW_goto zd_M_near_37 ?_
        exact PW_sub (by exact ⟨rfl, rfl, rfl, rfl, trivial⟩) (kb_M_near_54  hK9 h)
theorem kl_M_near_9 {G : zG} {X : zX} {x1 x2 x3 : Int} {σ : zPH} (h : zLP3 (b_M_near_9 G  X ) x1 x2 x3 σ) : PW G zm_M_near 9 X 9 [some (zr G 58), some (iZ x1), some (iZ x2), some (iZ x3)] [] σ := by
  obtain ⟨n, h⟩ := h
  induction n generalizing x1 x2 x3 σ with
  | zero => exact h.elim
  | succ n ih => exact kb_M_near_9   (fun _ _ _ _ h => ih h) h
def w_M_near (G : zG) (X : zX) (σ : zPH) : Prop :=
  ∀ x1 : Int, x1 = (σ 58 43) →
  zLP3 (b_M_near_9 G  X ) x1 (-1) 0 σ
set_option maxHeartbeats 4000000 in
theorem k_M_near {G : zG} {X : zX} {σ : zPH} (h : w_M_near G  X σ) : MS G zm_M_near 9 [zr G 58] σ X := by
  refine ms_of zk_M_near (Nat.le_of_ble_eq_true rfl) (ls := [some (zr G 58), none, none, none]) rfl ?_
  unfold w_M_near at h
  refine PW_aload_n zd_M_near_0 rfl ?_
  refine PW_getI zd_M_near_1 zf_M_144 (zs_58 _) rfl ?_
  refine PW_istore_n zd_M_near_4 rfl (by decide) (ls2 := [_, _, _, _]) rfl ?_
  have h := h _ rfl
  refine PW_iconst zd_M_near_5 ?_
  refine PW_istore_n zd_M_near_6 rfl (by decide) (ls2 := [_, _, _, _]) rfl ?_
  refine PW_iconst zd_M_near_7 ?_
  refine PW_istore_n zd_M_near_8 rfl (by decide) (ls2 := [_, _, _, _]) rfl ?_
  exact PW_sub (by exact ⟨rfl, rfl, rfl, rfl, trivial⟩) (kl_M_near_9   h)
def b_M_tint_68 (G : zG) (column row : Int) (X : zX) (K40 : Int → Int → zPH → Prop) (x3 x4 : Int) (σ : zPH) : Prop :=
  K40 x3 (x4 + 1) σ
set_option maxHeartbeats 4000000 in
theorem kb_M_tint_68 {G : zG} {column row : Int} {X : zX} {K40 : Int → Int → zPH → Prop} (hK40 : ∀ (y0 y1 : Int) (σ : zPH), K40 y0 y1 σ → PW G zm_M_tint 9 X 40 [some (zr G 58), none, none, some (iZ y0), some (iZ y1)] [] σ) {x3 x4 : Int} {σ : zPH} (h : b_M_tint_68 G column row X K40 x3 x4 σ) : PW G zm_M_tint 9 X 68 [some (zr G 58), none, none, some (iZ x3), some (iZ x4)] [] σ := by
  unfold b_M_tint_68 at h
  refine PW_iinc zd_M_tint_68 rfl rfl (by decide) (ls2 := [_, _, _, _, _]) rfl ?_
  refine PW_goto zd_M_tint_71 ?_
  exact PW_sub (by exact ⟨rfl, rfl, rfl, trivial⟩) (hK40 _ _ _ h)
def b_M_tint_40 (G : zG) (column row : Int) (X : zX) (K40 : Int → Int → zPH → Prop) (x3 x4 : Int) (σ : zPH) : Prop :=
  (zI x4) ∧
  (8 ≤ x4 →
    ∀ σ76 : zPH, σ76 = zupd σ 58 51 (-1) →
    X (some (iZ x3)) σ76) ∧
  (x4 < 8 →
    (zI x3) ∧
    (x3 ≠ (-1) →
      ∀ σ76 : zPH, σ76 = zupd σ 58 51 (-1) →
      X (some (iZ x3)) σ76) ∧
    (x3 = (-1) →
      ∀ σ55 : zPH, σ55 = zupd σ 58 52 x4 →
      MS G zm_M_isMet 8 [zr G 58] σ55 (fun v σ59 =>
        (v = some (iZ 0) ∧
          b_M_tint_68 G column row X K40 x3 x4 σ59) ∨
        (v = some (iZ 1) ∧
          b_M_tint_68 G column row X K40 x4 x4 σ59))))
set_option maxHeartbeats 4000000 in
theorem kb_M_tint_40 {G : zG} {column row : Int} {X : zX} {K40 : Int → Int → zPH → Prop} (hK40 : ∀ (y0 y1 : Int) (σ : zPH), K40 y0 y1 σ → PW G zm_M_tint 9 X 40 [some (zr G 58), none, none, some (iZ y0), some (iZ y1)] [] σ) {x3 x4 : Int} {σ : zPH} (h : b_M_tint_40 G column row X K40 x3 x4 σ) : PW G zm_M_tint 9 X 40 [some (zr G 58), none, none, some (iZ x3), some (iZ x4)] [] σ := by
  unfold b_M_tint_40 at h
  refine PW_iload zd_M_tint_40 rfl ?_
  refine PW_bipush zd_M_tint_42 rfl ?_
  obtain ⟨h0, hT, hF⟩ := h
  refine PW_icmp_ge zd_M_tint_44 ⟨h0, by decide⟩ (fun q => ?_) (fun q => ?_)
  · have h := hT q
    refine PW_aload_n zd_M_tint_74 rfl ?_
    refine PW_iconst zd_M_tint_75 ?_
    refine PW_putI zd_M_tint_76 zp_M_168 (zs_58 _) rfl ?_
    have h := h _ rfl
    refine PW_iload_n zd_M_tint_79 rfl ?_
    exact PW_iret zd_M_tint_80 rfl h
  · have h := hF q
    refine PW_iload_n zd_M_tint_47 rfl ?_
    refine PW_iconst zd_M_tint_48 ?_
    obtain ⟨h0, hT, hF⟩ := h
    refine PW_icmp_ne zd_M_tint_49 ⟨h0, by decide⟩ (fun q => ?_) (fun q => ?_)
    · have h := hT q
      refine PW_aload_n zd_M_tint_74 rfl ?_
      refine PW_iconst zd_M_tint_75 ?_
      refine PW_putI zd_M_tint_76 zp_M_168 (zs_58 _) rfl ?_
      have h := h _ rfl
      refine PW_iload_n zd_M_tint_79 rfl ?_
      exact PW_iret zd_M_tint_80 rfl h
    · have h := hF q
      refine PW_aload_n zd_M_tint_52 rfl ?_
      refine PW_iload zd_M_tint_53 rfl ?_
      refine PW_putI zd_M_tint_55 zp_M_171 (zs_58 _) rfl ?_
      have h := h _ rfl
      refine PW_aload_n zd_M_tint_58 rfl ?_
      refine PW_callV0i zd_M_tint_59 zl_M_476 zk_M_isMet zv_M_isMet (fr' := 8) (by decide) (zs_58 _) rfl rfl (Nat.le_of_ble_eq_true rfl) ?_
      refine ms_mono h ?_
      rintro v σ1 (⟨rfl, h⟩ | ⟨rfl, h⟩)
      · refine ⟨0, rfl, ?_⟩
        refine PW_if_eq zd_M_tint_62 (by decide) (fun _ => ?_) (fun q => absurd rfl q)
        exact PW_sub (by exact ⟨rfl, rfl, rfl, trivial⟩) (kb_M_tint_68  hK40 h)
      · refine ⟨1, rfl, ?_⟩
        refine PW_if_eq zd_M_tint_62 (by decide) (fun q => absurd q (by decide)) (fun _ => ?_)
        refine PW_iload zd_M_tint_65 rfl ?_
        refine PW_istore_n zd_M_tint_67 rfl (by decide) (ls2 := [_, _, _, _, _]) rfl ?_
        exact PW_sub (by exact ⟨rfl, rfl, rfl, trivial⟩) (kb_M_tint_68  hK40 h)
theorem kl_M_tint_40 {G : zG} {column row : Int} {X : zX} {x3 x4 : Int} {σ : zPH} (h : zLP2 (b_M_tint_40 G column row X ) x3 x4 σ) : PW G zm_M_tint 9 X 40 [some (zr G 58), none, none, some (iZ x3), some (iZ x4)] [] σ := by
  obtain ⟨n, h⟩ := h
  induction n generalizing x3 x4 σ with
  | zero => exact h.elim
  | succ n ih => exact kb_M_tint_40   (fun _ _ _ h => ih h) h
def w_M_tint (G : zG) (column row : Int) (X : zX) (σ : zPH) : Prop :=
  MS G zm_M_isSquare 1 [zr G 58, iZ column, iZ row] σ (fun v σ3 =>
    (v = some (iZ 0) ∧
      X (some (iZ (-1))) σ3) ∨
    (v = some (iZ 1) ∧
      MS G zm_M_sortAt 1 [zr G 58, iZ ((12 * row) + column)] σ3 (fun v σ16 =>
        ∃ z16 : Int, v = some (iZ z16) ∧
        (zI z16) ∧
        (z16 = 4 →
          ∀ σ34 : zPH, σ34 = zupd σ16 58 51 ((12 * row) + column) →
          zLP2 (b_M_tint_40 G column row X ) (-1) 0 σ34) ∧
        (z16 ≠ 4 →
          X (some (iZ (-1))) σ16))))
set_option maxHeartbeats 4000000 in
theorem k_M_tint {G : zG} {column row : Int} {X : zX} {σ : zPH} (h : w_M_tint G column row X σ) : MS G zm_M_tint 9 [zr G 58, iZ column, iZ row] σ X := by
  refine ms_of zk_M_tint (Nat.le_of_ble_eq_true rfl) (ls := [some (zr G 58), some (iZ column), some (iZ row), none, none]) rfl ?_
  unfold w_M_tint at h
  refine PW_aload_n zd_M_tint_0 rfl ?_
  refine PW_iload_n zd_M_tint_1 rfl ?_
  refine PW_iload_n zd_M_tint_2 rfl ?_
  refine PW_callV2i zd_M_tint_3 zl_M_420 zk_M_isSquare zv_M_isSquare (fr' := 1) (by decide) (zs_58 _) rfl rfl (Nat.le_of_ble_eq_true rfl) ?_
  refine ms_mono h ?_
  rintro v σ1 (⟨rfl, h⟩ | ⟨rfl, h⟩)
  · refine ⟨0, rfl, ?_⟩
    refine PW_if_eq zd_M_tint_6 (by decide) (fun _ => ?_) (fun q => absurd rfl q)
    refine PW_iconst zd_M_tint_23 ?_
    exact PW_iret zd_M_tint_24 rfl h
  · refine ⟨1, rfl, ?_⟩
    refine PW_if_eq zd_M_tint_6 (by decide) (fun q => absurd q (by decide)) (fun _ => ?_)
    refine PW_aload_n zd_M_tint_9 rfl ?_
    refine PW_bipush zd_M_tint_10 rfl ?_
    refine PW_iload_n zd_M_tint_12 rfl ?_
    refine PW_imul zd_M_tint_13 ?_
    refine PW_iload_n zd_M_tint_14 rfl ?_
    refine PW_iadd zd_M_tint_15 ?_
    refine PW_callV1i zd_M_tint_16 zl_M_424 zk_M_sortAt zv_M_sortAt (fr' := 1) (by decide) (zs_58 _) rfl rfl (Nat.le_of_ble_eq_true rfl) ?_
    refine ms_mono h ?_
    rintro v σ1 ⟨z, rfl, h⟩
    refine ⟨z, rfl, ?_⟩
    refine PW_iconst zd_M_tint_19 ?_
    obtain ⟨h0, hT, hF⟩ := h
    refine PW_icmp_eq zd_M_tint_20 ⟨h0, by decide⟩ (fun q => ?_) (fun q => ?_)
    · have h := hT q
      refine PW_iconst zd_M_tint_25 ?_
      refine PW_istore_n zd_M_tint_26 rfl (by decide) (ls2 := [_, _, _, _, _]) rfl ?_
      refine PW_aload_n zd_M_tint_27 rfl ?_
      refine PW_bipush zd_M_tint_28 rfl ?_
      refine PW_iload_n zd_M_tint_30 rfl ?_
      refine PW_imul zd_M_tint_31 ?_
      refine PW_iload_n zd_M_tint_32 rfl ?_
      refine PW_iadd zd_M_tint_33 ?_
      refine PW_putI zd_M_tint_34 zp_M_168 (zs_58 _) rfl ?_
      have h := h _ rfl
      refine PW_iconst zd_M_tint_37 ?_
      refine PW_istore zd_M_tint_38 rfl (by decide) (ls2 := [_, _, _, _, _]) rfl ?_
      exact PW_sub (by exact ⟨rfl, rfl, rfl, trivial⟩) (kl_M_tint_40   h)
    · have h := hF q
      refine PW_iconst zd_M_tint_23 ?_
      exact PW_iret zd_M_tint_24 rfl h
def b_M_swapped_32 (G : zG) (column row otherColumn otherRow : Int) (X : zX) (σ : zPH) : Prop :=
  ∀ σ39 : zPH, σ39 = zupd σ 58 49 ((12 * row) + column) →
  ∀ σ50 : zPH, σ50 = zupd σ39 58 50 ((12 * otherRow) + otherColumn) →
  MS G zm_M_isMet 8 [zr G 58] σ50 (fun v σ54 =>
    ∃ z54 : Int, (z54 = 0 ∨ z54 = 1) ∧ v = some (iZ z54) ∧
    ∀ σ61 : zPH, σ61 = zupd σ54 58 49 (-1) →
    ∀ σ66 : zPH, σ66 = zupd σ61 58 50 (-1) →
    (zI z54) ∧
    (z54 = 0 →
      X (some (iZ 0)) σ66) ∧
    (z54 ≠ 0 →
      X (some (iZ 1)) σ66))
set_option maxHeartbeats 4000000 in
theorem kb_M_swapped_32 {G : zG} {column row otherColumn otherRow : Int} {X : zX} {σ : zPH} (h : b_M_swapped_32 G column row otherColumn otherRow X   σ) : PW G zm_M_swapped 9 X 32 [some (zr G 58), some (iZ column), some (iZ row), some (iZ otherColumn), some (iZ otherRow), none] [] σ := by
  unfold b_M_swapped_32 at h
  refine PW_aload_n zd_M_swapped_32 rfl ?_
  refine PW_bipush zd_M_swapped_33 rfl ?_
  refine PW_iload_n zd_M_swapped_35 rfl ?_
  refine PW_imul zd_M_swapped_36 ?_
  refine PW_iload_n zd_M_swapped_37 rfl ?_
  refine PW_iadd zd_M_swapped_38 ?_
  refine PW_putI zd_M_swapped_39 zp_M_162 (zs_58 _) rfl ?_
  have h := h _ rfl
  refine PW_aload_n zd_M_swapped_42 rfl ?_
  refine PW_bipush zd_M_swapped_43 rfl ?_
  refine PW_iload zd_M_swapped_45 rfl ?_
  refine PW_imul zd_M_swapped_47 ?_
  refine PW_iload_n zd_M_swapped_48 rfl ?_
  refine PW_iadd zd_M_swapped_49 ?_
  refine PW_putI zd_M_swapped_50 zp_M_165 (zs_58 _) rfl ?_
  have h := h _ rfl
  refine PW_aload_n zd_M_swapped_53 rfl ?_
  refine PW_callV0i zd_M_swapped_54 zl_M_476 zk_M_isMet zv_M_isMet (fr' := 8) (by decide) (zs_58 _) rfl rfl (Nat.le_of_ble_eq_true rfl) ?_
  refine ms_mono h ?_
  rintro v σ1 ⟨z, hz, rfl, h⟩
  refine ⟨z, rfl, ?_⟩
  refine PW_istore zd_M_swapped_57 rfl (by decide) (ls2 := [_, _, _, _, _, _]) rfl ?_
  refine PW_aload_n zd_M_swapped_59 rfl ?_
  refine PW_iconst zd_M_swapped_60 ?_
  refine PW_putI zd_M_swapped_61 zp_M_162 (zs_58 _) rfl ?_
  have h := h _ rfl
  refine PW_aload_n zd_M_swapped_64 rfl ?_
  refine PW_iconst zd_M_swapped_65 ?_
  refine PW_putI zd_M_swapped_66 zp_M_165 (zs_58 _) rfl ?_
  have h := h _ rfl
  refine PW_iload zd_M_swapped_69 rfl ?_
  obtain ⟨h0, hT, hF⟩ := h
  refine PW_if_eq zd_M_swapped_71 h0 (fun q => ?_) (fun q => ?_)
  · have h := hT q
    refine PW_iconst zd_M_swapped_78 ?_
    exact PW_iret zd_M_swapped_79 rfl h
  · have h := hF q
    refine PW_iconst zd_M_swapped_74 ?_
    refine PW_goto zd_M_swapped_75 ?_
    exact PW_iret zd_M_swapped_79 rfl h
def w_M_swapped (G : zG) (column row otherColumn otherRow : Int) (X : zX) (σ : zPH) : Prop :=
  MS G zm_M_isSquare 1 [zr G 58, iZ column, iZ row] σ (fun v σ3 =>
    (v = some (iZ 0) ∧
      X (some (iZ (-1))) σ3) ∨
    (v = some (iZ 1) ∧
      MS G zm_M_isSquare 1 [zr G 58, iZ otherColumn, iZ otherRow] σ3 (fun v σ13 =>
        (v = some (iZ 0) ∧
          X (some (iZ (-1))) σ13) ∨
        (v = some (iZ 1) ∧
          (zI column ∧ zI otherColumn) ∧
          (column ≠ otherColumn →
            b_M_swapped_32 G column row otherColumn otherRow X  σ13) ∧
          (column = otherColumn →
            (zI row ∧ zI otherRow) ∧
            (row ≠ otherRow →
              b_M_swapped_32 G column row otherColumn otherRow X  σ13) ∧
            (row = otherRow →
              X (some (iZ (-1))) σ13))))))
set_option maxHeartbeats 4000000 in
theorem k_M_swapped {G : zG} {column row otherColumn otherRow : Int} {X : zX} {σ : zPH} (h : w_M_swapped G column row otherColumn otherRow X σ) : MS G zm_M_swapped 9 [zr G 58, iZ column, iZ row, iZ otherColumn, iZ otherRow] σ X := by
  refine ms_of zk_M_swapped (Nat.le_of_ble_eq_true rfl) (ls := [some (zr G 58), some (iZ column), some (iZ row), some (iZ otherColumn), some (iZ otherRow), none]) rfl ?_
  unfold w_M_swapped at h
  refine PW_aload_n zd_M_swapped_0 rfl ?_
  refine PW_iload_n zd_M_swapped_1 rfl ?_
  refine PW_iload_n zd_M_swapped_2 rfl ?_
  refine PW_callV2i zd_M_swapped_3 zl_M_420 zk_M_isSquare zv_M_isSquare (fr' := 1) (by decide) (zs_58 _) rfl rfl (Nat.le_of_ble_eq_true rfl) ?_
  refine ms_mono h ?_
  rintro v σ1 (⟨rfl, h⟩ | ⟨rfl, h⟩)
  · refine ⟨0, rfl, ?_⟩
    refine PW_if_eq zd_M_swapped_6 (by decide) (fun _ => ?_) (fun q => absurd rfl q)
    refine PW_iconst zd_M_swapped_30 ?_
    exact PW_iret zd_M_swapped_31 rfl h
  · refine ⟨1, rfl, ?_⟩
    refine PW_if_eq zd_M_swapped_6 (by decide) (fun q => absurd q (by decide)) (fun _ => ?_)
    refine PW_aload_n zd_M_swapped_9 rfl ?_
    refine PW_iload_n zd_M_swapped_10 rfl ?_
    refine PW_iload zd_M_swapped_11 rfl ?_
    refine PW_callV2i zd_M_swapped_13 zl_M_420 zk_M_isSquare zv_M_isSquare (fr' := 1) (by decide) (zs_58 _) rfl rfl (Nat.le_of_ble_eq_true rfl) ?_
    refine ms_mono h ?_
    rintro v σ1 (⟨rfl, h⟩ | ⟨rfl, h⟩)
    · refine ⟨0, rfl, ?_⟩
      refine PW_if_eq zd_M_swapped_16 (by decide) (fun _ => ?_) (fun q => absurd rfl q)
      refine PW_iconst zd_M_swapped_30 ?_
      exact PW_iret zd_M_swapped_31 rfl h
    · refine ⟨1, rfl, ?_⟩
      refine PW_if_eq zd_M_swapped_16 (by decide) (fun q => absurd q (by decide)) (fun _ => ?_)
      refine PW_iload_n zd_M_swapped_19 rfl ?_
      refine PW_iload_n zd_M_swapped_20 rfl ?_
      obtain ⟨h0, hT, hF⟩ := h
      refine PW_icmp_ne zd_M_swapped_21 h0 (fun q => ?_) (fun q => ?_)
      · have h := hT q
        exact PW_sub (by exact ⟨rfl, rfl, rfl, rfl, rfl, trivial⟩) (kb_M_swapped_32   h)
      · have h := hF q
        refine PW_iload_n zd_M_swapped_24 rfl ?_
        refine PW_iload zd_M_swapped_25 rfl ?_
        obtain ⟨h0, hT, hF⟩ := h
        refine PW_icmp_ne zd_M_swapped_27 h0 (fun q => ?_) (fun q => ?_)
        · have h := hT q
          exact PW_sub (by exact ⟨rfl, rfl, rfl, rfl, rfl, trivial⟩) (kb_M_swapped_32   h)
        · have h := hF q
          refine PW_iconst zd_M_swapped_30 ?_
          exact PW_iret zd_M_swapped_31 rfl h
def w_M_isLamp (G : zG) (k : Int) (X : zX) (σ : zPH) : Prop :=
  (0 ≤ (σ 58 13) ∧ (σ 58 13) < 2) ∧
  MS G zm_M_is 0 [iZ k, iZ 0, iZ ((σ 63 (σ 58 13).toNat) - 1)] σ (fun v σ13 =>
    ∃ z13 : Int, (z13 = 0 ∨ z13 = 1) ∧ v = some (iZ z13) ∧
    (z13 = 0 ∨ z13 = 1) ∧
    X (some (iZ z13)) σ13)
set_option maxHeartbeats 4000000 in
theorem k_M_isLamp {G : zG} {k : Int} {X : zX} {σ : zPH} (h : w_M_isLamp G k X σ) : MS G zm_M_isLamp 1 [zr G 58, iZ k] σ X := by
  refine ms_of zk_M_isLamp (Nat.le_of_ble_eq_true rfl) (ls := [some (zr G 58), some (iZ k)]) rfl ?_
  unfold w_M_isLamp at h
  refine PW_iload_n zd_M_isLamp_0 rfl ?_
  refine PW_iconst zd_M_isLamp_1 ?_
  refine PW_aload_n zd_M_isLamp_2 rfl ?_
  refine PW_getR zd_M_isLamp_3 zf_M_63 (zs_58 _) rfl ?_
  refine PW_aload_n zd_M_isLamp_6 rfl ?_
  refine PW_getI zd_M_isLamp_7 zf_M_51 (zs_58 _) rfl ?_
  obtain ⟨h0, h⟩ := h
  refine PW_iaload zd_M_isLamp_10 (zs_63 _) h0 ?_
  refine PW_iconst zd_M_isLamp_11 ?_
  refine PW_isub zd_M_isLamp_12 ?_
  refine PW_callS3i zd_M_isLamp_13 zl_M_320 zk_M_is zv_M_is (fr' := 0) (by decide) (Nat.le_of_ble_eq_true rfl) ?_
  refine ms_mono h ?_
  rintro v σ1 ⟨z, hz, rfl, h⟩
  refine ⟨z, rfl, ?_⟩
  exact PW_zret zd_M_isLamp_16 rfl h.1 h.2
def b_M_reach_292 (G : zG) (lamp eye0 colour : Int) (X : zX) (K249 : Int → Int → Int → zPH → Prop) (x6 x7 x8 : Int) (σ : zPH) : Prop :=
  K249 x6 x7 (x8 + 1) σ
set_option maxHeartbeats 4000000 in
theorem kb_M_reach_292 {G : zG} {lamp eye0 colour : Int} {X : zX} {K249 : Int → Int → Int → zPH → Prop} (hK249 : ∀ (y0 y1 y2 : Int) (σ : zPH), K249 y0 y1 y2 σ → PW G zm_M_reach 4 X 249 [some (zr G 58), none, none, none, none, none, some (iZ y0), some (iZ y1), some (iZ y2), none] [] σ) {x6 x7 x8 : Int} {σ : zPH} (h : b_M_reach_292 G lamp eye0 colour X K249 x6 x7 x8 σ) : PW G zm_M_reach 4 X 292 [some (zr G 58), none, none, none, none, none, some (iZ x6), some (iZ x7), some (iZ x8), none] [] σ := by
  unfold b_M_reach_292 at h
  refine PW_iinc zd_M_reach_292 rfl rfl (by decide) (ls2 := [_, _, _, _, _, _, _, _, _, _]) rfl ?_
  refine PW_goto zd_M_reach_295 ?_
  exact PW_sub (by exact ⟨rfl, rfl, rfl, rfl, trivial⟩) (hK249 _ _ _ _ h)
def b_M_reach_288 (G : zG) (lamp eye0 colour : Int) (X : zX) (K249 : Int → Int → Int → zPH → Prop) (x7 x8 x9 : Int) (σ : zPH) : Prop :=
  b_M_reach_292 G lamp eye0 colour X K249 x9 x7 x8 σ
set_option maxHeartbeats 4000000 in
theorem kb_M_reach_288 {G : zG} {lamp eye0 colour : Int} {X : zX} {K249 : Int → Int → Int → zPH → Prop} (hK249 : ∀ (y0 y1 y2 : Int) (σ : zPH), K249 y0 y1 y2 σ → PW G zm_M_reach 4 X 249 [some (zr G 58), none, none, none, none, none, some (iZ y0), some (iZ y1), some (iZ y2), none] [] σ) {x7 x8 x9 : Int} {σ : zPH} (h : b_M_reach_288 G lamp eye0 colour X K249 x7 x8 x9 σ) : PW G zm_M_reach 4 X 288 [some (zr G 58), none, none, none, none, none, none, some (iZ x7), some (iZ x8), some (iZ x9)] [] σ := by
  unfold b_M_reach_288 at h
  refine PW_iload zd_M_reach_288 rfl ?_
  refine PW_istore zd_M_reach_290 rfl (by decide) (ls2 := [_, _, _, _, _, _, _, _, _, _]) rfl ?_
  exact PW_sub (by exact ⟨rfl, rfl, rfl, rfl, trivial⟩) (kb_M_reach_292  hK249 h)
def b_M_reach_249 (G : zG) (lamp eye0 colour : Int) (X : zX) (K249 : Int → Int → Int → zPH → Prop) (x6 x7 x8 : Int) (σ : zPH) : Prop :=
  (zI x8) ∧
  (4 ≤ x8 →
    X (some (iZ x6)) σ) ∧
  (x8 < 4 →
    (0 ≤ ((4 * x7) + x8) ∧ ((4 * x7) + x8) < 576) ∧
    ∀ x9 : Int, x9 = (σ 88 ((4 * x7) + x8).toNat) →
    (zI x9) ∧
    (x9 = (-1) →
      b_M_reach_292 G lamp eye0 colour X K249 x6 x7 x8 σ) ∧
    (x9 ≠ (-1) →
      (zI x6) ∧
      (x6 = (-1) →
        b_M_reach_288 G lamp eye0 colour X K249 x7 x8 x9 σ) ∧
      (x6 ≠ (-1) →
        (zI x9 ∧ zI x6) ∧
        (x6 ≤ x9 →
          b_M_reach_292 G lamp eye0 colour X K249 x6 x7 x8 σ) ∧
        (x9 < x6 →
          b_M_reach_288 G lamp eye0 colour X K249 x7 x8 x9 σ))))
set_option maxHeartbeats 4000000 in
theorem kb_M_reach_249 {G : zG} {lamp eye0 colour : Int} {X : zX} {K249 : Int → Int → Int → zPH → Prop} (hK249 : ∀ (y0 y1 y2 : Int) (σ : zPH), K249 y0 y1 y2 σ → PW G zm_M_reach 4 X 249 [some (zr G 58), none, none, none, none, none, some (iZ y0), some (iZ y1), some (iZ y2), none] [] σ) {x6 x7 x8 : Int} {σ : zPH} (h : b_M_reach_249 G lamp eye0 colour X K249 x6 x7 x8 σ) : PW G zm_M_reach 4 X 249 [some (zr G 58), none, none, none, none, none, some (iZ x6), some (iZ x7), some (iZ x8), none] [] σ := by
  unfold b_M_reach_249 at h
  refine PW_iload zd_M_reach_249 rfl ?_
  refine PW_iconst zd_M_reach_251 ?_
  obtain ⟨h0, hT, hF⟩ := h
  refine PW_icmp_ge zd_M_reach_252 ⟨h0, by decide⟩ (fun q => ?_) (fun q => ?_)
  · have h := hT q
    refine PW_iload zd_M_reach_298 rfl ?_
    exact PW_iret zd_M_reach_300 rfl h
  · have h := hF q
    refine PW_aload_n zd_M_reach_255 rfl ?_
    refine PW_getR zd_M_reach_256 zf_M_213 (zs_58 _) rfl ?_
    refine PW_iconst zd_M_reach_259 ?_
    refine PW_iload zd_M_reach_260 rfl ?_
    refine PW_imul zd_M_reach_262 ?_
    refine PW_iload zd_M_reach_263 rfl ?_
    refine PW_iadd zd_M_reach_265 ?_
    obtain ⟨h0, h⟩ := h
    refine PW_iaload zd_M_reach_266 (zs_88 _) h0 ?_
    refine PW_istore zd_M_reach_267 rfl (by decide) (ls2 := [_, _, _, _, _, _, _, _, _, _]) rfl ?_
    have h := h _ rfl
    refine PW_iload zd_M_reach_269 rfl ?_
    refine PW_iconst zd_M_reach_271 ?_
    obtain ⟨h0, hT, hF⟩ := h
    refine PW_icmp_eq zd_M_reach_272 ⟨h0, by decide⟩ (fun q => ?_) (fun q => ?_)
    · have h := hT q
      exact PW_sub (by exact ⟨rfl, rfl, rfl, rfl, trivial⟩) (kb_M_reach_292  hK249 h)
    · have h := hF q
      refine PW_iload zd_M_reach_275 rfl ?_
      refine PW_iconst zd_M_reach_277 ?_
      obtain ⟨h0, hT, hF⟩ := h
      refine PW_icmp_eq zd_M_reach_278 ⟨h0, by decide⟩ (fun q => ?_) (fun q => ?_)
      · have h := hT q
        exact PW_sub (by exact ⟨rfl, rfl, rfl, rfl, trivial⟩) (kb_M_reach_288  hK249 h)
      · have h := hF q
        refine PW_iload zd_M_reach_281 rfl ?_
        refine PW_iload zd_M_reach_283 rfl ?_
        obtain ⟨h0, hT, hF⟩ := h
        refine PW_icmp_ge zd_M_reach_285 h0 (fun q => ?_) (fun q => ?_)
        · have h := hT q
          exact PW_sub (by exact ⟨rfl, rfl, rfl, rfl, trivial⟩) (kb_M_reach_292  hK249 h)
        · have h := hF q
          exact PW_sub (by exact ⟨rfl, rfl, rfl, rfl, trivial⟩) (kb_M_reach_288  hK249 h)
theorem kl_M_reach_249 {G : zG} {lamp eye0 colour : Int} {X : zX} {x6 x7 x8 : Int} {σ : zPH} (h : zLP3 (b_M_reach_249 G lamp eye0 colour X ) x6 x7 x8 σ) : PW G zm_M_reach 4 X 249 [some (zr G 58), none, none, none, none, none, some (iZ x6), some (iZ x7), some (iZ x8), none] [] σ := by
  obtain ⟨n, h⟩ := h
  induction n generalizing x6 x7 x8 σ with
  | zero => exact h.elim
  | succ n ih => exact kb_M_reach_249   (fun _ _ _ _ h => ih h) h
def b_M_reach_163 (G : zG) (lamp eye0 colour : Int) (X : zX) (K144 : Int → Int → zPH → Prop) (K163 : Int → Int → Int → zPH → Prop) (x5 x6 x7 : Int) (σ : zPH) : Prop :=
  (zI x7 ∧ zI x6) ∧
  (x6 ≤ x7 →
    K144 x6 (x5 + 1) σ) ∧
  (x7 < x6 →
    (0 ≤ x7 ∧ x7 < 2400) ∧
    (0 ≤ (σ 85 x7.toNat) ∧ (σ 85 x7.toNat) < 576) ∧
    ∀ σ183 : zPH, σ183 = zupd σ 88 (σ 85 x7.toNat).toNat x5 →
    (0 ≤ x7 ∧ x7 < 2400) ∧
    (0 ≤ (σ183 85 x7.toNat) ∧ (σ183 85 x7.toNat) < 2147483648) ∧
    (0 ≤ x7 ∧ x7 < 2400) ∧
    (0 ≤ (σ183 85 x7.toNat) ∧ (σ183 85 x7.toNat) < 2147483648) ∧
    MS G zm_M_goes 3 [zr G 58, iZ ((σ183 85 x7.toNat) / 4), iZ ((σ183 85 x7.toNat) % 4), iZ colour, iZ (σ183 58 43)] σ183 (fun v σ208 =>
      v = none ∧
      K163 x5 x6 (x7 + 1) σ208))
set_option maxHeartbeats 4000000 in
theorem kb_M_reach_163 {G : zG} {lamp eye0 colour : Int} {X : zX} {K144 : Int → Int → zPH → Prop} {K163 : Int → Int → Int → zPH → Prop} (hK144 : ∀ (y0 y1 : Int) (σ : zPH), K144 y0 y1 σ → PW G zm_M_reach 4 X 144 [some (zr G 58), none, some (iZ eye0), some (iZ colour), some (iZ y0), some (iZ y1), none, none, none, none] [] σ) (hK163 : ∀ (y0 y1 y2 : Int) (σ : zPH), K163 y0 y1 y2 σ → PW G zm_M_reach 4 X 163 [some (zr G 58), none, some (iZ eye0), some (iZ colour), none, some (iZ y0), some (iZ y1), some (iZ y2), none, none] [] σ) {x5 x6 x7 : Int} {σ : zPH} (h : b_M_reach_163 G lamp eye0 colour X K144 K163 x5 x6 x7 σ) : PW G zm_M_reach 4 X 163 [some (zr G 58), none, some (iZ eye0), some (iZ colour), none, some (iZ x5), some (iZ x6), some (iZ x7), none, none] [] σ := by
  unfold b_M_reach_163 at h
  refine PW_iload zd_M_reach_163 rfl ?_
  refine PW_iload zd_M_reach_165 rfl ?_
  obtain ⟨h0, hT, hF⟩ := h
  refine PW_icmp_ge zd_M_reach_167 h0 (fun q => ?_) (fun q => ?_)
  · have h := hT q
    refine PW_iload zd_M_reach_217 rfl ?_
    refine PW_istore zd_M_reach_219 rfl (by decide) (ls2 := [_, _, _, _, _, _, _, _, _, _]) rfl ?_
    refine PW_iinc zd_M_reach_221 rfl rfl (by decide) (ls2 := [_, _, _, _, _, _, _, _, _, _]) rfl ?_
    refine PW_goto zd_M_reach_224 ?_
    exact PW_sub (by exact ⟨rfl, rfl, rfl, rfl, rfl, trivial⟩) (hK144 _ _ _ h)
  · have h := hF q
    refine PW_aload_n zd_M_reach_170 rfl ?_
    refine PW_getR zd_M_reach_171 zf_M_213 (zs_58 _) rfl ?_
    refine PW_aload_n zd_M_reach_174 rfl ?_
    refine PW_getR zd_M_reach_175 zf_M_177 (zs_58 _) rfl ?_
    refine PW_iload zd_M_reach_178 rfl ?_
    obtain ⟨h0, h⟩ := h
    refine PW_iaload zd_M_reach_180 (zs_85 _) h0 ?_
    refine PW_iload zd_M_reach_181 rfl ?_
    obtain ⟨h0, h⟩ := h
    refine PW_iastore zd_M_reach_183 (zs_88 _) h0 ?_
    have h := h _ rfl
    refine PW_aload_n zd_M_reach_184 rfl ?_
    refine PW_aload_n zd_M_reach_185 rfl ?_
    refine PW_getR zd_M_reach_186 zf_M_177 (zs_58 _) rfl ?_
    refine PW_iload zd_M_reach_189 rfl ?_
    obtain ⟨h0, h⟩ := h
    refine PW_iaload zd_M_reach_191 (zs_85 _) h0 ?_
    refine PW_iconst zd_M_reach_192 ?_
    obtain ⟨h0, h⟩ := h
    refine PW_idiv zd_M_reach_193 ⟨h0, by decide⟩ ?_
    refine PW_aload_n zd_M_reach_194 rfl ?_
    refine PW_getR zd_M_reach_195 zf_M_177 (zs_58 _) rfl ?_
    refine PW_iload zd_M_reach_198 rfl ?_
    obtain ⟨h0, h⟩ := h
    refine PW_iaload zd_M_reach_200 (zs_85 _) h0 ?_
    refine PW_iconst zd_M_reach_201 ?_
    obtain ⟨h0, h⟩ := h
    refine PW_irem zd_M_reach_202 ⟨h0, by decide⟩ ?_
    refine PW_iload_n zd_M_reach_203 rfl ?_
    refine PW_aload_n zd_M_reach_204 rfl ?_
    refine PW_getI zd_M_reach_205 zf_M_144 (zs_58 _) rfl ?_
    refine PW_callV4v zd_M_reach_208 zl_M_437 zk_M_goes zv_M_goes (fr' := 3) (by decide) (zs_58 _) rfl rfl (Nat.le_of_ble_eq_true rfl) ?_
    refine ms_mono h ?_
    rintro v σ1 ⟨rfl, h⟩
    refine ⟨rfl, ?_⟩
    refine PW_iinc zd_M_reach_211 rfl rfl (by decide) (ls2 := [_, _, _, _, _, _, _, _, _, _]) rfl ?_
    refine PW_goto zd_M_reach_214 ?_
    exact PW_sub (by exact ⟨rfl, rfl, rfl, rfl, rfl, rfl, trivial⟩) (hK163 _ _ _ _ h)
theorem kl_M_reach_163 {G : zG} {lamp eye0 colour : Int} {X : zX} {K144 : Int → Int → zPH → Prop} (hK144 : ∀ (y0 y1 : Int) (σ : zPH), K144 y0 y1 σ → PW G zm_M_reach 4 X 144 [some (zr G 58), none, some (iZ eye0), some (iZ colour), some (iZ y0), some (iZ y1), none, none, none, none] [] σ) {x5 x6 x7 : Int} {σ : zPH} (h : zLP3 (b_M_reach_163 G lamp eye0 colour X K144) x5 x6 x7 σ) : PW G zm_M_reach 4 X 163 [some (zr G 58), none, some (iZ eye0), some (iZ colour), none, some (iZ x5), some (iZ x6), some (iZ x7), none, none] [] σ := by
  obtain ⟨n, h⟩ := h
  induction n generalizing x5 x6 x7 σ with
  | zero => exact h.elim
  | succ n ih => exact kb_M_reach_163  hK144 (fun _ _ _ _ h => ih h) h
def b_M_reach_144 (G : zG) (lamp eye0 colour : Int) (X : zX) (K144 : Int → Int → zPH → Prop) (x4 x5 : Int) (σ : zPH) : Prop :=
  (zI x4 ∧ zI (σ 58 55)) ∧
  ((σ 58 55) ≤ x4 →
    (0 ≤ ((8 * (σ 58 13)) + eye0) ∧ ((8 * (σ 58 13)) + eye0) < 16) ∧
    ∀ x7 : Int, x7 = (σ 72 ((8 * (σ 58 13)) + eye0).toNat) →
    zLP3 (b_M_reach_249 G lamp eye0 colour X ) (-1) x7 0 σ) ∧
  (x4 < (σ 58 55) →
    ∀ x6 : Int, x6 = (σ 58 55) →
    zLP3 (b_M_reach_163 G lamp eye0 colour X K144) x5 x6 x4 σ)
set_option maxHeartbeats 4000000 in
theorem kb_M_reach_144 {G : zG} {lamp eye0 colour : Int} {X : zX} {K144 : Int → Int → zPH → Prop} (hK144 : ∀ (y0 y1 : Int) (σ : zPH), K144 y0 y1 σ → PW G zm_M_reach 4 X 144 [some (zr G 58), none, some (iZ eye0), some (iZ colour), some (iZ y0), some (iZ y1), none, none, none, none] [] σ) {x4 x5 : Int} {σ : zPH} (h : b_M_reach_144 G lamp eye0 colour X K144 x4 x5 σ) : PW G zm_M_reach 4 X 144 [some (zr G 58), none, some (iZ eye0), some (iZ colour), some (iZ x4), some (iZ x5), none, none, none, none] [] σ := by
  unfold b_M_reach_144 at h
  refine PW_iload zd_M_reach_144 rfl ?_
  refine PW_aload_n zd_M_reach_146 rfl ?_
  refine PW_getI zd_M_reach_147 zf_M_180 (zs_58 _) rfl ?_
  obtain ⟨h0, hT, hF⟩ := h
  refine PW_icmp_ge zd_M_reach_150 h0 (fun q => ?_) (fun q => ?_)
  · have h := hT q
    refine PW_iconst zd_M_reach_227 ?_
    refine PW_istore zd_M_reach_228 rfl (by decide) (ls2 := [_, _, _, _, _, _, _, _, _, _]) rfl ?_
    refine PW_aload_n zd_M_reach_230 rfl ?_
    refine PW_getR zd_M_reach_231 zf_M_91 (zs_58 _) rfl ?_
    refine PW_bipush zd_M_reach_234 rfl ?_
    refine PW_aload_n zd_M_reach_236 rfl ?_
    refine PW_getI zd_M_reach_237 zf_M_51 (zs_58 _) rfl ?_
    refine PW_imul zd_M_reach_240 ?_
    refine PW_iload_n zd_M_reach_241 rfl ?_
    refine PW_iadd zd_M_reach_242 ?_
    obtain ⟨h0, h⟩ := h
    refine PW_iaload zd_M_reach_243 (zs_72 _) h0 ?_
    refine PW_istore zd_M_reach_244 rfl (by decide) (ls2 := [_, _, _, _, _, _, _, _, _, _]) rfl ?_
    have h := h _ rfl
    refine PW_iconst zd_M_reach_246 ?_
    refine PW_istore zd_M_reach_247 rfl (by decide) (ls2 := [_, _, _, _, _, _, _, _, _, _]) rfl ?_
    exact PW_sub (by exact ⟨rfl, rfl, rfl, rfl, trivial⟩) (kl_M_reach_249   h)
  · have h := hF q
    refine PW_aload_n zd_M_reach_153 rfl ?_
    refine PW_getI zd_M_reach_154 zf_M_180 (zs_58 _) rfl ?_
    refine PW_istore zd_M_reach_157 rfl (by decide) (ls2 := [_, _, _, _, _, _, _, _, _, _]) rfl ?_
    have h := h _ rfl
    refine PW_iload zd_M_reach_159 rfl ?_
    refine PW_istore zd_M_reach_161 rfl (by decide) (ls2 := [_, _, _, _, _, _, _, _, _, _]) rfl ?_
    exact PW_sub (by exact ⟨rfl, rfl, rfl, rfl, rfl, rfl, trivial⟩) (kl_M_reach_163  hK144 h)
theorem kl_M_reach_144 {G : zG} {lamp eye0 colour : Int} {X : zX} {x4 x5 : Int} {σ : zPH} (h : zLP2 (b_M_reach_144 G lamp eye0 colour X ) x4 x5 σ) : PW G zm_M_reach 4 X 144 [some (zr G 58), none, some (iZ eye0), some (iZ colour), some (iZ x4), some (iZ x5), none, none, none, none] [] σ := by
  obtain ⟨n, h⟩ := h
  induction n generalizing x4 x5 σ with
  | zero => exact h.elim
  | succ n ih => exact kb_M_reach_144   (fun _ _ _ h => ih h) h
def b_M_reach_132 (G : zG) (lamp eye0 colour : Int) (X : zX) (K74 : Int → zPH → Prop) (x4 : Int) (σ : zPH) : Prop :=
  K74 (x4 + 1) σ
set_option maxHeartbeats 4000000 in
theorem kb_M_reach_132 {G : zG} {lamp eye0 colour : Int} {X : zX} {K74 : Int → zPH → Prop} (hK74 : ∀ (y0 : Int) (σ : zPH), K74 y0 σ → PW G zm_M_reach 4 X 74 [some (zr G 58), some (iZ lamp), some (iZ eye0), some (iZ colour), some (iZ y0), none, none, none, none, none] [] σ) {x4 : Int} {σ : zPH} (h : b_M_reach_132 G lamp eye0 colour X K74 x4 σ) : PW G zm_M_reach 4 X 132 [some (zr G 58), some (iZ lamp), some (iZ eye0), some (iZ colour), some (iZ x4), none, none, none, none, none] [] σ := by
  unfold b_M_reach_132 at h
  refine PW_iinc zd_M_reach_132 rfl rfl (by decide) (ls2 := [_, _, _, _, _, _, _, _, _, _]) rfl ?_
  refine PW_goto zd_M_reach_135 ?_
  exact PW_sub (by exact ⟨rfl, rfl, rfl, rfl, rfl, trivial⟩) (hK74 _ _ h)
def b_M_reach_74 (G : zG) (lamp eye0 colour : Int) (X : zX) (K74 : Int → zPH → Prop) (x4 : Int) (σ : zPH) : Prop :=
  (zI x4) ∧
  (144 ≤ x4 →
    zLP2 (b_M_reach_144 G lamp eye0 colour X ) 0 1 σ) ∧
  (x4 < 144 →
    MS G zm_M_sortAt 1 [zr G 58, iZ x4] σ (fun v σ85 =>
      ∃ z85 : Int, v = some (iZ z85) ∧
      (zI z85) ∧
      (z85 ≠ 1 →
        b_M_reach_132 G lamp eye0 colour X K74 x4 σ85) ∧
      (z85 = 1 →
        MS G zm_M_numberAt 1 [zr G 58, iZ x4] σ85 (fun v σ95 =>
          ∃ z95 : Int, v = some (iZ z95) ∧
          (zI z95 ∧ zI lamp) ∧
          (z95 ≠ lamp →
            b_M_reach_132 G lamp eye0 colour X K74 x4 σ95) ∧
          (z95 = lamp →
            MS G zm_M_from 0 [zr G 58, iZ x4] σ95 (fun v σ112 =>
              ∃ z112 : Int, v = some (iZ z112) ∧
              (0 ≤ z112 ∧ z112 < 288) ∧
              MS G zm_M_from 0 [zr G 58, iZ x4] σ112 (fun v σ123 =>
                ∃ z123 : Int, v = some (iZ z123) ∧
                (0 ≤ z123 ∧ z123 < 288) ∧
                (0 ≤ (σ123 69 z123.toNat) ∧ 0 ≤ colour) ∧
                MS G zm_M_sends 2 [zr G 58, iZ x4, iZ (σ112 70 z112.toNat), iZ (zand (σ123 69 z123.toNat) colour)] σ123 (fun v σ129 =>
                  v = none ∧
                  b_M_reach_132 G lamp eye0 colour X K74 x4 σ129))))))))
set_option maxHeartbeats 4000000 in
theorem kb_M_reach_74 {G : zG} {lamp eye0 colour : Int} {X : zX} {K74 : Int → zPH → Prop} (hK74 : ∀ (y0 : Int) (σ : zPH), K74 y0 σ → PW G zm_M_reach 4 X 74 [some (zr G 58), some (iZ lamp), some (iZ eye0), some (iZ colour), some (iZ y0), none, none, none, none, none] [] σ) {x4 : Int} {σ : zPH} (h : b_M_reach_74 G lamp eye0 colour X K74 x4 σ) : PW G zm_M_reach 4 X 74 [some (zr G 58), some (iZ lamp), some (iZ eye0), some (iZ colour), some (iZ x4), none, none, none, none, none] [] σ := by
  unfold b_M_reach_74 at h
  refine PW_iload zd_M_reach_74 rfl ?_
  refine PW_sipush zd_M_reach_76 rfl ?_
  obtain ⟨h0, hT, hF⟩ := h
  refine PW_icmp_ge zd_M_reach_79 ⟨h0, by decide⟩ (fun q => ?_) (fun q => ?_)
  · have h := hT q
    refine PW_iconst zd_M_reach_138 ?_
    refine PW_istore zd_M_reach_139 rfl (by decide) (ls2 := [_, _, _, _, _, _, _, _, _, _]) rfl ?_
    refine PW_iconst zd_M_reach_141 ?_
    refine PW_istore zd_M_reach_142 rfl (by decide) (ls2 := [_, _, _, _, _, _, _, _, _, _]) rfl ?_
    exact PW_sub (by exact ⟨rfl, rfl, rfl, rfl, rfl, trivial⟩) (kl_M_reach_144   h)
  · have h := hF q
    refine PW_aload_n zd_M_reach_82 rfl ?_
    refine PW_iload zd_M_reach_83 rfl ?_
    refine PW_callV1i zd_M_reach_85 zl_M_424 zk_M_sortAt zv_M_sortAt (fr' := 1) (by decide) (zs_58 _) rfl rfl (Nat.le_of_ble_eq_true rfl) ?_
    refine ms_mono h ?_
    rintro v σ1 ⟨z, rfl, h⟩
    refine ⟨z, rfl, ?_⟩
    refine PW_iconst zd_M_reach_88 ?_
    obtain ⟨h0, hT, hF⟩ := h
    refine PW_icmp_ne zd_M_reach_89 ⟨h0, by decide⟩ (fun q => ?_) (fun q => ?_)
    · have h := hT q
      exact PW_sub (by exact ⟨rfl, rfl, rfl, rfl, rfl, trivial⟩) (kb_M_reach_132  hK74 h)
    · have h := hF q
      refine PW_aload_n zd_M_reach_92 rfl ?_
      refine PW_iload zd_M_reach_93 rfl ?_
      refine PW_callV1i zd_M_reach_95 zl_M_417 zk_M_numberAt zv_M_numberAt (fr' := 1) (by decide) (zs_58 _) rfl rfl (Nat.le_of_ble_eq_true rfl) ?_
      refine ms_mono h ?_
      rintro v σ1 ⟨z, rfl, h⟩
      refine ⟨z, rfl, ?_⟩
      refine PW_iload_n zd_M_reach_98 rfl ?_
      obtain ⟨h0, hT, hF⟩ := h
      refine PW_icmp_ne zd_M_reach_99 h0 (fun q => ?_) (fun q => ?_)
      · have h := hT q
        exact PW_sub (by exact ⟨rfl, rfl, rfl, rfl, rfl, trivial⟩) (kb_M_reach_132  hK74 h)
      · have h := hF q
        refine PW_aload_n zd_M_reach_102 rfl ?_
        refine PW_iload zd_M_reach_103 rfl ?_
        refine PW_aload_n zd_M_reach_105 rfl ?_
        refine PW_getR zd_M_reach_106 zf_M_84 (zs_58 _) rfl ?_
        refine PW_aload_n zd_M_reach_109 rfl ?_
        refine PW_iload zd_M_reach_110 rfl ?_
        refine PW_callV1i zd_M_reach_112 zl_M_414 zk_M_from zv_M_from (fr' := 0) (by decide) (zs_58 _) rfl rfl (Nat.le_of_ble_eq_true rfl) ?_
        refine ms_mono h ?_
        rintro v σ1 ⟨z, rfl, h⟩
        refine ⟨z, rfl, ?_⟩
        obtain ⟨h0, h⟩ := h
        refine PW_iaload zd_M_reach_115 (zs_70 _) h0 ?_
        refine PW_aload_n zd_M_reach_116 rfl ?_
        refine PW_getR zd_M_reach_117 zf_M_81 (zs_58 _) rfl ?_
        refine PW_aload_n zd_M_reach_120 rfl ?_
        refine PW_iload zd_M_reach_121 rfl ?_
        refine PW_callV1i zd_M_reach_123 zl_M_414 zk_M_from zv_M_from (fr' := 0) (by decide) (zs_58 _) rfl rfl (Nat.le_of_ble_eq_true rfl) ?_
        refine ms_mono h ?_
        rintro v σ1 ⟨z, rfl, h⟩
        refine ⟨z, rfl, ?_⟩
        obtain ⟨h0, h⟩ := h
        refine PW_iaload zd_M_reach_126 (zs_69 _) h0 ?_
        refine PW_iload_n zd_M_reach_127 rfl ?_
        obtain ⟨h0, h⟩ := h
        refine PW_iand zd_M_reach_128 h0 ?_
        refine PW_callV3v zd_M_reach_129 zl_M_430 zk_M_sends zv_M_sends (fr' := 2) (by decide) (zs_58 _) rfl rfl (Nat.le_of_ble_eq_true rfl) ?_
        refine ms_mono h ?_
        rintro v σ1 ⟨rfl, h⟩
        refine ⟨rfl, ?_⟩
        exact PW_sub (by exact ⟨rfl, rfl, rfl, rfl, rfl, trivial⟩) (kb_M_reach_132  hK74 h)
theorem kl_M_reach_74 {G : zG} {lamp eye0 colour : Int} {X : zX} {x4 : Int} {σ : zPH} (h : zLP1 (b_M_reach_74 G lamp eye0 colour X ) x4 σ) : PW G zm_M_reach 4 X 74 [some (zr G 58), some (iZ lamp), some (iZ eye0), some (iZ colour), some (iZ x4), none, none, none, none, none] [] σ := by
  obtain ⟨n, h⟩ := h
  induction n generalizing x4 σ with
  | zero => exact h.elim
  | succ n ih => exact kb_M_reach_74   (fun _ _ h => ih h) h
def b_M_reach_36 (G : zG) (lamp eye0 colour : Int) (X : zX) (K36 : Int → zPH → Prop) (x4 : Int) (σ : zPH) : Prop :=
  (zI x4) ∧
  (576 ≤ x4 →
    ∀ σ68 : zPH, σ68 = zupd σ 58 55 0 →
    zLP1 (b_M_reach_74 G lamp eye0 colour X ) 0 σ68) ∧
  (x4 < 576 →
    (0 ≤ x4 ∧ x4 < 576) ∧
    ∀ σ51 : zPH, σ51 = zupd σ 84 x4.toNat 0 →
    (0 ≤ x4 ∧ x4 < 576) ∧
    ∀ σ59 : zPH, σ59 = zupd σ51 88 x4.toNat (-1) →
    K36 (x4 + 1) σ59)
set_option maxHeartbeats 4000000 in
theorem kb_M_reach_36 {G : zG} {lamp eye0 colour : Int} {X : zX} {K36 : Int → zPH → Prop} (hK36 : ∀ (y0 : Int) (σ : zPH), K36 y0 σ → PW G zm_M_reach 4 X 36 [some (zr G 58), some (iZ lamp), some (iZ eye0), some (iZ colour), some (iZ y0), none, none, none, none, none] [] σ) {x4 : Int} {σ : zPH} (h : b_M_reach_36 G lamp eye0 colour X K36 x4 σ) : PW G zm_M_reach 4 X 36 [some (zr G 58), some (iZ lamp), some (iZ eye0), some (iZ colour), some (iZ x4), none, none, none, none, none] [] σ := by
  unfold b_M_reach_36 at h
  refine PW_iload zd_M_reach_36 rfl ?_
  refine PW_sipush zd_M_reach_38 rfl ?_
  obtain ⟨h0, hT, hF⟩ := h
  refine PW_icmp_ge zd_M_reach_41 ⟨h0, by decide⟩ (fun q => ?_) (fun q => ?_)
  · have h := hT q
    refine PW_aload_n zd_M_reach_66 rfl ?_
    refine PW_iconst zd_M_reach_67 ?_
    refine PW_putI zd_M_reach_68 zp_M_180 (zs_58 _) rfl ?_
    have h := h _ rfl
    refine PW_iconst zd_M_reach_71 ?_
    refine PW_istore zd_M_reach_72 rfl (by decide) (ls2 := [_, _, _, _, _, _, _, _, _, _]) rfl ?_
    exact PW_sub (by exact ⟨rfl, rfl, rfl, rfl, rfl, trivial⟩) (kl_M_reach_74   h)
  · have h := hF q
    refine PW_aload_n zd_M_reach_44 rfl ?_
    refine PW_getR zd_M_reach_45 zf_M_174 (zs_58 _) rfl ?_
    refine PW_iload zd_M_reach_48 rfl ?_
    refine PW_iconst zd_M_reach_50 ?_
    obtain ⟨h0, h⟩ := h
    refine PW_iastore zd_M_reach_51 (zs_84 _) h0 ?_
    have h := h _ rfl
    refine PW_aload_n zd_M_reach_52 rfl ?_
    refine PW_getR zd_M_reach_53 zf_M_213 (zs_58 _) rfl ?_
    refine PW_iload zd_M_reach_56 rfl ?_
    refine PW_iconst zd_M_reach_58 ?_
    obtain ⟨h0, h⟩ := h
    refine PW_iastore zd_M_reach_59 (zs_88 _) h0 ?_
    have h := h _ rfl
    refine PW_iinc zd_M_reach_60 rfl rfl (by decide) (ls2 := [_, _, _, _, _, _, _, _, _, _]) rfl ?_
    refine PW_goto zd_M_reach_63 ?_
    exact PW_sub (by exact ⟨rfl, rfl, rfl, rfl, rfl, trivial⟩) (hK36 _ _ h)
theorem kl_M_reach_36 {G : zG} {lamp eye0 colour : Int} {X : zX} {x4 : Int} {σ : zPH} (h : zLP1 (b_M_reach_36 G lamp eye0 colour X ) x4 σ) : PW G zm_M_reach 4 X 36 [some (zr G 58), some (iZ lamp), some (iZ eye0), some (iZ colour), some (iZ x4), none, none, none, none, none] [] σ := by
  obtain ⟨n, h⟩ := h
  induction n generalizing x4 σ with
  | zero => exact h.elim
  | succ n ih => exact kb_M_reach_36   (fun _ _ h => ih h) h
def b_M_reach_33 (G : zG) (lamp eye0 colour : Int) (X : zX) (σ : zPH) : Prop :=
  zLP1 (b_M_reach_36 G lamp eye0 colour X ) 0 σ
set_option maxHeartbeats 4000000 in
theorem kb_M_reach_33 {G : zG} {lamp eye0 colour : Int} {X : zX} {σ : zPH} (h : b_M_reach_33 G lamp eye0 colour X   σ) : PW G zm_M_reach 4 X 33 [some (zr G 58), some (iZ lamp), some (iZ eye0), some (iZ colour), none, none, none, none, none, none] [] σ := by
  unfold b_M_reach_33 at h
  refine PW_iconst zd_M_reach_33 ?_
  refine PW_istore zd_M_reach_34 rfl (by decide) (ls2 := [_, _, _, _, _, _, _, _, _, _]) rfl ?_
  exact PW_sub (by exact ⟨rfl, rfl, rfl, rfl, rfl, trivial⟩) (kl_M_reach_36   h)
def w_M_reach (G : zG) (lamp eye0 colour : Int) (X : zX) (σ : zPH) : Prop :=
  MS G zm_M_isLamp 1 [zr G 58, iZ lamp] σ (fun v σ2 =>
    (v = some (iZ 0) ∧
      X (some (iZ (-1))) σ2) ∨
    (v = some (iZ 1) ∧
      MS G zm_M_isEye 1 [zr G 58, iZ eye0] σ2 (fun v σ10 =>
        (v = some (iZ 0) ∧
          X (some (iZ (-1))) σ10) ∨
        (v = some (iZ 1) ∧
          (zI colour) ∧
          (colour = 1 →
            b_M_reach_33 G lamp eye0 colour X  σ10) ∧
          (colour ≠ 1 →
            (zI colour) ∧
            (colour = 2 →
              b_M_reach_33 G lamp eye0 colour X  σ10) ∧
            (colour ≠ 2 →
              (zI colour) ∧
              (colour = 4 →
                b_M_reach_33 G lamp eye0 colour X  σ10) ∧
              (colour ≠ 4 →
                X (some (iZ (-1))) σ10)))))))
set_option maxHeartbeats 4000000 in
theorem k_M_reach {G : zG} {lamp eye0 colour : Int} {X : zX} {σ : zPH} (h : w_M_reach G lamp eye0 colour X σ) : MS G zm_M_reach 4 [zr G 58, iZ lamp, iZ eye0, iZ colour] σ X := by
  refine ms_of zk_M_reach (Nat.le_of_ble_eq_true rfl) (ls := [some (zr G 58), some (iZ lamp), some (iZ eye0), some (iZ colour), none, none, none, none, none, none]) rfl ?_
  unfold w_M_reach at h
  refine PW_aload_n zd_M_reach_0 rfl ?_
  refine PW_iload_n zd_M_reach_1 rfl ?_
  refine PW_callV1i zd_M_reach_2 zl_M_488 zk_M_isLamp zv_M_isLamp (fr' := 1) (by decide) (zs_58 _) rfl rfl (Nat.le_of_ble_eq_true rfl) ?_
  refine ms_mono h ?_
  rintro v σ1 (⟨rfl, h⟩ | ⟨rfl, h⟩)
  · refine ⟨0, rfl, ?_⟩
    refine PW_if_eq zd_M_reach_5 (by decide) (fun _ => ?_) (fun q => absurd rfl q)
    refine PW_iconst zd_M_reach_31 ?_
    exact PW_iret zd_M_reach_32 rfl h
  · refine ⟨1, rfl, ?_⟩
    refine PW_if_eq zd_M_reach_5 (by decide) (fun q => absurd q (by decide)) (fun _ => ?_)
    refine PW_aload_n zd_M_reach_8 rfl ?_
    refine PW_iload_n zd_M_reach_9 rfl ?_
    refine PW_callV1i zd_M_reach_10 zl_M_409 zk_M_isEye zv_M_isEye (fr' := 1) (by decide) (zs_58 _) rfl rfl (Nat.le_of_ble_eq_true rfl) ?_
    refine ms_mono h ?_
    rintro v σ1 (⟨rfl, h⟩ | ⟨rfl, h⟩)
    · refine ⟨0, rfl, ?_⟩
      refine PW_if_eq zd_M_reach_13 (by decide) (fun _ => ?_) (fun q => absurd rfl q)
      refine PW_iconst zd_M_reach_31 ?_
      exact PW_iret zd_M_reach_32 rfl h
    · refine ⟨1, rfl, ?_⟩
      refine PW_if_eq zd_M_reach_13 (by decide) (fun q => absurd q (by decide)) (fun _ => ?_)
      refine PW_iload_n zd_M_reach_16 rfl ?_
      refine PW_iconst zd_M_reach_17 ?_
      obtain ⟨h0, hT, hF⟩ := h
      refine PW_icmp_eq zd_M_reach_18 ⟨h0, by decide⟩ (fun q => ?_) (fun q => ?_)
      · have h := hT q
        exact PW_sub (by exact ⟨rfl, rfl, rfl, rfl, trivial⟩) (kb_M_reach_33   h)
      · have h := hF q
        refine PW_iload_n zd_M_reach_21 rfl ?_
        refine PW_iconst zd_M_reach_22 ?_
        obtain ⟨h0, hT, hF⟩ := h
        refine PW_icmp_eq zd_M_reach_23 ⟨h0, by decide⟩ (fun q => ?_) (fun q => ?_)
        · have h := hT q
          exact PW_sub (by exact ⟨rfl, rfl, rfl, rfl, trivial⟩) (kb_M_reach_33   h)
        · have h := hF q
          refine PW_iload_n zd_M_reach_26 rfl ?_
          refine PW_iconst zd_M_reach_27 ?_
          obtain ⟨h0, hT, hF⟩ := h
          refine PW_icmp_eq zd_M_reach_28 ⟨h0, by decide⟩ (fun q => ?_) (fun q => ?_)
          · have h := hT q
            exact PW_sub (by exact ⟨rfl, rfl, rfl, rfl, trivial⟩) (kb_M_reach_33   h)
          · have h := hF q
            refine PW_iconst zd_M_reach_31 ?_
            exact PW_iret zd_M_reach_32 rfl h
def b_M_behind_56 (G : zG) (eye0 : Int) (X : zX) (K14 : Int → Int → zPH → Prop) (x3 s0 s1 : Int) (σ : zPH) : Prop :=
  (0 ≤ s1 ∧ 0 ≤ s0) ∧
  ∀ x2 : Int, x2 = (zor s1 s0) →
  K14 x2 (x3 + 1) σ
set_option maxHeartbeats 4000000 in
theorem kb_M_behind_56 {G : zG} {eye0 : Int} {X : zX} {K14 : Int → Int → zPH → Prop} (hK14 : ∀ (y0 y1 : Int) (σ : zPH), K14 y0 y1 σ → PW G zm_M_behind 5 X 14 [some (zr G 58), some (iZ eye0), some (iZ y0), some (iZ y1)] [] σ) {x3 s0 s1 : Int} {σ : zPH} (h : b_M_behind_56 G eye0 X K14 x3 s0 s1 σ) : PW G zm_M_behind 5 X 56 [some (zr G 58), some (iZ eye0), none, some (iZ x3)] [iZ s0, iZ s1] σ := by
  unfold b_M_behind_56 at h
  obtain ⟨h0, h⟩ := h
  refine PW_ior zd_M_behind_56 h0 ?_
  refine PW_istore_n zd_M_behind_57 rfl (by decide) (ls2 := [_, _, _, _]) rfl ?_
  have h := h _ rfl
  refine PW_iinc zd_M_behind_58 rfl rfl (by decide) (ls2 := [_, _, _, _]) rfl ?_
  refine PW_goto zd_M_behind_61 ?_
  exact PW_sub (by exact ⟨rfl, rfl, rfl, rfl, trivial⟩) (hK14 _ _ _ h)
def b_M_behind_14 (G : zG) (eye0 : Int) (X : zX) (K14 : Int → Int → zPH → Prop) (x2 x3 : Int) (σ : zPH) : Prop :=
  (0 ≤ (σ 58 13) ∧ (σ 58 13) < 2) ∧
  (zI x3 ∧ zI (σ 63 (σ 58 13).toNat)) ∧
  ((σ 63 (σ 58 13).toNat) ≤ x3 →
    ∀ σ66 : zPH, σ66 = zupd σ 58 56 (-1) →
    X (some (iZ x2)) σ66) ∧
  (x3 < (σ 63 (σ 58 13).toNat) →
    ∀ σ29 : zPH, σ29 = zupd σ 58 56 x3 →
    MS G zm_M_shines 4 [zr G 58, iZ (σ29 58 43)] σ29 (fun v σ37 =>
      v = none ∧
      MS G zm_M_seen 1 [zr G 58, iZ eye0] σ37 (fun v σ43 =>
        ∃ z43 : Int, v = some (iZ z43) ∧
        (zI z43) ∧
        (z43 = 0 →
          b_M_behind_56 G eye0 X K14 x3 0 x2 σ43) ∧
        (z43 ≠ 0 →
          (0 ≤ x3 ∧ x3 < 32) ∧
          b_M_behind_56 G eye0 X K14 x3 ((1 : Int) * 2 ^ x3.toNat) x2 σ43))))
set_option maxHeartbeats 4000000 in
theorem kb_M_behind_14 {G : zG} {eye0 : Int} {X : zX} {K14 : Int → Int → zPH → Prop} (hK14 : ∀ (y0 y1 : Int) (σ : zPH), K14 y0 y1 σ → PW G zm_M_behind 5 X 14 [some (zr G 58), some (iZ eye0), some (iZ y0), some (iZ y1)] [] σ) {x2 x3 : Int} {σ : zPH} (h : b_M_behind_14 G eye0 X K14 x2 x3 σ) : PW G zm_M_behind 5 X 14 [some (zr G 58), some (iZ eye0), some (iZ x2), some (iZ x3)] [] σ := by
  unfold b_M_behind_14 at h
  refine PW_iload_n zd_M_behind_14 rfl ?_
  refine PW_aload_n zd_M_behind_15 rfl ?_
  refine PW_getR zd_M_behind_16 zf_M_63 (zs_58 _) rfl ?_
  refine PW_aload_n zd_M_behind_19 rfl ?_
  refine PW_getI zd_M_behind_20 zf_M_51 (zs_58 _) rfl ?_
  obtain ⟨h0, h⟩ := h
  refine PW_iaload zd_M_behind_23 (zs_63 _) h0 ?_
  obtain ⟨h0, hT, hF⟩ := h
  refine PW_icmp_ge zd_M_behind_24 h0 (fun q => ?_) (fun q => ?_)
  · have h := hT q
    refine PW_aload_n zd_M_behind_64 rfl ?_
    refine PW_iconst zd_M_behind_65 ?_
    refine PW_putI zd_M_behind_66 zp_M_183 (zs_58 _) rfl ?_
    have h := h _ rfl
    refine PW_iload_n zd_M_behind_69 rfl ?_
    exact PW_iret zd_M_behind_70 rfl h
  · have h := hF q
    refine PW_aload_n zd_M_behind_27 rfl ?_
    refine PW_iload_n zd_M_behind_28 rfl ?_
    refine PW_putI zd_M_behind_29 zp_M_183 (zs_58 _) rfl ?_
    have h := h _ rfl
    refine PW_aload_n zd_M_behind_32 rfl ?_
    refine PW_aload_n zd_M_behind_33 rfl ?_
    refine PW_getI zd_M_behind_34 zf_M_144 (zs_58 _) rfl ?_
    refine PW_callV1v zd_M_behind_37 zl_M_458 zk_M_shines zv_M_shines (fr' := 4) (by decide) (zs_58 _) rfl rfl (Nat.le_of_ble_eq_true rfl) ?_
    refine ms_mono h ?_
    rintro v σ1 ⟨rfl, h⟩
    refine ⟨rfl, ?_⟩
    refine PW_iload_n zd_M_behind_40 rfl ?_
    refine PW_aload_n zd_M_behind_41 rfl ?_
    refine PW_iload_n zd_M_behind_42 rfl ?_
    refine PW_callV1i zd_M_behind_43 zl_M_443 zk_M_seen zv_M_seen (fr' := 1) (by decide) (zs_58 _) rfl rfl (Nat.le_of_ble_eq_true rfl) ?_
    refine ms_mono h ?_
    rintro v σ1 ⟨z, rfl, h⟩
    refine ⟨z, rfl, ?_⟩
    obtain ⟨h0, hT, hF⟩ := h
    refine PW_if_eq zd_M_behind_46 h0 (fun q => ?_) (fun q => ?_)
    · have h := hT q
      refine PW_iconst zd_M_behind_55 ?_
      exact PW_sub (by exact ⟨rfl, rfl, rfl, trivial⟩) (kb_M_behind_56  hK14 h)
    · have h := hF q
      refine PW_iconst zd_M_behind_49 ?_
      refine PW_iload_n zd_M_behind_50 rfl ?_
      obtain ⟨h0, h⟩ := h
      refine PW_ishl zd_M_behind_51 h0 ?_
      refine PW_goto zd_M_behind_52 ?_
      exact PW_sub (by exact ⟨rfl, rfl, rfl, trivial⟩) (kb_M_behind_56  hK14 h)
theorem kl_M_behind_14 {G : zG} {eye0 : Int} {X : zX} {x2 x3 : Int} {σ : zPH} (h : zLP2 (b_M_behind_14 G eye0 X ) x2 x3 σ) : PW G zm_M_behind 5 X 14 [some (zr G 58), some (iZ eye0), some (iZ x2), some (iZ x3)] [] σ := by
  obtain ⟨n, h⟩ := h
  induction n generalizing x2 x3 σ with
  | zero => exact h.elim
  | succ n ih => exact kb_M_behind_14   (fun _ _ _ h => ih h) h
def w_M_behind (G : zG) (eye0 : Int) (X : zX) (σ : zPH) : Prop :=
  MS G zm_M_isEye 1 [zr G 58, iZ eye0] σ (fun v σ2 =>
    (v = some (iZ 0) ∧
      X (some (iZ (-1))) σ2) ∨
    (v = some (iZ 1) ∧
      zLP2 (b_M_behind_14 G eye0 X ) 0 0 σ2))
set_option maxHeartbeats 4000000 in
theorem k_M_behind {G : zG} {eye0 : Int} {X : zX} {σ : zPH} (h : w_M_behind G eye0 X σ) : MS G zm_M_behind 5 [zr G 58, iZ eye0] σ X := by
  refine ms_of zk_M_behind (Nat.le_of_ble_eq_true rfl) (ls := [some (zr G 58), some (iZ eye0), none, none]) rfl ?_
  unfold w_M_behind at h
  refine PW_aload_n zd_M_behind_0 rfl ?_
  refine PW_iload_n zd_M_behind_1 rfl ?_
  refine PW_callV1i zd_M_behind_2 zl_M_409 zk_M_isEye zv_M_isEye (fr' := 1) (by decide) (zs_58 _) rfl rfl (Nat.le_of_ble_eq_true rfl) ?_
  refine ms_mono h ?_
  rintro v σ1 (⟨rfl, h⟩ | ⟨rfl, h⟩)
  · refine ⟨0, rfl, ?_⟩
    refine PW_if_ne zd_M_behind_5 (by decide) (fun q => absurd rfl q) (fun _ => ?_)
    refine PW_iconst zd_M_behind_8 ?_
    exact PW_iret zd_M_behind_9 rfl h
  · refine ⟨1, rfl, ?_⟩
    refine PW_if_ne zd_M_behind_5 (by decide) (fun _ => ?_) (fun q => absurd q (by decide))
    refine PW_iconst zd_M_behind_10 ?_
    refine PW_istore_n zd_M_behind_11 rfl (by decide) (ls2 := [_, _, _, _]) rfl ?_
    refine PW_iconst zd_M_behind_12 ?_
    refine PW_istore_n zd_M_behind_13 rfl (by decide) (ls2 := [_, _, _, _]) rfl ?_
    exact PW_sub (by exact ⟨rfl, rfl, rfl, rfl, trivial⟩) (kl_M_behind_14   h)
def b_M_isRing_96 (G : zG) (at0 colour : Int) (X : zX) (σ : zPH) : Prop :=
  (0 ≤ at0 ∧ at0 < 576) ∧
  (zI (σ 84 at0.toNat)) ∧
  ((σ 84 at0.toNat) = 0 →
    X (some (iZ 0)) σ) ∧
  ((σ 84 at0.toNat) ≠ 0 →
    X (some (iZ 1)) σ)
set_option maxHeartbeats 4000000 in
theorem kb_M_isRing_96 {G : zG} {at0 colour : Int} {X : zX} {σ : zPH} (h : b_M_isRing_96 G at0 colour X   σ) : PW G zm_M_isRing 4 X 96 [some (zr G 58), some (iZ at0), none, none] [] σ := by
  unfold b_M_isRing_96 at h
  refine PW_aload_n zd_M_isRing_96 rfl ?_
  refine PW_getR zd_M_isRing_97 zf_M_174 (zs_58 _) rfl ?_
  refine PW_iload_n zd_M_isRing_100 rfl ?_
  obtain ⟨h0, h⟩ := h
  refine PW_iaload zd_M_isRing_101 (zs_84 _) h0 ?_
  obtain ⟨h0, hT, hF⟩ := h
  refine PW_if_eq zd_M_isRing_102 h0 (fun q => ?_) (fun q => ?_)
  · have h := hT q
    refine PW_iconst zd_M_isRing_109 ?_
    exact PW_zret zd_M_isRing_110 rfl (by decide) h
  · have h := hF q
    refine PW_iconst zd_M_isRing_105 ?_
    refine PW_goto zd_M_isRing_106 ?_
    exact PW_zret zd_M_isRing_110 rfl (by decide) h
def b_M_isRing_42 (G : zG) (at0 colour : Int) (X : zX) (K42 : zPH → Prop) (σ : zPH) : Prop :=
  (zI (σ 58 55)) ∧
  ((σ 58 55) ≤ 0 →
    b_M_isRing_96 G at0 colour X  σ) ∧
  (0 < (σ 58 55) →
    (0 ≤ at0 ∧ at0 < 576) ∧
    (zI (σ 84 at0.toNat)) ∧
    ((σ 84 at0.toNat) ≠ 0 →
      b_M_isRing_96 G at0 colour X  σ) ∧
    ((σ 84 at0.toNat) = 0 →
      ∀ σ65 : zPH, σ65 = zupd σ 58 55 ((σ 58 55) - 1) →
      (0 ≤ (σ65 58 55) ∧ (σ65 58 55) < 2400) ∧
      ∀ x3 : Int, x3 = (σ65 85 (σ65 58 55).toNat) →
      (0 ≤ x3 ∧ x3 < 2147483648) ∧
      (0 ≤ x3 ∧ x3 < 2147483648) ∧
      MS G zm_M_goes 3 [zr G 58, iZ (x3 / 4), iZ (x3 % 4), iZ colour, iZ (σ65 58 43)] σ65 (fun v σ90 =>
        v = none ∧
        K42 σ90)))
set_option maxHeartbeats 4000000 in
theorem kb_M_isRing_42 {G : zG} {at0 colour : Int} {X : zX} {K42 : zPH → Prop} (hK42 : ∀ (σ : zPH), K42 σ → PW G zm_M_isRing 4 X 42 [some (zr G 58), some (iZ at0), some (iZ colour), none] [] σ) {σ : zPH} (h : b_M_isRing_42 G at0 colour X K42  σ) : PW G zm_M_isRing 4 X 42 [some (zr G 58), some (iZ at0), some (iZ colour), none] [] σ := by
  unfold b_M_isRing_42 at h
  refine PW_aload_n zd_M_isRing_42 rfl ?_
  refine PW_getI zd_M_isRing_43 zf_M_180 (zs_58 _) rfl ?_
  obtain ⟨h0, hT, hF⟩ := h
  refine PW_if_le zd_M_isRing_46 h0 (fun q => ?_) (fun q => ?_)
  · have h := hT q
    exact PW_sub (by exact ⟨rfl, rfl, trivial⟩) (kb_M_isRing_96   h)
  · have h := hF q
    refine PW_aload_n zd_M_isRing_49 rfl ?_
    refine PW_getR zd_M_isRing_50 zf_M_174 (zs_58 _) rfl ?_
    refine PW_iload_n zd_M_isRing_53 rfl ?_
    obtain ⟨h0, h⟩ := h
    refine PW_iaload zd_M_isRing_54 (zs_84 _) h0 ?_
    obtain ⟨h0, hT, hF⟩ := h
    refine PW_if_ne zd_M_isRing_55 h0 (fun q => ?_) (fun q => ?_)
    · have h := hT q
      exact PW_sub (by exact ⟨rfl, rfl, trivial⟩) (kb_M_isRing_96   h)
    · have h := hF q
      refine PW_aload_n zd_M_isRing_58 rfl ?_
      refine PW_dup zd_M_isRing_59 rfl ?_
      refine PW_getI zd_M_isRing_60 zf_M_180 (zs_58 _) rfl ?_
      refine PW_iconst zd_M_isRing_63 ?_
      refine PW_isub zd_M_isRing_64 ?_
      refine PW_putI zd_M_isRing_65 zp_M_180 (zs_58 _) rfl ?_
      have h := h _ rfl
      refine PW_aload_n zd_M_isRing_68 rfl ?_
      refine PW_getR zd_M_isRing_69 zf_M_177 (zs_58 _) rfl ?_
      refine PW_aload_n zd_M_isRing_72 rfl ?_
      refine PW_getI zd_M_isRing_73 zf_M_180 (zs_58 _) rfl ?_
      obtain ⟨h0, h⟩ := h
      refine PW_iaload zd_M_isRing_76 (zs_85 _) h0 ?_
      refine PW_istore_n zd_M_isRing_77 rfl (by decide) (ls2 := [_, _, _, _]) rfl ?_
      have h := h _ rfl
      refine PW_aload_n zd_M_isRing_78 rfl ?_
      refine PW_iload_n zd_M_isRing_79 rfl ?_
      refine PW_iconst zd_M_isRing_80 ?_
      obtain ⟨h0, h⟩ := h
      refine PW_idiv zd_M_isRing_81 ⟨h0, by decide⟩ ?_
      refine PW_iload_n zd_M_isRing_82 rfl ?_
      refine PW_iconst zd_M_isRing_83 ?_
      obtain ⟨h0, h⟩ := h
      refine PW_irem zd_M_isRing_84 ⟨h0, by decide⟩ ?_
      refine PW_iload_n zd_M_isRing_85 rfl ?_
      refine PW_aload_n zd_M_isRing_86 rfl ?_
      refine PW_getI zd_M_isRing_87 zf_M_144 (zs_58 _) rfl ?_
      refine PW_callV4v zd_M_isRing_90 zl_M_437 zk_M_goes zv_M_goes (fr' := 3) (by decide) (zs_58 _) rfl rfl (Nat.le_of_ble_eq_true rfl) ?_
      refine ms_mono h ?_
      rintro v σ1 ⟨rfl, h⟩
      refine ⟨rfl, ?_⟩
      refine PW_goto zd_M_isRing_93 ?_
      exact PW_sub (by exact ⟨rfl, rfl, rfl, trivial⟩) (hK42 _ h)
theorem kl_M_isRing_42 {G : zG} {at0 colour : Int} {X : zX} {σ : zPH} (h : zLP0 (b_M_isRing_42 G at0 colour X )  σ) : PW G zm_M_isRing 4 X 42 [some (zr G 58), some (iZ at0), some (iZ colour), none] [] σ := by
  obtain ⟨n, h⟩ := h
  induction n generalizing σ with
  | zero => exact h.elim
  | succ n ih => exact kb_M_isRing_42   (fun _ h => ih h) h
def b_M_isRing_2 (G : zG) (at0 colour : Int) (X : zX) (K2 : Int → zPH → Prop) (x3 : Int) (σ : zPH) : Prop :=
  (zI x3) ∧
  (576 ≤ x3 →
    ∀ σ24 : zPH, σ24 = zupd σ 58 55 0 →
    (0 ≤ at0 ∧ at0 < 2147483648) ∧
    (0 ≤ at0 ∧ at0 < 2147483648) ∧
    MS G zm_M_goes 3 [zr G 58, iZ (at0 / 4), iZ (at0 % 4), iZ colour, iZ (σ24 58 43)] σ24 (fun v σ39 =>
      v = none ∧
      zLP0 (b_M_isRing_42 G at0 colour X ) σ39)) ∧
  (x3 < 576 →
    (0 ≤ x3 ∧ x3 < 576) ∧
    ∀ σ15 : zPH, σ15 = zupd σ 84 x3.toNat 0 →
    K2 (x3 + 1) σ15)
set_option maxHeartbeats 4000000 in
theorem kb_M_isRing_2 {G : zG} {at0 colour : Int} {X : zX} {K2 : Int → zPH → Prop} (hK2 : ∀ (y0 : Int) (σ : zPH), K2 y0 σ → PW G zm_M_isRing 4 X 2 [some (zr G 58), some (iZ at0), some (iZ colour), some (iZ y0)] [] σ) {x3 : Int} {σ : zPH} (h : b_M_isRing_2 G at0 colour X K2 x3 σ) : PW G zm_M_isRing 4 X 2 [some (zr G 58), some (iZ at0), some (iZ colour), some (iZ x3)] [] σ := by
  unfold b_M_isRing_2 at h
  refine PW_iload_n zd_M_isRing_2 rfl ?_
  refine PW_sipush zd_M_isRing_3 rfl ?_
  obtain ⟨h0, hT, hF⟩ := h
  refine PW_icmp_ge zd_M_isRing_6 ⟨h0, by decide⟩ (fun q => ?_) (fun q => ?_)
  · have h := hT q
    refine PW_aload_n zd_M_isRing_22 rfl ?_
    refine PW_iconst zd_M_isRing_23 ?_
    refine PW_putI zd_M_isRing_24 zp_M_180 (zs_58 _) rfl ?_
    have h := h _ rfl
    refine PW_aload_n zd_M_isRing_27 rfl ?_
    refine PW_iload_n zd_M_isRing_28 rfl ?_
    refine PW_iconst zd_M_isRing_29 ?_
    obtain ⟨h0, h⟩ := h
    refine PW_idiv zd_M_isRing_30 ⟨h0, by decide⟩ ?_
    refine PW_iload_n zd_M_isRing_31 rfl ?_
    refine PW_iconst zd_M_isRing_32 ?_
    obtain ⟨h0, h⟩ := h
    refine PW_irem zd_M_isRing_33 ⟨h0, by decide⟩ ?_
    refine PW_iload_n zd_M_isRing_34 rfl ?_
    refine PW_aload_n zd_M_isRing_35 rfl ?_
    refine PW_getI zd_M_isRing_36 zf_M_144 (zs_58 _) rfl ?_
    refine PW_callV4v zd_M_isRing_39 zl_M_437 zk_M_goes zv_M_goes (fr' := 3) (by decide) (zs_58 _) rfl rfl (Nat.le_of_ble_eq_true rfl) ?_
    refine ms_mono h ?_
    rintro v σ1 ⟨rfl, h⟩
    refine ⟨rfl, ?_⟩
    exact PW_sub (by exact ⟨rfl, rfl, rfl, trivial⟩) (kl_M_isRing_42   h)
  · have h := hF q
    refine PW_aload_n zd_M_isRing_9 rfl ?_
    refine PW_getR zd_M_isRing_10 zf_M_174 (zs_58 _) rfl ?_
    refine PW_iload_n zd_M_isRing_13 rfl ?_
    refine PW_iconst zd_M_isRing_14 ?_
    obtain ⟨h0, h⟩ := h
    refine PW_iastore zd_M_isRing_15 (zs_84 _) h0 ?_
    have h := h _ rfl
    refine PW_iinc zd_M_isRing_16 rfl rfl (by decide) (ls2 := [_, _, _, _]) rfl ?_
    refine PW_goto zd_M_isRing_19 ?_
    exact PW_sub (by exact ⟨rfl, rfl, rfl, rfl, trivial⟩) (hK2 _ _ h)
theorem kl_M_isRing_2 {G : zG} {at0 colour : Int} {X : zX} {x3 : Int} {σ : zPH} (h : zLP1 (b_M_isRing_2 G at0 colour X ) x3 σ) : PW G zm_M_isRing 4 X 2 [some (zr G 58), some (iZ at0), some (iZ colour), some (iZ x3)] [] σ := by
  obtain ⟨n, h⟩ := h
  induction n generalizing x3 σ with
  | zero => exact h.elim
  | succ n ih => exact kb_M_isRing_2   (fun _ _ h => ih h) h
def w_M_isRing (G : zG) (at0 colour : Int) (X : zX) (σ : zPH) : Prop :=
  zLP1 (b_M_isRing_2 G at0 colour X ) 0 σ
set_option maxHeartbeats 4000000 in
theorem k_M_isRing {G : zG} {at0 colour : Int} {X : zX} {σ : zPH} (h : w_M_isRing G at0 colour X σ) : MS G zm_M_isRing 4 [zr G 58, iZ at0, iZ colour] σ X := by
  refine ms_of zk_M_isRing (Nat.le_of_ble_eq_true rfl) (ls := [some (zr G 58), some (iZ at0), some (iZ colour), none]) rfl ?_
  unfold w_M_isRing at h
  refine PW_iconst zd_M_isRing_0 ?_
  refine PW_istore_n zd_M_isRing_1 rfl (by decide) (ls2 := [_, _, _, _]) rfl ?_
  exact PW_sub (by exact ⟨rfl, rfl, rfl, rfl, trivial⟩) (kl_M_isRing_2   h)
def b_M_rings_142 (G : zG) (colour : Int) (X : zX) (K66 : Int → Int → zPH → Prop) (x3 s0 s1 : Int) (σ : zPH) : Prop :=
  ∀ x2 : Int, x2 = (s1 + s0) →
  K66 x2 (x3 + 1) σ
set_option maxHeartbeats 4000000 in
theorem kb_M_rings_142 {G : zG} {colour : Int} {X : zX} {K66 : Int → Int → zPH → Prop} (hK66 : ∀ (y0 y1 : Int) (σ : zPH), K66 y0 y1 σ → PW G zm_M_rings 5 X 66 [some (zr G 58), some (iZ colour), some (iZ y0), some (iZ y1), none, none] [] σ) {x3 s0 s1 : Int} {σ : zPH} (h : b_M_rings_142 G colour X K66 x3 s0 s1 σ) : PW G zm_M_rings 5 X 142 [some (zr G 58), some (iZ colour), none, some (iZ x3), none, none] [iZ s0, iZ s1] σ := by
  unfold b_M_rings_142 at h
  refine PW_iadd zd_M_rings_142 ?_
  refine PW_istore_n zd_M_rings_143 rfl (by decide) (ls2 := [_, _, _, _, _, _]) rfl ?_
  have h := h _ rfl
  refine PW_iinc zd_M_rings_144 rfl rfl (by decide) (ls2 := [_, _, _, _, _, _]) rfl ?_
  refine PW_goto zd_M_rings_147 ?_
  exact PW_sub (by exact ⟨rfl, rfl, rfl, rfl, trivial⟩) (hK66 _ _ _ h)
def b_M_rings_123 (G : zG) (colour : Int) (X : zX) (K66 : Int → Int → zPH → Prop) (K79 : Int → Int → Int → Int → zPH → Prop) (x2 x3 x5 s0 : Int) (σ : zPH) : Prop :=
  K79 x2 x3 s0 (x5 + 1) σ
set_option maxHeartbeats 4000000 in
theorem kb_M_rings_123 {G : zG} {colour : Int} {X : zX} {K66 : Int → Int → zPH → Prop} {K79 : Int → Int → Int → Int → zPH → Prop} (hK66 : ∀ (y0 y1 : Int) (σ : zPH), K66 y0 y1 σ → PW G zm_M_rings 5 X 66 [some (zr G 58), some (iZ colour), some (iZ y0), some (iZ y1), none, none] [] σ) (hK79 : ∀ (y0 y1 y2 y3 : Int) (σ : zPH), K79 y0 y1 y2 y3 σ → PW G zm_M_rings 5 X 79 [some (zr G 58), some (iZ colour), some (iZ y0), some (iZ y1), some (iZ y2), some (iZ y3)] [] σ) {x2 x3 x5 s0 : Int} {σ : zPH} (h : b_M_rings_123 G colour X K66 K79 x2 x3 x5 s0 σ) : PW G zm_M_rings 5 X 123 [some (zr G 58), some (iZ colour), some (iZ x2), some (iZ x3), none, some (iZ x5)] [iZ s0] σ := by
  unfold b_M_rings_123 at h
  refine PW_istore zd_M_rings_123 rfl (by decide) (ls2 := [_, _, _, _, _, _]) rfl ?_
  refine PW_iinc zd_M_rings_125 rfl rfl (by decide) (ls2 := [_, _, _, _, _, _]) rfl ?_
  refine PW_goto zd_M_rings_128 ?_
  exact PW_sub (by exact ⟨rfl, rfl, rfl, rfl, rfl, rfl, trivial⟩) (hK79 _ _ _ _ _ h)
def b_M_rings_118 (G : zG) (colour : Int) (X : zX) (K66 : Int → Int → zPH → Prop) (K79 : Int → Int → Int → Int → zPH → Prop) (x2 x3 x5 : Int) (σ : zPH) : Prop :=
  b_M_rings_123 G colour X K66 K79 x2 x3 x5 1 σ
set_option maxHeartbeats 4000000 in
theorem kb_M_rings_118 {G : zG} {colour : Int} {X : zX} {K66 : Int → Int → zPH → Prop} {K79 : Int → Int → Int → Int → zPH → Prop} (hK66 : ∀ (y0 y1 : Int) (σ : zPH), K66 y0 y1 σ → PW G zm_M_rings 5 X 66 [some (zr G 58), some (iZ colour), some (iZ y0), some (iZ y1), none, none] [] σ) (hK79 : ∀ (y0 y1 y2 y3 : Int) (σ : zPH), K79 y0 y1 y2 y3 σ → PW G zm_M_rings 5 X 79 [some (zr G 58), some (iZ colour), some (iZ y0), some (iZ y1), some (iZ y2), some (iZ y3)] [] σ) {x2 x3 x5 : Int} {σ : zPH} (h : b_M_rings_118 G colour X K66 K79 x2 x3 x5 σ) : PW G zm_M_rings 5 X 118 [some (zr G 58), some (iZ colour), some (iZ x2), some (iZ x3), none, some (iZ x5)] [] σ := by
  unfold b_M_rings_118 at h
  refine PW_iconst zd_M_rings_118 ?_
  refine PW_goto zd_M_rings_119 ?_
  exact PW_sub (by exact ⟨rfl, rfl, rfl, rfl, rfl, trivial⟩) (kb_M_rings_123  hK66 hK79 h)
def b_M_rings_122 (G : zG) (colour : Int) (X : zX) (K66 : Int → Int → zPH → Prop) (K79 : Int → Int → Int → Int → zPH → Prop) (x2 x3 x5 : Int) (σ : zPH) : Prop :=
  b_M_rings_123 G colour X K66 K79 x2 x3 x5 0 σ
set_option maxHeartbeats 4000000 in
theorem kb_M_rings_122 {G : zG} {colour : Int} {X : zX} {K66 : Int → Int → zPH → Prop} {K79 : Int → Int → Int → Int → zPH → Prop} (hK66 : ∀ (y0 y1 : Int) (σ : zPH), K66 y0 y1 σ → PW G zm_M_rings 5 X 66 [some (zr G 58), some (iZ colour), some (iZ y0), some (iZ y1), none, none] [] σ) (hK79 : ∀ (y0 y1 y2 y3 : Int) (σ : zPH), K79 y0 y1 y2 y3 σ → PW G zm_M_rings 5 X 79 [some (zr G 58), some (iZ colour), some (iZ y0), some (iZ y1), some (iZ y2), some (iZ y3)] [] σ) {x2 x3 x5 : Int} {σ : zPH} (h : b_M_rings_122 G colour X K66 K79 x2 x3 x5 σ) : PW G zm_M_rings 5 X 122 [some (zr G 58), some (iZ colour), some (iZ x2), some (iZ x3), none, some (iZ x5)] [] σ := by
  unfold b_M_rings_122 at h
  refine PW_iconst zd_M_rings_122 ?_
  exact PW_sub (by exact ⟨rfl, rfl, rfl, rfl, rfl, trivial⟩) (kb_M_rings_123  hK66 hK79 h)
def b_M_rings_79 (G : zG) (colour : Int) (X : zX) (K66 : Int → Int → zPH → Prop) (K79 : Int → Int → Int → Int → zPH → Prop) (x2 x3 x4 x5 : Int) (σ : zPH) : Prop :=
  (zI x5) ∧
  (4 ≤ x5 →
    (zI x4) ∧
    (x4 = 0 →
      b_M_rings_142 G colour X K66 x3 0 x2 σ) ∧
    (x4 ≠ 0 →
      b_M_rings_142 G colour X K66 x3 1 x2 σ)) ∧
  (x5 < 4 →
    (zI x4) ∧
    (x4 ≠ 0 →
      b_M_rings_118 G colour X K66 K79 x2 x3 x5 σ) ∧
    (x4 = 0 →
      (0 ≤ ((4 * x3) + x5) ∧ ((4 * x3) + x5) < 576) ∧
      (zI (σ 89 ((4 * x3) + x5).toNat)) ∧
      ((σ 89 ((4 * x3) + x5).toNat) = 0 →
        b_M_rings_122 G colour X K66 K79 x2 x3 x5 σ) ∧
      ((σ 89 ((4 * x3) + x5).toNat) ≠ 0 →
        MS G zm_M_isRing 4 [zr G 58, iZ ((4 * x3) + x5), iZ colour] σ (fun v σ112 =>
          (v = some (iZ 0) ∧
            b_M_rings_122 G colour X K66 K79 x2 x3 x5 σ112) ∨
          (v = some (iZ 1) ∧
            b_M_rings_118 G colour X K66 K79 x2 x3 x5 σ112)))))
set_option maxHeartbeats 4000000 in
theorem kb_M_rings_79 {G : zG} {colour : Int} {X : zX} {K66 : Int → Int → zPH → Prop} {K79 : Int → Int → Int → Int → zPH → Prop} (hK66 : ∀ (y0 y1 : Int) (σ : zPH), K66 y0 y1 σ → PW G zm_M_rings 5 X 66 [some (zr G 58), some (iZ colour), some (iZ y0), some (iZ y1), none, none] [] σ) (hK79 : ∀ (y0 y1 y2 y3 : Int) (σ : zPH), K79 y0 y1 y2 y3 σ → PW G zm_M_rings 5 X 79 [some (zr G 58), some (iZ colour), some (iZ y0), some (iZ y1), some (iZ y2), some (iZ y3)] [] σ) {x2 x3 x4 x5 : Int} {σ : zPH} (h : b_M_rings_79 G colour X K66 K79 x2 x3 x4 x5 σ) : PW G zm_M_rings 5 X 79 [some (zr G 58), some (iZ colour), some (iZ x2), some (iZ x3), some (iZ x4), some (iZ x5)] [] σ := by
  unfold b_M_rings_79 at h
  refine PW_iload zd_M_rings_79 rfl ?_
  refine PW_iconst zd_M_rings_81 ?_
  obtain ⟨h0, hT, hF⟩ := h
  refine PW_icmp_ge zd_M_rings_82 ⟨h0, by decide⟩ (fun q => ?_) (fun q => ?_)
  · have h := hT q
    refine PW_iload_n zd_M_rings_131 rfl ?_
    refine PW_iload zd_M_rings_132 rfl ?_
    obtain ⟨h0, hT, hF⟩ := h
    refine PW_if_eq zd_M_rings_134 h0 (fun q => ?_) (fun q => ?_)
    · have h := hT q
      refine PW_iconst zd_M_rings_141 ?_
      exact PW_sub (by exact ⟨rfl, rfl, rfl, trivial⟩) (kb_M_rings_142  hK66 h)
    · have h := hF q
      refine PW_iconst zd_M_rings_137 ?_
      refine PW_goto zd_M_rings_138 ?_
      exact PW_sub (by exact ⟨rfl, rfl, rfl, trivial⟩) (kb_M_rings_142  hK66 h)
  · have h := hF q
    refine PW_iload zd_M_rings_85 rfl ?_
    obtain ⟨h0, hT, hF⟩ := h
    refine PW_if_ne zd_M_rings_87 h0 (fun q => ?_) (fun q => ?_)
    · have h := hT q
      exact PW_sub (by exact ⟨rfl, rfl, rfl, rfl, rfl, trivial⟩) (kb_M_rings_118  hK66 hK79 h)
    · have h := hF q
      refine PW_aload_n zd_M_rings_90 rfl ?_
      refine PW_getR zd_M_rings_91 zf_M_216 (zs_58 _) rfl ?_
      refine PW_iconst zd_M_rings_94 ?_
      refine PW_iload_n zd_M_rings_95 rfl ?_
      refine PW_imul zd_M_rings_96 ?_
      refine PW_iload zd_M_rings_97 rfl ?_
      refine PW_iadd zd_M_rings_99 ?_
      obtain ⟨h0, h⟩ := h
      refine PW_baload zd_M_rings_100 (zs_89 _) h0 ?_
      obtain ⟨h0, hT, hF⟩ := h
      refine PW_if_eq zd_M_rings_101 h0 (fun q => ?_) (fun q => ?_)
      · have h := hT q
        exact PW_sub (by exact ⟨rfl, rfl, rfl, rfl, rfl, trivial⟩) (kb_M_rings_122  hK66 hK79 h)
      · have h := hF q
        refine PW_aload_n zd_M_rings_104 rfl ?_
        refine PW_iconst zd_M_rings_105 ?_
        refine PW_iload_n zd_M_rings_106 rfl ?_
        refine PW_imul zd_M_rings_107 ?_
        refine PW_iload zd_M_rings_108 rfl ?_
        refine PW_iadd zd_M_rings_110 ?_
        refine PW_iload_n zd_M_rings_111 rfl ?_
        refine PW_callV2i zd_M_rings_112 zl_M_491 zk_M_isRing zv_M_isRing (fr' := 4) (by decide) (zs_58 _) rfl rfl (Nat.le_of_ble_eq_true rfl) ?_
        refine ms_mono h ?_
        rintro v σ1 (⟨rfl, h⟩ | ⟨rfl, h⟩)
        · refine ⟨0, rfl, ?_⟩
          refine PW_if_eq zd_M_rings_115 (by decide) (fun _ => ?_) (fun q => absurd rfl q)
          exact PW_sub (by exact ⟨rfl, rfl, rfl, rfl, rfl, trivial⟩) (kb_M_rings_122  hK66 hK79 h)
        · refine ⟨1, rfl, ?_⟩
          refine PW_if_eq zd_M_rings_115 (by decide) (fun q => absurd q (by decide)) (fun _ => ?_)
          exact PW_sub (by exact ⟨rfl, rfl, rfl, rfl, rfl, trivial⟩) (kb_M_rings_118  hK66 hK79 h)
theorem kl_M_rings_79 {G : zG} {colour : Int} {X : zX} {K66 : Int → Int → zPH → Prop} (hK66 : ∀ (y0 y1 : Int) (σ : zPH), K66 y0 y1 σ → PW G zm_M_rings 5 X 66 [some (zr G 58), some (iZ colour), some (iZ y0), some (iZ y1), none, none] [] σ) {x2 x3 x4 x5 : Int} {σ : zPH} (h : zLP4 (b_M_rings_79 G colour X K66) x2 x3 x4 x5 σ) : PW G zm_M_rings 5 X 79 [some (zr G 58), some (iZ colour), some (iZ x2), some (iZ x3), some (iZ x4), some (iZ x5)] [] σ := by
  obtain ⟨n, h⟩ := h
  induction n generalizing x2 x3 x4 x5 σ with
  | zero => exact h.elim
  | succ n ih => exact kb_M_rings_79  hK66 (fun _ _ _ _ _ h => ih h) h
def b_M_rings_66 (G : zG) (colour : Int) (X : zX) (K66 : Int → Int → zPH → Prop) (x2 x3 : Int) (σ : zPH) : Prop :=
  (zI x3) ∧
  (144 ≤ x3 →
    X (some (iZ x2)) σ) ∧
  (x3 < 144 →
    zLP4 (b_M_rings_79 G colour X K66) x2 x3 0 0 σ)
set_option maxHeartbeats 4000000 in
theorem kb_M_rings_66 {G : zG} {colour : Int} {X : zX} {K66 : Int → Int → zPH → Prop} (hK66 : ∀ (y0 y1 : Int) (σ : zPH), K66 y0 y1 σ → PW G zm_M_rings 5 X 66 [some (zr G 58), some (iZ colour), some (iZ y0), some (iZ y1), none, none] [] σ) {x2 x3 : Int} {σ : zPH} (h : b_M_rings_66 G colour X K66 x2 x3 σ) : PW G zm_M_rings 5 X 66 [some (zr G 58), some (iZ colour), some (iZ x2), some (iZ x3), none, none] [] σ := by
  unfold b_M_rings_66 at h
  refine PW_iload_n zd_M_rings_66 rfl ?_
  refine PW_sipush zd_M_rings_67 rfl ?_
  obtain ⟨h0, hT, hF⟩ := h
  refine PW_icmp_ge zd_M_rings_70 ⟨h0, by decide⟩ (fun q => ?_) (fun q => ?_)
  · have h := hT q
    refine PW_iload_n zd_M_rings_150 rfl ?_
    exact PW_iret zd_M_rings_151 rfl h
  · have h := hF q
    refine PW_iconst zd_M_rings_73 ?_
    refine PW_istore zd_M_rings_74 rfl (by decide) (ls2 := [_, _, _, _, _, _]) rfl ?_
    refine PW_iconst zd_M_rings_76 ?_
    refine PW_istore zd_M_rings_77 rfl (by decide) (ls2 := [_, _, _, _, _, _]) rfl ?_
    exact PW_sub (by exact ⟨rfl, rfl, rfl, rfl, rfl, rfl, trivial⟩) (kl_M_rings_79  hK66 h)
theorem kl_M_rings_66 {G : zG} {colour : Int} {X : zX} {x2 x3 : Int} {σ : zPH} (h : zLP2 (b_M_rings_66 G colour X ) x2 x3 σ) : PW G zm_M_rings 5 X 66 [some (zr G 58), some (iZ colour), some (iZ x2), some (iZ x3), none, none] [] σ := by
  obtain ⟨n, h⟩ := h
  induction n generalizing x2 x3 σ with
  | zero => exact h.elim
  | succ n ih => exact kb_M_rings_66   (fun _ _ _ h => ih h) h
def b_M_rings_55 (G : zG) (colour : Int) (X : zX) (K27 : Int → zPH → Prop) (x2 s0 s1 : Int) (σ : zPH) : Prop :=
  (0 ≤ s1 ∧ s1 < 576) ∧
  (s0 = 0 ∨ s0 = 1) ∧
  ∀ σ55 : zPH, σ55 = zupd σ 89 s1.toNat s0 →
  K27 (x2 + 1) σ55
set_option maxHeartbeats 4000000 in
theorem kb_M_rings_55 {G : zG} {colour : Int} {X : zX} {K27 : Int → zPH → Prop} (hK27 : ∀ (y0 : Int) (σ : zPH), K27 y0 σ → PW G zm_M_rings 5 X 27 [some (zr G 58), some (iZ colour), some (iZ y0), none, none, none] [] σ) {x2 s0 s1 : Int} {σ : zPH} (h : b_M_rings_55 G colour X K27 x2 s0 s1 σ) : PW G zm_M_rings 5 X 55 [some (zr G 58), some (iZ colour), some (iZ x2), none, none, none] [iZ s0, iZ s1, zr G 89] σ := by
  unfold b_M_rings_55 at h
  obtain ⟨h0, h⟩ := h
  obtain ⟨h1, h⟩ := h
  refine PW_bastore zd_M_rings_55 (zs_89 _) h0 h1 ?_
  have h := h _ rfl
  refine PW_iinc zd_M_rings_56 rfl rfl (by decide) (ls2 := [_, _, _, _, _, _]) rfl ?_
  refine PW_goto zd_M_rings_59 ?_
  exact PW_sub (by exact ⟨rfl, rfl, rfl, trivial⟩) (hK27 _ _ h)
def b_M_rings_27 (G : zG) (colour : Int) (X : zX) (K27 : Int → zPH → Prop) (x2 : Int) (σ : zPH) : Prop :=
  (zI x2) ∧
  (576 ≤ x2 →
    zLP2 (b_M_rings_66 G colour X ) 0 0 σ) ∧
  (x2 < 576 →
    (0 ≤ x2 ∧ x2 < 576) ∧
    (0 ≤ (σ 84 x2.toNat) ∧ 0 ≤ colour) ∧
    (zI (zand (σ 84 x2.toNat) colour)) ∧
    ((zand (σ 84 x2.toNat) colour) = 0 →
      b_M_rings_55 G colour X K27 x2 0 x2 σ) ∧
    ((zand (σ 84 x2.toNat) colour) ≠ 0 →
      b_M_rings_55 G colour X K27 x2 1 x2 σ))
set_option maxHeartbeats 4000000 in
theorem kb_M_rings_27 {G : zG} {colour : Int} {X : zX} {K27 : Int → zPH → Prop} (hK27 : ∀ (y0 : Int) (σ : zPH), K27 y0 σ → PW G zm_M_rings 5 X 27 [some (zr G 58), some (iZ colour), some (iZ y0), none, none, none] [] σ) {x2 : Int} {σ : zPH} (h : b_M_rings_27 G colour X K27 x2 σ) : PW G zm_M_rings 5 X 27 [some (zr G 58), some (iZ colour), some (iZ x2), none, none, none] [] σ := by
  unfold b_M_rings_27 at h
  refine PW_iload_n zd_M_rings_27 rfl ?_
  refine PW_sipush zd_M_rings_28 rfl ?_
  obtain ⟨h0, hT, hF⟩ := h
  refine PW_icmp_ge zd_M_rings_31 ⟨h0, by decide⟩ (fun q => ?_) (fun q => ?_)
  · have h := hT q
    refine PW_iconst zd_M_rings_62 ?_
    refine PW_istore_n zd_M_rings_63 rfl (by decide) (ls2 := [_, _, _, _, _, _]) rfl ?_
    refine PW_iconst zd_M_rings_64 ?_
    refine PW_istore_n zd_M_rings_65 rfl (by decide) (ls2 := [_, _, _, _, _, _]) rfl ?_
    exact PW_sub (by exact ⟨rfl, rfl, rfl, rfl, trivial⟩) (kl_M_rings_66   h)
  · have h := hF q
    refine PW_aload_n zd_M_rings_34 rfl ?_
    refine PW_getR zd_M_rings_35 zf_M_216 (zs_58 _) rfl ?_
    refine PW_iload_n zd_M_rings_38 rfl ?_
    refine PW_aload_n zd_M_rings_39 rfl ?_
    refine PW_getR zd_M_rings_40 zf_M_174 (zs_58 _) rfl ?_
    refine PW_iload_n zd_M_rings_43 rfl ?_
    obtain ⟨h0, h⟩ := h
    refine PW_iaload zd_M_rings_44 (zs_84 _) h0 ?_
    refine PW_iload_n zd_M_rings_45 rfl ?_
    obtain ⟨h0, h⟩ := h
    refine PW_iand zd_M_rings_46 h0 ?_
    obtain ⟨h0, hT, hF⟩ := h
    refine PW_if_eq zd_M_rings_47 h0 (fun q => ?_) (fun q => ?_)
    · have h := hT q
      refine PW_iconst zd_M_rings_54 ?_
      exact PW_sub (by exact ⟨rfl, rfl, rfl, trivial⟩) (kb_M_rings_55  hK27 h)
    · have h := hF q
      refine PW_iconst zd_M_rings_50 ?_
      refine PW_goto zd_M_rings_51 ?_
      exact PW_sub (by exact ⟨rfl, rfl, rfl, trivial⟩) (kb_M_rings_55  hK27 h)
theorem kl_M_rings_27 {G : zG} {colour : Int} {X : zX} {x2 : Int} {σ : zPH} (h : zLP1 (b_M_rings_27 G colour X ) x2 σ) : PW G zm_M_rings 5 X 27 [some (zr G 58), some (iZ colour), some (iZ x2), none, none, none] [] σ := by
  obtain ⟨n, h⟩ := h
  induction n generalizing x2 σ with
  | zero => exact h.elim
  | succ n ih => exact kb_M_rings_27   (fun _ _ h => ih h) h
def b_M_rings_17 (G : zG) (colour : Int) (X : zX) (σ : zPH) : Prop :=
  MS G zm_M_shines 4 [zr G 58, iZ (σ 58 43)] σ (fun v σ22 =>
    v = none ∧
    zLP1 (b_M_rings_27 G colour X ) 0 σ22)
set_option maxHeartbeats 4000000 in
theorem kb_M_rings_17 {G : zG} {colour : Int} {X : zX} {σ : zPH} (h : b_M_rings_17 G colour X   σ) : PW G zm_M_rings 5 X 17 [some (zr G 58), some (iZ colour), none, none, none, none] [] σ := by
  unfold b_M_rings_17 at h
  refine PW_aload_n zd_M_rings_17 rfl ?_
  refine PW_aload_n zd_M_rings_18 rfl ?_
  refine PW_getI zd_M_rings_19 zf_M_144 (zs_58 _) rfl ?_
  refine PW_callV1v zd_M_rings_22 zl_M_458 zk_M_shines zv_M_shines (fr' := 4) (by decide) (zs_58 _) rfl rfl (Nat.le_of_ble_eq_true rfl) ?_
  refine ms_mono h ?_
  rintro v σ1 ⟨rfl, h⟩
  refine ⟨rfl, ?_⟩
  refine PW_iconst zd_M_rings_25 ?_
  refine PW_istore_n zd_M_rings_26 rfl (by decide) (ls2 := [_, _, _, _, _, _]) rfl ?_
  exact PW_sub (by exact ⟨rfl, rfl, rfl, trivial⟩) (kl_M_rings_27   h)
def w_M_rings (G : zG) (colour : Int) (X : zX) (σ : zPH) : Prop :=
  (zI colour) ∧
  (colour = 1 →
    b_M_rings_17 G colour X  σ) ∧
  (colour ≠ 1 →
    (zI colour) ∧
    (colour = 2 →
      b_M_rings_17 G colour X  σ) ∧
    (colour ≠ 2 →
      (zI colour) ∧
      (colour = 4 →
        b_M_rings_17 G colour X  σ) ∧
      (colour ≠ 4 →
        X (some (iZ (-1))) σ)))
set_option maxHeartbeats 4000000 in
theorem k_M_rings {G : zG} {colour : Int} {X : zX} {σ : zPH} (h : w_M_rings G colour X σ) : MS G zm_M_rings 5 [zr G 58, iZ colour] σ X := by
  refine ms_of zk_M_rings (Nat.le_of_ble_eq_true rfl) (ls := [some (zr G 58), some (iZ colour), none, none, none, none]) rfl ?_
  unfold w_M_rings at h
  refine PW_iload_n zd_M_rings_0 rfl ?_
  refine PW_iconst zd_M_rings_1 ?_
  obtain ⟨h0, hT, hF⟩ := h
  refine PW_icmp_eq zd_M_rings_2 ⟨h0, by decide⟩ (fun q => ?_) (fun q => ?_)
  · have h := hT q
    exact PW_sub (by exact ⟨rfl, rfl, trivial⟩) (kb_M_rings_17   h)
  · have h := hF q
    refine PW_iload_n zd_M_rings_5 rfl ?_
    refine PW_iconst zd_M_rings_6 ?_
    obtain ⟨h0, hT, hF⟩ := h
    refine PW_icmp_eq zd_M_rings_7 ⟨h0, by decide⟩ (fun q => ?_) (fun q => ?_)
    · have h := hT q
      exact PW_sub (by exact ⟨rfl, rfl, trivial⟩) (kb_M_rings_17   h)
    · have h := hF q
      refine PW_iload_n zd_M_rings_10 rfl ?_
      refine PW_iconst zd_M_rings_11 ?_
      obtain ⟨h0, hT, hF⟩ := h
      refine PW_icmp_eq zd_M_rings_12 ⟨h0, by decide⟩ (fun q => ?_) (fun q => ?_)
      · have h := hT q
        exact PW_sub (by exact ⟨rfl, rfl, trivial⟩) (kb_M_rings_17   h)
      · have h := hF q
        refine PW_iconst zd_M_rings_15 ?_
        exact PW_iret zd_M_rings_16 rfl h
def b_M_steady_71 (G : zG) (all : Int) (X : zX) (K38 : Int → Int → Int → zPH → Prop) (x3 x4 s0 : Int) (σ : zPH) : Prop :=
  MS G zm_M_stepped 5 [zr G 58, iZ x3] σ (fun v σ74 =>
    ∃ z74 : Int, v = some (iZ z74) ∧
    K38 s0 z74 (x4 + 1) σ74)
set_option maxHeartbeats 4000000 in
theorem kb_M_steady_71 {G : zG} {all : Int} {X : zX} {K38 : Int → Int → Int → zPH → Prop} (hK38 : ∀ (y0 y1 y2 : Int) (σ : zPH), K38 y0 y1 y2 σ → PW G zm_M_steady 7 X 38 [some (zr G 58), some (iZ all), some (iZ y0), some (iZ y1), some (iZ y2)] [] σ) {x3 x4 s0 : Int} {σ : zPH} (h : b_M_steady_71 G all X K38 x3 x4 s0 σ) : PW G zm_M_steady 7 X 71 [some (zr G 58), some (iZ all), none, some (iZ x3), some (iZ x4)] [iZ s0] σ := by
  unfold b_M_steady_71 at h
  refine PW_istore_n zd_M_steady_71 rfl (by decide) (ls2 := [_, _, _, _, _]) rfl ?_
  refine PW_aload_n zd_M_steady_72 rfl ?_
  refine PW_iload_n zd_M_steady_73 rfl ?_
  refine PW_callV1i zd_M_steady_74 zl_M_464 zk_M_stepped zv_M_stepped (fr' := 5) (by decide) (zs_58 _) rfl rfl (Nat.le_of_ble_eq_true rfl) ?_
  refine ms_mono h ?_
  rintro v σ1 ⟨z, rfl, h⟩
  refine ⟨z, rfl, ?_⟩
  refine PW_istore_n zd_M_steady_77 rfl (by decide) (ls2 := [_, _, _, _, _]) rfl ?_
  refine PW_iinc zd_M_steady_78 rfl rfl (by decide) (ls2 := [_, _, _, _, _]) rfl ?_
  refine PW_goto zd_M_steady_81 ?_
  exact PW_sub (by exact ⟨rfl, rfl, rfl, rfl, rfl, trivial⟩) (hK38 _ _ _ _ h)
def b_M_steady_38 (G : zG) (all : Int) (X : zX) (K38 : Int → Int → Int → zPH → Prop) (x2 x3 x4 : Int) (σ : zPH) : Prop :=
  (zI x4 ∧ zI (σ 58 60)) ∧
  ((σ 58 60) ≤ x4 →
    X (some (iZ x2)) σ) ∧
  (x4 < (σ 58 60) →
    MS G zm_M_shines 4 [zr G 58, iZ x3] σ (fun v σ49 =>
      v = none ∧
      (zI all) ∧
      (all = 0 →
        MS G zm_M_litEyes 2 [zr G 58] σ49 (fun v σ67 =>
          ∃ z67 : Int, v = some (iZ z67) ∧
          (0 ≤ x2 ∧ 0 ≤ z67) ∧
          b_M_steady_71 G all X K38 x3 x4 (zor x2 z67) σ67)) ∧
      (all ≠ 0 →
        MS G zm_M_litEyes 2 [zr G 58] σ49 (fun v σ58 =>
          ∃ z58 : Int, v = some (iZ z58) ∧
          (0 ≤ x2 ∧ 0 ≤ z58) ∧
          b_M_steady_71 G all X K38 x3 x4 (zand x2 z58) σ58))))
set_option maxHeartbeats 4000000 in
theorem kb_M_steady_38 {G : zG} {all : Int} {X : zX} {K38 : Int → Int → Int → zPH → Prop} (hK38 : ∀ (y0 y1 y2 : Int) (σ : zPH), K38 y0 y1 y2 σ → PW G zm_M_steady 7 X 38 [some (zr G 58), some (iZ all), some (iZ y0), some (iZ y1), some (iZ y2)] [] σ) {x2 x3 x4 : Int} {σ : zPH} (h : b_M_steady_38 G all X K38 x2 x3 x4 σ) : PW G zm_M_steady 7 X 38 [some (zr G 58), some (iZ all), some (iZ x2), some (iZ x3), some (iZ x4)] [] σ := by
  unfold b_M_steady_38 at h
  refine PW_iload zd_M_steady_38 rfl ?_
  refine PW_aload_n zd_M_steady_40 rfl ?_
  refine PW_getI zd_M_steady_41 zf_M_195 (zs_58 _) rfl ?_
  obtain ⟨h0, hT, hF⟩ := h
  refine PW_icmp_ge zd_M_steady_44 h0 (fun q => ?_) (fun q => ?_)
  · have h := hT q
    refine PW_iload_n zd_M_steady_84 rfl ?_
    exact PW_iret zd_M_steady_85 rfl h
  · have h := hF q
    refine PW_aload_n zd_M_steady_47 rfl ?_
    refine PW_iload_n zd_M_steady_48 rfl ?_
    refine PW_callV1v zd_M_steady_49 zl_M_458 zk_M_shines zv_M_shines (fr' := 4) (by decide) (zs_58 _) rfl rfl (Nat.le_of_ble_eq_true rfl) ?_
    refine ms_mono h ?_
    rintro v σ1 ⟨rfl, h⟩
    refine ⟨rfl, ?_⟩
    refine PW_iload_n zd_M_steady_52 rfl ?_
    obtain ⟨h0, hT, hF⟩ := h
    refine PW_if_eq zd_M_steady_53 h0 (fun q => ?_) (fun q => ?_)
    · have h := hT q
      refine PW_iload_n zd_M_steady_65 rfl ?_
      refine PW_aload_n zd_M_steady_66 rfl ?_
      refine PW_callV0i zd_M_steady_67 zl_M_470 zk_M_litEyes zv_M_litEyes (fr' := 2) (by decide) (zs_58 _) rfl rfl (Nat.le_of_ble_eq_true rfl) ?_
      refine ms_mono h ?_
      rintro v σ1 ⟨z, rfl, h⟩
      refine ⟨z, rfl, ?_⟩
      obtain ⟨h0, h⟩ := h
      refine PW_ior zd_M_steady_70 h0 ?_
      exact PW_sub (by exact ⟨rfl, rfl, rfl, rfl, trivial⟩) (kb_M_steady_71  hK38 h)
    · have h := hF q
      refine PW_iload_n zd_M_steady_56 rfl ?_
      refine PW_aload_n zd_M_steady_57 rfl ?_
      refine PW_callV0i zd_M_steady_58 zl_M_470 zk_M_litEyes zv_M_litEyes (fr' := 2) (by decide) (zs_58 _) rfl rfl (Nat.le_of_ble_eq_true rfl) ?_
      refine ms_mono h ?_
      rintro v σ1 ⟨z, rfl, h⟩
      refine ⟨z, rfl, ?_⟩
      obtain ⟨h0, h⟩ := h
      refine PW_iand zd_M_steady_61 h0 ?_
      refine PW_goto zd_M_steady_62 ?_
      exact PW_sub (by exact ⟨rfl, rfl, rfl, rfl, trivial⟩) (kb_M_steady_71  hK38 h)
theorem kl_M_steady_38 {G : zG} {all : Int} {X : zX} {x2 x3 x4 : Int} {σ : zPH} (h : zLP3 (b_M_steady_38 G all X ) x2 x3 x4 σ) : PW G zm_M_steady 7 X 38 [some (zr G 58), some (iZ all), some (iZ x2), some (iZ x3), some (iZ x4)] [] σ := by
  obtain ⟨n, h⟩ := h
  induction n generalizing x2 x3 x4 σ with
  | zero => exact h.elim
  | succ n ih => exact kb_M_steady_38   (fun _ _ _ _ h => ih h) h
def b_M_steady_29 (G : zG) (all : Int) (X : zX) (s0 : Int) (σ : zPH) : Prop :=
  ∀ x3 : Int, x3 = (σ 58 61) →
  zLP3 (b_M_steady_38 G all X ) s0 x3 0 σ
set_option maxHeartbeats 4000000 in
theorem kb_M_steady_29 {G : zG} {all : Int} {X : zX} {s0 : Int} {σ : zPH} (h : b_M_steady_29 G all X  s0 σ) : PW G zm_M_steady 7 X 29 [some (zr G 58), some (iZ all), none, none, none] [iZ s0] σ := by
  unfold b_M_steady_29 at h
  refine PW_istore_n zd_M_steady_29 rfl (by decide) (ls2 := [_, _, _, _, _]) rfl ?_
  refine PW_aload_n zd_M_steady_30 rfl ?_
  refine PW_getI zd_M_steady_31 zf_M_198 (zs_58 _) rfl ?_
  refine PW_istore_n zd_M_steady_34 rfl (by decide) (ls2 := [_, _, _, _, _]) rfl ?_
  have h := h _ rfl
  refine PW_iconst zd_M_steady_35 ?_
  refine PW_istore zd_M_steady_36 rfl (by decide) (ls2 := [_, _, _, _, _]) rfl ?_
  exact PW_sub (by exact ⟨rfl, rfl, rfl, rfl, rfl, trivial⟩) (kl_M_steady_38   h)
def w_M_steady (G : zG) (all : Int) (X : zX) (σ : zPH) : Prop :=
  MS G zm_M_follows 6 [zr G 58, iZ (σ 58 43)] σ (fun v σ5 =>
    v = none ∧
    (zI all) ∧
    (all = 0 →
      b_M_steady_29 G all X  0 σ5) ∧
    (all ≠ 0 →
      (0 ≤ (σ5 58 13) ∧ (σ5 58 13) < 2) ∧
      (0 ≤ (σ5 66 (σ5 58 13).toNat) ∧ (σ5 66 (σ5 58 13).toNat) < 32) ∧
      b_M_steady_29 G all X  (((1 : Int) * 2 ^ (σ5 66 (σ5 58 13).toNat).toNat) - 1) σ5))
set_option maxHeartbeats 4000000 in
theorem k_M_steady {G : zG} {all : Int} {X : zX} {σ : zPH} (h : w_M_steady G all X σ) : MS G zm_M_steady 7 [zr G 58, iZ all] σ X := by
  refine ms_of zk_M_steady (Nat.le_of_ble_eq_true rfl) (ls := [some (zr G 58), some (iZ all), none, none, none]) rfl ?_
  unfold w_M_steady at h
  refine PW_aload_n zd_M_steady_0 rfl ?_
  refine PW_aload_n zd_M_steady_1 rfl ?_
  refine PW_getI zd_M_steady_2 zf_M_144 (zs_58 _) rfl ?_
  refine PW_callV1v zd_M_steady_5 zl_M_467 zk_M_follows zv_M_follows (fr' := 6) (by decide) (zs_58 _) rfl rfl (Nat.le_of_ble_eq_true rfl) ?_
  refine ms_mono h ?_
  rintro v σ1 ⟨rfl, h⟩
  refine ⟨rfl, ?_⟩
  refine PW_iload_n zd_M_steady_8 rfl ?_
  obtain ⟨h0, hT, hF⟩ := h
  refine PW_if_eq zd_M_steady_9 h0 (fun q => ?_) (fun q => ?_)
  · have h := hT q
    refine PW_iconst zd_M_steady_28 ?_
    exact PW_sub (by exact ⟨rfl, rfl, trivial⟩) (kb_M_steady_29   h)
  · have h := hF q
    refine PW_iconst zd_M_steady_12 ?_
    refine PW_aload_n zd_M_steady_13 rfl ?_
    refine PW_getR zd_M_steady_14 zf_M_72 (zs_58 _) rfl ?_
    refine PW_aload_n zd_M_steady_17 rfl ?_
    refine PW_getI zd_M_steady_18 zf_M_51 (zs_58 _) rfl ?_
    obtain ⟨h0, h⟩ := h
    refine PW_iaload zd_M_steady_21 (zs_66 _) h0 ?_
    obtain ⟨h0, h⟩ := h
    refine PW_ishl zd_M_steady_22 h0 ?_
    refine PW_iconst zd_M_steady_23 ?_
    refine PW_isub zd_M_steady_24 ?_
    refine PW_goto zd_M_steady_25 ?_
    exact PW_sub (by exact ⟨rfl, rfl, trivial⟩) (kb_M_steady_29   h)
def b_M_slow_52 (G : zG) (what : Int) (X : zX) (K18 : Int → Int → Int → zPH → Prop) (x2 x3 x4 : Int) (σ : zPH) : Prop :=
  K18 x2 x3 (x4 + 1) σ
set_option maxHeartbeats 4000000 in
theorem kb_M_slow_52 {G : zG} {what : Int} {X : zX} {K18 : Int → Int → Int → zPH → Prop} (hK18 : ∀ (y0 y1 y2 : Int) (σ : zPH), K18 y0 y1 y2 σ → PW G zm_M_slow 7 X 18 [some (zr G 58), some (iZ what), some (iZ y0), some (iZ y1), some (iZ y2)] [] σ) {x2 x3 x4 : Int} {σ : zPH} (h : b_M_slow_52 G what X K18 x2 x3 x4 σ) : PW G zm_M_slow 7 X 52 [some (zr G 58), some (iZ what), some (iZ x2), some (iZ x3), some (iZ x4)] [] σ := by
  unfold b_M_slow_52 at h
  refine PW_iinc zd_M_slow_52 rfl rfl (by decide) (ls2 := [_, _, _, _, _]) rfl ?_
  refine PW_goto zd_M_slow_55 ?_
  exact PW_sub (by exact ⟨rfl, rfl, rfl, rfl, rfl, trivial⟩) (hK18 _ _ _ _ h)
def b_M_slow_18 (G : zG) (what : Int) (X : zX) (K18 : Int → Int → Int → zPH → Prop) (x2 x3 x4 : Int) (σ : zPH) : Prop :=
  MS G zm_M_states 0 [zr G 58] σ (fun v σ21 =>
    ∃ z21 : Int, v = some (iZ z21) ∧
    (zI x4 ∧ zI z21) ∧
    (z21 ≤ x4 →
      (zI what) ∧
      (what ≠ 0 →
        X (some (iZ x2)) σ21) ∧
      (what = 0 →
        X (some (iZ x3)) σ21)) ∧
    (x4 < z21 →
      MS G zm_M_follows 6 [zr G 58, iZ x4] σ21 (fun v σ30 =>
        v = none ∧
        (zI (σ30 58 59) ∧ zI x2) ∧
        (x2 < (σ30 58 59) →
          ∀ x2_ : Int, x2_ = (σ30 58 59) →
          b_M_slow_52 G what X K18 x2_ x4 x4 σ30) ∧
        ((σ30 58 59) ≤ x2 →
          b_M_slow_52 G what X K18 x2 x3 x4 σ30))))
set_option maxHeartbeats 4000000 in
theorem kb_M_slow_18 {G : zG} {what : Int} {X : zX} {K18 : Int → Int → Int → zPH → Prop} (hK18 : ∀ (y0 y1 y2 : Int) (σ : zPH), K18 y0 y1 y2 σ → PW G zm_M_slow 7 X 18 [some (zr G 58), some (iZ what), some (iZ y0), some (iZ y1), some (iZ y2)] [] σ) {x2 x3 x4 : Int} {σ : zPH} (h : b_M_slow_18 G what X K18 x2 x3 x4 σ) : PW G zm_M_slow 7 X 18 [some (zr G 58), some (iZ what), some (iZ x2), some (iZ x3), some (iZ x4)] [] σ := by
  unfold b_M_slow_18 at h
  refine PW_iload zd_M_slow_18 rfl ?_
  refine PW_aload_n zd_M_slow_20 rfl ?_
  refine PW_callV0i zd_M_slow_21 zl_M_455 zk_M_states zv_M_states (fr' := 0) (by decide) (zs_58 _) rfl rfl (Nat.le_of_ble_eq_true rfl) ?_
  refine ms_mono h ?_
  rintro v σ1 ⟨z, rfl, h⟩
  refine ⟨z, rfl, ?_⟩
  obtain ⟨h0, hT, hF⟩ := h
  refine PW_icmp_ge zd_M_slow_24 h0 (fun q => ?_) (fun q => ?_)
  · have h := hT q
    refine PW_iload_n zd_M_slow_58 rfl ?_
    obtain ⟨h0, hT, hF⟩ := h
    refine PW_if_ne zd_M_slow_59 h0 (fun q => ?_) (fun q => ?_)
    · have h := hT q
      refine PW_iload_n zd_M_slow_66 rfl ?_
      exact PW_iret zd_M_slow_67 rfl h
    · have h := hF q
      refine PW_iload_n zd_M_slow_62 rfl ?_
      refine PW_goto zd_M_slow_63 ?_
      exact PW_iret zd_M_slow_67 rfl h
  · have h := hF q
    refine PW_aload_n zd_M_slow_27 rfl ?_
    refine PW_iload zd_M_slow_28 rfl ?_
    refine PW_callV1v zd_M_slow_30 zl_M_467 zk_M_follows zv_M_follows (fr' := 6) (by decide) (zs_58 _) rfl rfl (Nat.le_of_ble_eq_true rfl) ?_
    refine ms_mono h ?_
    rintro v σ1 ⟨rfl, h⟩
    refine ⟨rfl, ?_⟩
    refine PW_aload_n zd_M_slow_33 rfl ?_
    refine PW_getI zd_M_slow_34 zf_M_192 (zs_58 _) rfl ?_
    refine PW_iload_n zd_M_slow_37 rfl ?_
    obtain ⟨h0, hT, hF⟩ := h
    refine PW_icmp_gt zd_M_slow_38 h0 (fun q => ?_) (fun q => ?_)
    · have h := hT q
      refine PW_aload_n zd_M_slow_44 rfl ?_
      refine PW_getI zd_M_slow_45 zf_M_192 (zs_58 _) rfl ?_
      refine PW_istore_n zd_M_slow_48 rfl (by decide) (ls2 := [_, _, _, _, _]) rfl ?_
      have h := h _ rfl
      refine PW_iload zd_M_slow_49 rfl ?_
      refine PW_istore_n zd_M_slow_51 rfl (by decide) (ls2 := [_, _, _, _, _]) rfl ?_
      exact PW_sub (by exact ⟨rfl, rfl, rfl, rfl, rfl, trivial⟩) (kb_M_slow_52  hK18 h)
    · have h := hF q
      refine PW_goto zd_M_slow_41 ?_
      exact PW_sub (by exact ⟨rfl, rfl, rfl, rfl, rfl, trivial⟩) (kb_M_slow_52  hK18 h)
theorem kl_M_slow_18 {G : zG} {what : Int} {X : zX} {x2 x3 x4 : Int} {σ : zPH} (h : zLP3 (b_M_slow_18 G what X ) x2 x3 x4 σ) : PW G zm_M_slow 7 X 18 [some (zr G 58), some (iZ what), some (iZ x2), some (iZ x3), some (iZ x4)] [] σ := by
  obtain ⟨n, h⟩ := h
  induction n generalizing x2 x3 x4 σ with
  | zero => exact h.elim
  | succ n ih => exact kb_M_slow_18   (fun _ _ _ _ h => ih h) h
def b_M_slow_11 (G : zG) (what : Int) (X : zX) (σ : zPH) : Prop :=
  zLP3 (b_M_slow_18 G what X ) (-1) 0 0 σ
set_option maxHeartbeats 4000000 in
theorem kb_M_slow_11 {G : zG} {what : Int} {X : zX} {σ : zPH} (h : b_M_slow_11 G what X   σ) : PW G zm_M_slow 7 X 11 [some (zr G 58), some (iZ what), none, none, none] [] σ := by
  unfold b_M_slow_11 at h
  refine PW_iconst zd_M_slow_11 ?_
  refine PW_istore_n zd_M_slow_12 rfl (by decide) (ls2 := [_, _, _, _, _]) rfl ?_
  refine PW_iconst zd_M_slow_13 ?_
  refine PW_istore_n zd_M_slow_14 rfl (by decide) (ls2 := [_, _, _, _, _]) rfl ?_
  refine PW_iconst zd_M_slow_15 ?_
  refine PW_istore zd_M_slow_16 rfl (by decide) (ls2 := [_, _, _, _, _]) rfl ?_
  exact PW_sub (by exact ⟨rfl, rfl, rfl, rfl, rfl, trivial⟩) (kl_M_slow_18   h)
def w_M_slow (G : zG) (what : Int) (X : zX) (σ : zPH) : Prop :=
  (zI what) ∧
  (what = 0 →
    b_M_slow_11 G what X  σ) ∧
  (what ≠ 0 →
    (zI what) ∧
    (what = 1 →
      b_M_slow_11 G what X  σ) ∧
    (what ≠ 1 →
      X (some (iZ (-1))) σ))
set_option maxHeartbeats 4000000 in
theorem k_M_slow {G : zG} {what : Int} {X : zX} {σ : zPH} (h : w_M_slow G what X σ) : MS G zm_M_slow 7 [zr G 58, iZ what] σ X := by
  refine ms_of zk_M_slow (Nat.le_of_ble_eq_true rfl) (ls := [some (zr G 58), some (iZ what), none, none, none]) rfl ?_
  unfold w_M_slow at h
  refine PW_iload_n zd_M_slow_0 rfl ?_
  obtain ⟨h0, hT, hF⟩ := h
  refine PW_if_eq zd_M_slow_1 h0 (fun q => ?_) (fun q => ?_)
  · have h := hT q
    exact PW_sub (by exact ⟨rfl, rfl, trivial⟩) (kb_M_slow_11   h)
  · have h := hF q
    refine PW_iload_n zd_M_slow_4 rfl ?_
    refine PW_iconst zd_M_slow_5 ?_
    obtain ⟨h0, hT, hF⟩ := h
    refine PW_icmp_eq zd_M_slow_6 ⟨h0, by decide⟩ (fun q => ?_) (fun q => ?_)
    · have h := hT q
      exact PW_sub (by exact ⟨rfl, rfl, trivial⟩) (kb_M_slow_11   h)
    · have h := hF q
      refine PW_iconst zd_M_slow_9 ?_
      exact PW_iret zd_M_slow_10 rfl h
def b_M_remembers_61 (G : zG) (t st : Int) (X : zX) (σ : zPH) : Prop :=
  (0 ≤ (σ 58 68) ∧ (σ 58 68) < 16) ∧
  ∀ σ70 : zPH, σ70 = zupd σ 90 (σ 58 68).toNat t →
  (0 ≤ (σ70 58 68) ∧ (σ70 58 68) < 16) ∧
  ∀ σ80 : zPH, σ80 = zupd σ70 91 (σ70 58 68).toNat st →
  ∀ σ88 : zPH, σ88 = zupd σ80 58 68 ((σ80 58 68) + 1) →
  X none σ88
set_option maxHeartbeats 4000000 in
theorem kb_M_remembers_61 {G : zG} {t st : Int} {X : zX} {σ : zPH} (h : b_M_remembers_61 G t st X   σ) : PW G zm_M_remembers 0 X 61 [some (zr G 58), some (iZ t), some (iZ st), none] [] σ := by
  unfold b_M_remembers_61 at h
  refine PW_aload_n zd_M_remembers_61 rfl ?_
  refine PW_getR zd_M_remembers_62 zf_M_222 (zs_58 _) rfl ?_
  refine PW_aload_n zd_M_remembers_65 rfl ?_
  refine PW_getI zd_M_remembers_66 zf_M_219 (zs_58 _) rfl ?_
  refine PW_iload_n zd_M_remembers_69 rfl ?_
  obtain ⟨h0, h⟩ := h
  refine PW_iastore zd_M_remembers_70 (zs_90 _) h0 ?_
  have h := h _ rfl
  refine PW_aload_n zd_M_remembers_71 rfl ?_
  refine PW_getR zd_M_remembers_72 zf_M_225 (zs_58 _) rfl ?_
  refine PW_aload_n zd_M_remembers_75 rfl ?_
  refine PW_getI zd_M_remembers_76 zf_M_219 (zs_58 _) rfl ?_
  refine PW_iload_n zd_M_remembers_79 rfl ?_
  obtain ⟨h0, h⟩ := h
  refine PW_iastore zd_M_remembers_80 (zs_91 _) h0 ?_
  have h := h _ rfl
  refine PW_aload_n zd_M_remembers_81 rfl ?_
  refine PW_dup zd_M_remembers_82 rfl ?_
  refine PW_getI zd_M_remembers_83 zf_M_219 (zs_58 _) rfl ?_
  refine PW_iconst zd_M_remembers_86 ?_
  refine PW_iadd zd_M_remembers_87 ?_
  refine PW_putI zd_M_remembers_88 zp_M_219 (zs_58 _) rfl ?_
  have h := h _ rfl
  exact PW_vret zd_M_remembers_91 rfl h
def b_M_remembers_11 (G : zG) (t st : Int) (X : zX) (K11 : Int → zPH → Prop) (x3 : Int) (σ : zPH) : Prop :=
  (zI x3) ∧
  (15 ≤ x3 →
    ∀ σ58 : zPH, σ58 = zupd σ 58 68 ((σ 58 68) - 1) →
    b_M_remembers_61 G t st X  σ58) ∧
  (x3 < 15 →
    (0 ≤ (x3 + 1) ∧ (x3 + 1) < 16) ∧
    (0 ≤ x3 ∧ x3 < 16) ∧
    ∀ σ30 : zPH, σ30 = zupd σ 90 x3.toNat (σ 90 (x3 + 1).toNat) →
    (0 ≤ (x3 + 1) ∧ (x3 + 1) < 16) ∧
    (0 ≤ x3 ∧ x3 < 16) ∧
    ∀ σ44 : zPH, σ44 = zupd σ30 91 x3.toNat (σ30 91 (x3 + 1).toNat) →
    K11 (x3 + 1) σ44)
set_option maxHeartbeats 4000000 in
theorem kb_M_remembers_11 {G : zG} {t st : Int} {X : zX} {K11 : Int → zPH → Prop} (hK11 : ∀ (y0 : Int) (σ : zPH), K11 y0 σ → PW G zm_M_remembers 0 X 11 [some (zr G 58), some (iZ t), some (iZ st), some (iZ y0)] [] σ) {x3 : Int} {σ : zPH} (h : b_M_remembers_11 G t st X K11 x3 σ) : PW G zm_M_remembers 0 X 11 [some (zr G 58), some (iZ t), some (iZ st), some (iZ x3)] [] σ := by
  unfold b_M_remembers_11 at h
  refine PW_iload_n zd_M_remembers_11 rfl ?_
  refine PW_bipush zd_M_remembers_12 rfl ?_
  obtain ⟨h0, hT, hF⟩ := h
  refine PW_icmp_ge zd_M_remembers_14 ⟨h0, by decide⟩ (fun q => ?_) (fun q => ?_)
  · have h := hT q
    refine PW_aload_n zd_M_remembers_51 rfl ?_
    refine PW_dup zd_M_remembers_52 rfl ?_
    refine PW_getI zd_M_remembers_53 zf_M_219 (zs_58 _) rfl ?_
    refine PW_iconst zd_M_remembers_56 ?_
    refine PW_isub zd_M_remembers_57 ?_
    refine PW_putI zd_M_remembers_58 zp_M_219 (zs_58 _) rfl ?_
    have h := h _ rfl
    exact PW_sub (by exact ⟨rfl, rfl, rfl, trivial⟩) (kb_M_remembers_61   h)
  · have h := hF q
    refine PW_aload_n zd_M_remembers_17 rfl ?_
    refine PW_getR zd_M_remembers_18 zf_M_222 (zs_58 _) rfl ?_
    refine PW_iload_n zd_M_remembers_21 rfl ?_
    refine PW_aload_n zd_M_remembers_22 rfl ?_
    refine PW_getR zd_M_remembers_23 zf_M_222 (zs_58 _) rfl ?_
    refine PW_iload_n zd_M_remembers_26 rfl ?_
    refine PW_iconst zd_M_remembers_27 ?_
    refine PW_iadd zd_M_remembers_28 ?_
    obtain ⟨h0, h⟩ := h
    refine PW_iaload zd_M_remembers_29 (zs_90 _) h0 ?_
    obtain ⟨h0, h⟩ := h
    refine PW_iastore zd_M_remembers_30 (zs_90 _) h0 ?_
    have h := h _ rfl
    refine PW_aload_n zd_M_remembers_31 rfl ?_
    refine PW_getR zd_M_remembers_32 zf_M_225 (zs_58 _) rfl ?_
    refine PW_iload_n zd_M_remembers_35 rfl ?_
    refine PW_aload_n zd_M_remembers_36 rfl ?_
    refine PW_getR zd_M_remembers_37 zf_M_225 (zs_58 _) rfl ?_
    refine PW_iload_n zd_M_remembers_40 rfl ?_
    refine PW_iconst zd_M_remembers_41 ?_
    refine PW_iadd zd_M_remembers_42 ?_
    obtain ⟨h0, h⟩ := h
    refine PW_iaload zd_M_remembers_43 (zs_91 _) h0 ?_
    obtain ⟨h0, h⟩ := h
    refine PW_iastore zd_M_remembers_44 (zs_91 _) h0 ?_
    have h := h _ rfl
    refine PW_iinc zd_M_remembers_45 rfl rfl (by decide) (ls2 := [_, _, _, _]) rfl ?_
    refine PW_goto zd_M_remembers_48 ?_
    exact PW_sub (by exact ⟨rfl, rfl, rfl, rfl, trivial⟩) (hK11 _ _ h)
theorem kl_M_remembers_11 {G : zG} {t st : Int} {X : zX} {x3 : Int} {σ : zPH} (h : zLP1 (b_M_remembers_11 G t st X ) x3 σ) : PW G zm_M_remembers 0 X 11 [some (zr G 58), some (iZ t), some (iZ st), some (iZ x3)] [] σ := by
  obtain ⟨n, h⟩ := h
  induction n generalizing x3 σ with
  | zero => exact h.elim
  | succ n ih => exact kb_M_remembers_11   (fun _ _ h => ih h) h
def w_M_remembers (G : zG) (t st : Int) (X : zX) (σ : zPH) : Prop :=
  (zI (σ 58 68)) ∧
  ((σ 58 68) ≠ 16 →
    b_M_remembers_61 G t st X  σ) ∧
  ((σ 58 68) = 16 →
    zLP1 (b_M_remembers_11 G t st X ) 0 σ)
set_option maxHeartbeats 4000000 in
theorem k_M_remembers {G : zG} {t st : Int} {X : zX} {σ : zPH} (h : w_M_remembers G t st X σ) : MS G zm_M_remembers 0 [zr G 58, iZ t, iZ st] σ X := by
  refine ms_of zk_M_remembers (Nat.le_of_ble_eq_true rfl) (ls := [some (zr G 58), some (iZ t), some (iZ st), none]) rfl ?_
  unfold w_M_remembers at h
  refine PW_aload_n zd_M_remembers_0 rfl ?_
  refine PW_getI zd_M_remembers_1 zf_M_219 (zs_58 _) rfl ?_
  refine PW_bipush zd_M_remembers_4 rfl ?_
  obtain ⟨h0, hT, hF⟩ := h
  refine PW_icmp_ne zd_M_remembers_6 ⟨h0, by decide⟩ (fun q => ?_) (fun q => ?_)
  · have h := hT q
    exact PW_sub (by exact ⟨rfl, rfl, rfl, trivial⟩) (kb_M_remembers_61   h)
  · have h := hF q
    refine PW_iconst zd_M_remembers_9 ?_
    refine PW_istore_n zd_M_remembers_10 rfl (by decide) (ls2 := [_, _, _, _]) rfl ?_
    exact PW_sub (by exact ⟨rfl, rfl, rfl, rfl, trivial⟩) (kl_M_remembers_11   h)
def w_M_back (G : zG) (X : zX) (σ : zPH) : Prop :=
  (zI (σ 58 68)) ∧
  ((σ 58 68) ≠ 0 →
    ∀ σ16 : zPH, σ16 = zupd σ 58 68 ((σ 58 68) - 1) →
    (0 ≤ (σ16 58 68) ∧ (σ16 58 68) < 16) ∧
    ∀ σ29 : zPH, σ29 = zupd σ16 58 42 (σ16 90 (σ16 58 68).toNat) →
    (0 ≤ (σ29 58 68) ∧ (σ29 58 68) < 16) ∧
    ∀ σ42 : zPH, σ42 = zupd σ29 58 43 (σ29 91 (σ29 58 68).toNat) →
    X (some (iZ (σ42 58 68))) σ42) ∧
  ((σ 58 68) = 0 →
    X (some (iZ (-1))) σ)
set_option maxHeartbeats 4000000 in
theorem k_M_back {G : zG} {X : zX} {σ : zPH} (h : w_M_back G  X σ) : MS G zm_M_back 0 [zr G 58] σ X := by
  refine ms_of zk_M_back (Nat.le_of_ble_eq_true rfl) (ls := [some (zr G 58)]) rfl ?_
  unfold w_M_back at h
  refine PW_aload_n zd_M_back_0 rfl ?_
  refine PW_getI zd_M_back_1 zf_M_219 (zs_58 _) rfl ?_
  obtain ⟨h0, hT, hF⟩ := h
  refine PW_if_ne zd_M_back_4 h0 (fun q => ?_) (fun q => ?_)
  · have h := hT q
    refine PW_aload_n zd_M_back_9 rfl ?_
    refine PW_dup zd_M_back_10 rfl ?_
    refine PW_getI zd_M_back_11 zf_M_219 (zs_58 _) rfl ?_
    refine PW_iconst zd_M_back_14 ?_
    refine PW_isub zd_M_back_15 ?_
    refine PW_putI zd_M_back_16 zp_M_219 (zs_58 _) rfl ?_
    have h := h _ rfl
    refine PW_aload_n zd_M_back_19 rfl ?_
    refine PW_aload_n zd_M_back_20 rfl ?_
    refine PW_getR zd_M_back_21 zf_M_222 (zs_58 _) rfl ?_
    refine PW_aload_n zd_M_back_24 rfl ?_
    refine PW_getI zd_M_back_25 zf_M_219 (zs_58 _) rfl ?_
    obtain ⟨h0, h⟩ := h
    refine PW_iaload zd_M_back_28 (zs_90 _) h0 ?_
    refine PW_putI zd_M_back_29 zp_M_141 (zs_58 _) rfl ?_
    have h := h _ rfl
    refine PW_aload_n zd_M_back_32 rfl ?_
    refine PW_aload_n zd_M_back_33 rfl ?_
    refine PW_getR zd_M_back_34 zf_M_225 (zs_58 _) rfl ?_
    refine PW_aload_n zd_M_back_37 rfl ?_
    refine PW_getI zd_M_back_38 zf_M_219 (zs_58 _) rfl ?_
    obtain ⟨h0, h⟩ := h
    refine PW_iaload zd_M_back_41 (zs_91 _) h0 ?_
    refine PW_putI zd_M_back_42 zp_M_144 (zs_58 _) rfl ?_
    have h := h _ rfl
    refine PW_aload_n zd_M_back_45 rfl ?_
    refine PW_getI zd_M_back_46 zf_M_219 (zs_58 _) rfl ?_
    exact PW_iret zd_M_back_49 rfl h
  · have h := hF q
    refine PW_iconst zd_M_back_7 ?_
    exact PW_iret zd_M_back_8 rfl h
def w_M_writes (G : zG) (v : Int) (X : zX) (σ : zPH) : Prop :=
  (0 ≤ (σ 58 72) ∧ (σ 58 72) < 16) ∧
  ∀ σ9 : zPH, σ9 = zupd σ 92 (σ 58 72).toNat v →
  ∀ σ17 : zPH, σ17 = zupd σ9 58 72 ((σ9 58 72) + 1) →
  X none σ17
set_option maxHeartbeats 4000000 in
theorem k_M_writes {G : zG} {v : Int} {X : zX} {σ : zPH} (h : w_M_writes G v X σ) : MS G zm_M_writes 0 [zr G 58, iZ v] σ X := by
  refine ms_of zk_M_writes (Nat.le_of_ble_eq_true rfl) (ls := [some (zr G 58), some (iZ v)]) rfl ?_
  unfold w_M_writes at h
  refine PW_aload_n zd_M_writes_0 rfl ?_
  refine PW_getR zd_M_writes_1 zf_M_228 (zs_58 _) rfl ?_
  refine PW_aload_n zd_M_writes_4 rfl ?_
  refine PW_getI zd_M_writes_5 zf_M_231 (zs_58 _) rfl ?_
  refine PW_iload_n zd_M_writes_8 rfl ?_
  obtain ⟨h0, h⟩ := h
  refine PW_iastore zd_M_writes_9 (zs_92 _) h0 ?_
  have h := h _ rfl
  refine PW_aload_n zd_M_writes_10 rfl ?_
  refine PW_dup zd_M_writes_11 rfl ?_
  refine PW_getI zd_M_writes_12 zf_M_231 (zs_58 _) rfl ?_
  refine PW_iconst zd_M_writes_15 ?_
  refine PW_iadd zd_M_writes_16 ?_
  refine PW_putI zd_M_writes_17 zp_M_231 (zs_58 _) rfl ?_
  have h := h _ rfl
  exact PW_vret zd_M_writes_20 rfl h
def b_M_image_96 (G : zG) (X : zX) (K96 : Int → Int → zPH → Prop) (x1 x2 : Int) (σ : zPH) : Prop :=
  (zI x2 ∧ zI (σ 58 72)) ∧
  ((σ 58 72) ≤ x2 →
    MS G zm_M_writes 0 [zr G 58, iZ x1] σ (fun v σ127 =>
      v = none ∧
      X (some (iZ (σ127 58 72))) σ127)) ∧
  (x2 < (σ 58 72) →
    (0 ≤ x2 ∧ x2 < 16) ∧
    (0 ≤ ((3 * x1) + (σ 92 x2.toNat)) ∧ ((3 * x1) + (σ 92 x2.toNat)) < 2147483648) ∧
    ∀ x1_ : Int, x1_ = (((3 * x1) + (σ 92 x2.toNat)) % 227) →
    K96 x1_ (x2 + 1) σ)
set_option maxHeartbeats 4000000 in
theorem kb_M_image_96 {G : zG} {X : zX} {K96 : Int → Int → zPH → Prop} (hK96 : ∀ (y0 y1 : Int) (σ : zPH), K96 y0 y1 σ → PW G zm_M_image 1 X 96 [some (zr G 58), some (iZ y0), some (iZ y1)] [] σ) {x1 x2 : Int} {σ : zPH} (h : b_M_image_96 G  X K96 x1 x2 σ) : PW G zm_M_image 1 X 96 [some (zr G 58), some (iZ x1), some (iZ x2)] [] σ := by
  unfold b_M_image_96 at h
  refine PW_iload_n zd_M_image_96 rfl ?_
  refine PW_aload_n zd_M_image_97 rfl ?_
  refine PW_getI zd_M_image_98 zf_M_231 (zs_58 _) rfl ?_
  obtain ⟨h0, hT, hF⟩ := h
  refine PW_icmp_ge zd_M_image_101 h0 (fun q => ?_) (fun q => ?_)
  · have h := hT q
    refine PW_aload_n zd_M_image_125 rfl ?_
    refine PW_iload_n zd_M_image_126 rfl ?_
    refine PW_callV1v zd_M_image_127 zl_M_494 zk_M_writes zv_M_writes (fr' := 0) (by decide) (zs_58 _) rfl rfl (Nat.le_of_ble_eq_true rfl) ?_
    refine ms_mono h ?_
    rintro v σ1 ⟨rfl, h⟩
    refine ⟨rfl, ?_⟩
    refine PW_aload_n zd_M_image_130 rfl ?_
    refine PW_getI zd_M_image_131 zf_M_231 (zs_58 _) rfl ?_
    exact PW_iret zd_M_image_134 rfl h
  · have h := hF q
    refine PW_iconst zd_M_image_104 ?_
    refine PW_iload_n zd_M_image_105 rfl ?_
    refine PW_imul zd_M_image_106 ?_
    refine PW_aload_n zd_M_image_107 rfl ?_
    refine PW_getR zd_M_image_108 zf_M_228 (zs_58 _) rfl ?_
    refine PW_iload_n zd_M_image_111 rfl ?_
    obtain ⟨h0, h⟩ := h
    refine PW_iaload zd_M_image_112 (zs_92 _) h0 ?_
    refine PW_iadd zd_M_image_113 ?_
    refine PW_sipush zd_M_image_114 rfl ?_
    obtain ⟨h0, h⟩ := h
    refine PW_irem zd_M_image_117 ⟨h0, by decide⟩ ?_
    refine PW_istore_n zd_M_image_118 rfl (by decide) (ls2 := [_, _, _]) rfl ?_
    have h := h _ rfl
    refine PW_iinc zd_M_image_119 rfl rfl (by decide) (ls2 := [_, _, _]) rfl ?_
    refine PW_goto zd_M_image_122 ?_
    exact PW_sub (by exact ⟨rfl, rfl, rfl, trivial⟩) (hK96 _ _ _ h)
theorem kl_M_image_96 {G : zG} {X : zX} {x1 x2 : Int} {σ : zPH} (h : zLP2 (b_M_image_96 G  X ) x1 x2 σ) : PW G zm_M_image 1 X 96 [some (zr G 58), some (iZ x1), some (iZ x2)] [] σ := by
  obtain ⟨n, h⟩ := h
  induction n generalizing x1 x2 σ with
  | zero => exact h.elim
  | succ n ih => exact kb_M_image_96   (fun _ _ _ h => ih h) h
def b_M_image_62 (G : zG) (X : zX) (K62 : Int → zPH → Prop) (x1 : Int) (σ : zPH) : Prop :=
  (0 ≤ (σ 58 13) ∧ (σ 58 13) < 2) ∧
  (zI x1 ∧ zI (σ 66 (σ 58 13).toNat)) ∧
  ((σ 66 (σ 58 13).toNat) ≤ x1 →
    zLP2 (b_M_image_96 G  X ) 13 0 σ) ∧
  (x1 < (σ 66 (σ 58 13).toNat) →
    (0 ≤ x1 ∧ x1 < 8) ∧
    MS G zm_M_writes 0 [zr G 58, iZ (σ 83 x1.toNat)] σ (fun v σ82 =>
      v = none ∧
      K62 (x1 + 1) σ82))
set_option maxHeartbeats 4000000 in
theorem kb_M_image_62 {G : zG} {X : zX} {K62 : Int → zPH → Prop} (hK62 : ∀ (y0 : Int) (σ : zPH), K62 y0 σ → PW G zm_M_image 1 X 62 [some (zr G 58), some (iZ y0), none] [] σ) {x1 : Int} {σ : zPH} (h : b_M_image_62 G  X K62 x1 σ) : PW G zm_M_image 1 X 62 [some (zr G 58), some (iZ x1), none] [] σ := by
  unfold b_M_image_62 at h
  refine PW_iload_n zd_M_image_62 rfl ?_
  refine PW_aload_n zd_M_image_63 rfl ?_
  refine PW_getR zd_M_image_64 zf_M_72 (zs_58 _) rfl ?_
  refine PW_aload_n zd_M_image_67 rfl ?_
  refine PW_getI zd_M_image_68 zf_M_51 (zs_58 _) rfl ?_
  obtain ⟨h0, h⟩ := h
  refine PW_iaload zd_M_image_71 (zs_66 _) h0 ?_
  obtain ⟨h0, hT, hF⟩ := h
  refine PW_icmp_ge zd_M_image_72 h0 (fun q => ?_) (fun q => ?_)
  · have h := hT q
    refine PW_bipush zd_M_image_91 rfl ?_
    refine PW_istore_n zd_M_image_93 rfl (by decide) (ls2 := [_, _, _]) rfl ?_
    refine PW_iconst zd_M_image_94 ?_
    refine PW_istore_n zd_M_image_95 rfl (by decide) (ls2 := [_, _, _]) rfl ?_
    exact PW_sub (by exact ⟨rfl, rfl, rfl, trivial⟩) (kl_M_image_96   h)
  · have h := hF q
    refine PW_aload_n zd_M_image_75 rfl ?_
    refine PW_aload_n zd_M_image_76 rfl ?_
    refine PW_getR zd_M_image_77 zf_M_147 (zs_58 _) rfl ?_
    refine PW_iload_n zd_M_image_80 rfl ?_
    obtain ⟨h0, h⟩ := h
    refine PW_iaload zd_M_image_81 (zs_83 _) h0 ?_
    refine PW_callV1v zd_M_image_82 zl_M_494 zk_M_writes zv_M_writes (fr' := 0) (by decide) (zs_58 _) rfl rfl (Nat.le_of_ble_eq_true rfl) ?_
    refine ms_mono h ?_
    rintro v σ1 ⟨rfl, h⟩
    refine ⟨rfl, ?_⟩
    refine PW_iinc zd_M_image_85 rfl rfl (by decide) (ls2 := [_, _, _]) rfl ?_
    refine PW_goto zd_M_image_88 ?_
    exact PW_sub (by exact ⟨rfl, rfl, trivial⟩) (hK62 _ _ h)
theorem kl_M_image_62 {G : zG} {X : zX} {x1 : Int} {σ : zPH} (h : zLP1 (b_M_image_62 G  X ) x1 σ) : PW G zm_M_image 1 X 62 [some (zr G 58), some (iZ x1), none] [] σ := by
  obtain ⟨n, h⟩ := h
  induction n generalizing x1 σ with
  | zero => exact h.elim
  | succ n ih => exact kb_M_image_62   (fun _ _ h => ih h) h
def w_M_image (G : zG) (X : zX) (σ : zPH) : Prop :=
  ∀ σ2 : zPH, σ2 = zupd σ 58 72 0 →
  (0 ≤ (σ2 58 13) ∧ (σ2 58 13) < 2) ∧
  MS G zm_M_writes 0 [zr G 58, iZ (σ2 64 (σ2 58 13).toNat)] σ2 (fun v σ15 =>
    v = none ∧
    (0 ≤ (σ15 58 13) ∧ (σ15 58 13) < 2) ∧
    MS G zm_M_writes 0 [zr G 58, iZ (σ15 65 (σ15 58 13).toNat)] σ15 (fun v σ28 =>
      v = none ∧
      (0 ≤ (σ28 58 13) ∧ (σ28 58 13) < 2) ∧
      MS G zm_M_writes 0 [zr G 58, iZ (σ28 66 (σ28 58 13).toNat)] σ28 (fun v σ41 =>
        v = none ∧
        MS G zm_M_writes 0 [zr G 58, iZ (σ41 58 42)] σ41 (fun v σ49 =>
          v = none ∧
          MS G zm_M_writes 0 [zr G 58, iZ (σ49 58 43)] σ49 (fun v σ57 =>
            v = none ∧
            zLP1 (b_M_image_62 G  X ) 0 σ57)))))
set_option maxHeartbeats 4000000 in
theorem k_M_image {G : zG} {X : zX} {σ : zPH} (h : w_M_image G  X σ) : MS G zm_M_image 1 [zr G 58] σ X := by
  refine ms_of zk_M_image (Nat.le_of_ble_eq_true rfl) (ls := [some (zr G 58), none, none]) rfl ?_
  unfold w_M_image at h
  refine PW_aload_n zd_M_image_0 rfl ?_
  refine PW_iconst zd_M_image_1 ?_
  refine PW_putI zd_M_image_2 zp_M_231 (zs_58 _) rfl ?_
  have h := h _ rfl
  refine PW_aload_n zd_M_image_5 rfl ?_
  refine PW_aload_n zd_M_image_6 rfl ?_
  refine PW_getR zd_M_image_7 zf_M_66 (zs_58 _) rfl ?_
  refine PW_aload_n zd_M_image_10 rfl ?_
  refine PW_getI zd_M_image_11 zf_M_51 (zs_58 _) rfl ?_
  obtain ⟨h0, h⟩ := h
  refine PW_iaload zd_M_image_14 (zs_64 _) h0 ?_
  refine PW_callV1v zd_M_image_15 zl_M_494 zk_M_writes zv_M_writes (fr' := 0) (by decide) (zs_58 _) rfl rfl (Nat.le_of_ble_eq_true rfl) ?_
  refine ms_mono h ?_
  rintro v σ1 ⟨rfl, h⟩
  refine ⟨rfl, ?_⟩
  refine PW_aload_n zd_M_image_18 rfl ?_
  refine PW_aload_n zd_M_image_19 rfl ?_
  refine PW_getR zd_M_image_20 zf_M_69 (zs_58 _) rfl ?_
  refine PW_aload_n zd_M_image_23 rfl ?_
  refine PW_getI zd_M_image_24 zf_M_51 (zs_58 _) rfl ?_
  obtain ⟨h0, h⟩ := h
  refine PW_iaload zd_M_image_27 (zs_65 _) h0 ?_
  refine PW_callV1v zd_M_image_28 zl_M_494 zk_M_writes zv_M_writes (fr' := 0) (by decide) (zs_58 _) rfl rfl (Nat.le_of_ble_eq_true rfl) ?_
  refine ms_mono h ?_
  rintro v σ1 ⟨rfl, h⟩
  refine ⟨rfl, ?_⟩
  refine PW_aload_n zd_M_image_31 rfl ?_
  refine PW_aload_n zd_M_image_32 rfl ?_
  refine PW_getR zd_M_image_33 zf_M_72 (zs_58 _) rfl ?_
  refine PW_aload_n zd_M_image_36 rfl ?_
  refine PW_getI zd_M_image_37 zf_M_51 (zs_58 _) rfl ?_
  obtain ⟨h0, h⟩ := h
  refine PW_iaload zd_M_image_40 (zs_66 _) h0 ?_
  refine PW_callV1v zd_M_image_41 zl_M_494 zk_M_writes zv_M_writes (fr' := 0) (by decide) (zs_58 _) rfl rfl (Nat.le_of_ble_eq_true rfl) ?_
  refine ms_mono h ?_
  rintro v σ1 ⟨rfl, h⟩
  refine ⟨rfl, ?_⟩
  refine PW_aload_n zd_M_image_44 rfl ?_
  refine PW_aload_n zd_M_image_45 rfl ?_
  refine PW_getI zd_M_image_46 zf_M_141 (zs_58 _) rfl ?_
  refine PW_callV1v zd_M_image_49 zl_M_494 zk_M_writes zv_M_writes (fr' := 0) (by decide) (zs_58 _) rfl rfl (Nat.le_of_ble_eq_true rfl) ?_
  refine ms_mono h ?_
  rintro v σ1 ⟨rfl, h⟩
  refine ⟨rfl, ?_⟩
  refine PW_aload_n zd_M_image_52 rfl ?_
  refine PW_aload_n zd_M_image_53 rfl ?_
  refine PW_getI zd_M_image_54 zf_M_144 (zs_58 _) rfl ?_
  refine PW_callV1v zd_M_image_57 zl_M_494 zk_M_writes zv_M_writes (fr' := 0) (by decide) (zs_58 _) rfl rfl (Nat.le_of_ble_eq_true rfl) ?_
  refine ms_mono h ?_
  rintro v σ1 ⟨rfl, h⟩
  refine ⟨rfl, ?_⟩
  refine PW_iconst zd_M_image_60 ?_
  refine PW_istore_n zd_M_image_61 rfl (by decide) (ls2 := [_, _, _]) rfl ?_
  exact PW_sub (by exact ⟨rfl, rfl, trivial⟩) (kl_M_image_62   h)
def w_M_octet (G : zG) (k : Int) (X : zX) (σ : zPH) : Prop :=
  (zI k) ∧
  (k < 0 →
    X (some (iZ (-1))) σ) ∧
  (0 ≤ k →
    (zI k ∧ zI (σ 58 72)) ∧
    ((σ 58 72) ≤ k →
      X (some (iZ (-1))) σ) ∧
    (k < (σ 58 72) →
      (0 ≤ k ∧ k < 16) ∧
      X (some (iZ (σ 92 k.toNat))) σ))
set_option maxHeartbeats 4000000 in
theorem k_M_octet {G : zG} {k : Int} {X : zX} {σ : zPH} (h : w_M_octet G k X σ) : MS G zm_M_octet 0 [zr G 58, iZ k] σ X := by
  refine ms_of zk_M_octet (Nat.le_of_ble_eq_true rfl) (ls := [some (zr G 58), some (iZ k)]) rfl ?_
  unfold w_M_octet at h
  refine PW_iload_n zd_M_octet_0 rfl ?_
  obtain ⟨h0, hT, hF⟩ := h
  refine PW_if_lt zd_M_octet_1 h0 (fun q => ?_) (fun q => ?_)
  · have h := hT q
    refine PW_iconst zd_M_octet_21 ?_
    exact PW_iret zd_M_octet_22 rfl h
  · have h := hF q
    refine PW_iload_n zd_M_octet_4 rfl ?_
    refine PW_aload_n zd_M_octet_5 rfl ?_
    refine PW_getI zd_M_octet_6 zf_M_231 (zs_58 _) rfl ?_
    obtain ⟨h0, hT, hF⟩ := h
    refine PW_icmp_ge zd_M_octet_9 h0 (fun q => ?_) (fun q => ?_)
    · have h := hT q
      refine PW_iconst zd_M_octet_21 ?_
      exact PW_iret zd_M_octet_22 rfl h
    · have h := hF q
      refine PW_aload_n zd_M_octet_12 rfl ?_
      refine PW_getR zd_M_octet_13 zf_M_228 (zs_58 _) rfl ?_
      refine PW_iload_n zd_M_octet_16 rfl ?_
      obtain ⟨h0, h⟩ := h
      refine PW_iaload zd_M_octet_17 (zs_92 _) h0 ?_
      refine PW_goto zd_M_octet_18 ?_
      exact PW_iret zd_M_octet_22 rfl h
def b_M_isImage_147 (G : zG) (n : Int) (X : zX) (K147 : Int → Int → zPH → Prop) (x2 x3 : Int) (σ : zPH) : Prop :=
  (zI x3 ∧ zI (n - 1)) ∧
  ((n - 1) ≤ x3 →
    (0 ≤ (n - 1) ∧ (n - 1) < 1600) ∧
    (zI (σ 59 (n - 1).toNat) ∧ zI x2) ∧
    ((σ 59 (n - 1).toNat) ≠ x2 →
      X (some (iZ 0)) σ) ∧
    ((σ 59 (n - 1).toNat) = x2 →
      X (some (iZ 1)) σ)) ∧
  (x3 < (n - 1) →
    (0 ≤ x3 ∧ x3 < 1600) ∧
    (0 ≤ ((3 * x2) + (σ 59 x3.toNat)) ∧ ((3 * x2) + (σ 59 x3.toNat)) < 2147483648) ∧
    ∀ x2_ : Int, x2_ = (((3 * x2) + (σ 59 x3.toNat)) % 227) →
    K147 x2_ (x3 + 1) σ)
set_option maxHeartbeats 4000000 in
theorem kb_M_isImage_147 {G : zG} {n : Int} {X : zX} {K147 : Int → Int → zPH → Prop} (hK147 : ∀ (y0 y1 : Int) (σ : zPH), K147 y0 y1 σ → PW G zm_M_isImage 1 X 147 [some (zr G 58), some (iZ n), some (iZ y0), some (iZ y1)] [] σ) {x2 x3 : Int} {σ : zPH} (h : b_M_isImage_147 G n X K147 x2 x3 σ) : PW G zm_M_isImage 1 X 147 [some (zr G 58), some (iZ n), some (iZ x2), some (iZ x3)] [] σ := by
  unfold b_M_isImage_147 at h
  refine PW_iload_n zd_M_isImage_147 rfl ?_
  refine PW_iload_n zd_M_isImage_148 rfl ?_
  refine PW_iconst zd_M_isImage_149 ?_
  refine PW_isub zd_M_isImage_150 ?_
  obtain ⟨h0, hT, hF⟩ := h
  refine PW_icmp_ge zd_M_isImage_151 h0 (fun q => ?_) (fun q => ?_)
  · have h := hT q
    refine PW_aload_n zd_M_isImage_175 rfl ?_
    refine PW_getR zd_M_isImage_176 zf_M_7 (zs_58 _) rfl ?_
    refine PW_iload_n zd_M_isImage_179 rfl ?_
    refine PW_iconst zd_M_isImage_180 ?_
    refine PW_isub zd_M_isImage_181 ?_
    obtain ⟨h0, h⟩ := h
    refine PW_iaload zd_M_isImage_182 (zs_59 _) h0 ?_
    refine PW_iload_n zd_M_isImage_183 rfl ?_
    obtain ⟨h0, hT, hF⟩ := h
    refine PW_icmp_ne zd_M_isImage_184 h0 (fun q => ?_) (fun q => ?_)
    · have h := hT q
      refine PW_iconst zd_M_isImage_191 ?_
      exact PW_zret zd_M_isImage_192 rfl (by decide) h
    · have h := hF q
      refine PW_iconst zd_M_isImage_187 ?_
      refine PW_goto zd_M_isImage_188 ?_
      exact PW_zret zd_M_isImage_192 rfl (by decide) h
  · have h := hF q
    refine PW_iconst zd_M_isImage_154 ?_
    refine PW_iload_n zd_M_isImage_155 rfl ?_
    refine PW_imul zd_M_isImage_156 ?_
    refine PW_aload_n zd_M_isImage_157 rfl ?_
    refine PW_getR zd_M_isImage_158 zf_M_7 (zs_58 _) rfl ?_
    refine PW_iload_n zd_M_isImage_161 rfl ?_
    obtain ⟨h0, h⟩ := h
    refine PW_iaload zd_M_isImage_162 (zs_59 _) h0 ?_
    refine PW_iadd zd_M_isImage_163 ?_
    refine PW_sipush zd_M_isImage_164 rfl ?_
    obtain ⟨h0, h⟩ := h
    refine PW_irem zd_M_isImage_167 ⟨h0, by decide⟩ ?_
    refine PW_istore_n zd_M_isImage_168 rfl (by decide) (ls2 := [_, _, _, _]) rfl ?_
    have h := h _ rfl
    refine PW_iinc zd_M_isImage_169 rfl rfl (by decide) (ls2 := [_, _, _, _]) rfl ?_
    refine PW_goto zd_M_isImage_172 ?_
    exact PW_sub (by exact ⟨rfl, rfl, rfl, rfl, trivial⟩) (hK147 _ _ _ h)
theorem kl_M_isImage_147 {G : zG} {n : Int} {X : zX} {x2 x3 : Int} {σ : zPH} (h : zLP2 (b_M_isImage_147 G n X ) x2 x3 σ) : PW G zm_M_isImage 1 X 147 [some (zr G 58), some (iZ n), some (iZ x2), some (iZ x3)] [] σ := by
  obtain ⟨n, h⟩ := h
  induction n generalizing x2 x3 σ with
  | zero => exact h.elim
  | succ n ih => exact kb_M_isImage_147   (fun _ _ _ h => ih h) h
def b_M_isImage_109 (G : zG) (n : Int) (X : zX) (K109 : Int → zPH → Prop) (x2 : Int) (σ : zPH) : Prop :=
  (0 ≤ (σ 58 13) ∧ (σ 58 13) < 2) ∧
  (zI x2 ∧ zI (σ 66 (σ 58 13).toNat)) ∧
  ((σ 66 (σ 58 13).toNat) ≤ x2 →
    zLP2 (b_M_isImage_147 G n X ) 13 0 σ) ∧
  (x2 < (σ 66 (σ 58 13).toNat) →
    (0 ≤ (5 + x2) ∧ (5 + x2) < 1600) ∧
    (zI (σ 59 (5 + x2).toNat)) ∧
    ((σ 59 (5 + x2).toNat) ≤ 2 →
      K109 (x2 + 1) σ) ∧
    (2 < (σ 59 (5 + x2).toNat) →
      X (some (iZ 0)) σ))
set_option maxHeartbeats 4000000 in
theorem kb_M_isImage_109 {G : zG} {n : Int} {X : zX} {K109 : Int → zPH → Prop} (hK109 : ∀ (y0 : Int) (σ : zPH), K109 y0 σ → PW G zm_M_isImage 1 X 109 [some (zr G 58), some (iZ n), some (iZ y0), none] [] σ) {x2 : Int} {σ : zPH} (h : b_M_isImage_109 G n X K109 x2 σ) : PW G zm_M_isImage 1 X 109 [some (zr G 58), some (iZ n), some (iZ x2), none] [] σ := by
  unfold b_M_isImage_109 at h
  refine PW_iload_n zd_M_isImage_109 rfl ?_
  refine PW_aload_n zd_M_isImage_110 rfl ?_
  refine PW_getR zd_M_isImage_111 zf_M_72 (zs_58 _) rfl ?_
  refine PW_aload_n zd_M_isImage_114 rfl ?_
  refine PW_getI zd_M_isImage_115 zf_M_51 (zs_58 _) rfl ?_
  obtain ⟨h0, h⟩ := h
  refine PW_iaload zd_M_isImage_118 (zs_66 _) h0 ?_
  obtain ⟨h0, hT, hF⟩ := h
  refine PW_icmp_ge zd_M_isImage_119 h0 (fun q => ?_) (fun q => ?_)
  · have h := hT q
    refine PW_bipush zd_M_isImage_142 rfl ?_
    refine PW_istore_n zd_M_isImage_144 rfl (by decide) (ls2 := [_, _, _, _]) rfl ?_
    refine PW_iconst zd_M_isImage_145 ?_
    refine PW_istore_n zd_M_isImage_146 rfl (by decide) (ls2 := [_, _, _, _]) rfl ?_
    exact PW_sub (by exact ⟨rfl, rfl, rfl, rfl, trivial⟩) (kl_M_isImage_147   h)
  · have h := hF q
    refine PW_aload_n zd_M_isImage_122 rfl ?_
    refine PW_getR zd_M_isImage_123 zf_M_7 (zs_58 _) rfl ?_
    refine PW_iconst zd_M_isImage_126 ?_
    refine PW_iload_n zd_M_isImage_127 rfl ?_
    refine PW_iadd zd_M_isImage_128 ?_
    obtain ⟨h0, h⟩ := h
    refine PW_iaload zd_M_isImage_129 (zs_59 _) h0 ?_
    refine PW_iconst zd_M_isImage_130 ?_
    obtain ⟨h0, hT, hF⟩ := h
    refine PW_icmp_le zd_M_isImage_131 ⟨h0, by decide⟩ (fun q => ?_) (fun q => ?_)
    · have h := hT q
      refine PW_iinc zd_M_isImage_136 rfl rfl (by decide) (ls2 := [_, _, _, _]) rfl ?_
      refine PW_goto zd_M_isImage_139 ?_
      exact PW_sub (by exact ⟨rfl, rfl, rfl, trivial⟩) (hK109 _ _ h)
    · have h := hF q
      refine PW_iconst zd_M_isImage_134 ?_
      exact PW_zret zd_M_isImage_135 rfl (by decide) h
theorem kl_M_isImage_109 {G : zG} {n : Int} {X : zX} {x2 : Int} {σ : zPH} (h : zLP1 (b_M_isImage_109 G n X ) x2 σ) : PW G zm_M_isImage 1 X 109 [some (zr G 58), some (iZ n), some (iZ x2), none] [] σ := by
  obtain ⟨n, h⟩ := h
  induction n generalizing x2 σ with
  | zero => exact h.elim
  | succ n ih => exact kb_M_isImage_109   (fun _ _ h => ih h) h
def w_M_isImage (G : zG) (n : Int) (X : zX) (σ : zPH) : Prop :=
  (0 ≤ (σ 58 13) ∧ (σ 58 13) < 2) ∧
  (zI n ∧ zI (6 + (σ 66 (σ 58 13).toNat))) ∧
  (n ≠ (6 + (σ 66 (σ 58 13).toNat)) →
    X (some (iZ 0)) σ) ∧
  (n = (6 + (σ 66 (σ 58 13).toNat)) →
    (0 ≤ (σ 58 13) ∧ (σ 58 13) < 2) ∧
    (zI (σ 59 0) ∧ zI (σ 64 (σ 58 13).toNat)) ∧
    ((σ 59 0) ≠ (σ 64 (σ 58 13).toNat) →
      X (some (iZ 0)) σ) ∧
    ((σ 59 0) = (σ 64 (σ 58 13).toNat) →
      (0 ≤ (σ 58 13) ∧ (σ 58 13) < 2) ∧
      (zI (σ 59 1) ∧ zI (σ 65 (σ 58 13).toNat)) ∧
      ((σ 59 1) ≠ (σ 65 (σ 58 13).toNat) →
        X (some (iZ 0)) σ) ∧
      ((σ 59 1) = (σ 65 (σ 58 13).toNat) →
        (0 ≤ (σ 58 13) ∧ (σ 58 13) < 2) ∧
        (zI (σ 59 2) ∧ zI (σ 66 (σ 58 13).toNat)) ∧
        ((σ 59 2) = (σ 66 (σ 58 13).toNat) →
          (0 ≤ (σ 58 13) ∧ (σ 58 13) < 2) ∧
          (0 ≤ (σ 64 (σ 58 13).toNat) ∧ (σ 64 (σ 58 13).toNat) < 32) ∧
          (zI (σ 59 3) ∧ zI ((1 : Int) * 2 ^ (σ 64 (σ 58 13).toNat).toNat)) ∧
          (((1 : Int) * 2 ^ (σ 64 (σ 58 13).toNat).toNat) ≤ (σ 59 3) →
            X (some (iZ 0)) σ) ∧
          ((σ 59 3) < ((1 : Int) * 2 ^ (σ 64 (σ 58 13).toNat).toNat) →
            MS G zm_M_states 0 [zr G 58] σ (fun v σ99 =>
              ∃ z99 : Int, v = some (iZ z99) ∧
              (zI (σ 59 4) ∧ zI z99) ∧
              ((σ 59 4) < z99 →
                zLP1 (b_M_isImage_109 G n X ) 0 σ99) ∧
              (z99 ≤ (σ 59 4) →
                X (some (iZ 0)) σ99)))) ∧
        ((σ 59 2) ≠ (σ 66 (σ 58 13).toNat) →
          X (some (iZ 0)) σ))))
set_option maxHeartbeats 4000000 in
theorem k_M_isImage {G : zG} {n : Int} {X : zX} {σ : zPH} (h : w_M_isImage G n X σ) : MS G zm_M_isImage 1 [zr G 58, iZ n] σ X := by
  refine ms_of zk_M_isImage (Nat.le_of_ble_eq_true rfl) (ls := [some (zr G 58), some (iZ n), none, none]) rfl ?_
  unfold w_M_isImage at h
  refine PW_iload_n zd_M_isImage_0 rfl ?_
  refine PW_bipush zd_M_isImage_1 rfl ?_
  refine PW_aload_n zd_M_isImage_3 rfl ?_
  refine PW_getR zd_M_isImage_4 zf_M_72 (zs_58 _) rfl ?_
  refine PW_aload_n zd_M_isImage_7 rfl ?_
  refine PW_getI zd_M_isImage_8 zf_M_51 (zs_58 _) rfl ?_
  obtain ⟨h0, h⟩ := h
  refine PW_iaload zd_M_isImage_11 (zs_66 _) h0 ?_
  refine PW_iadd zd_M_isImage_12 ?_
  obtain ⟨h0, hT, hF⟩ := h
  refine PW_icmp_ne zd_M_isImage_13 h0 (fun q => ?_) (fun q => ?_)
  · have h := hT q
    refine PW_iconst zd_M_isImage_70 ?_
    exact PW_zret zd_M_isImage_71 rfl (by decide) h
  · have h := hF q
    refine PW_aload_n zd_M_isImage_16 rfl ?_
    refine PW_getR zd_M_isImage_17 zf_M_7 (zs_58 _) rfl ?_
    refine PW_iconst zd_M_isImage_20 ?_
    refine PW_iaload zd_M_isImage_21 (zs_59 _) (by decide) ?_
    refine PW_aload_n zd_M_isImage_22 rfl ?_
    refine PW_getR zd_M_isImage_23 zf_M_66 (zs_58 _) rfl ?_
    refine PW_aload_n zd_M_isImage_26 rfl ?_
    refine PW_getI zd_M_isImage_27 zf_M_51 (zs_58 _) rfl ?_
    obtain ⟨h0, h⟩ := h
    refine PW_iaload zd_M_isImage_30 (zs_64 _) h0 ?_
    obtain ⟨h0, hT, hF⟩ := h
    refine PW_icmp_ne zd_M_isImage_31 h0 (fun q => ?_) (fun q => ?_)
    · have h := hT q
      refine PW_iconst zd_M_isImage_70 ?_
      exact PW_zret zd_M_isImage_71 rfl (by decide) h
    · have h := hF q
      refine PW_aload_n zd_M_isImage_34 rfl ?_
      refine PW_getR zd_M_isImage_35 zf_M_7 (zs_58 _) rfl ?_
      refine PW_iconst zd_M_isImage_38 ?_
      refine PW_iaload zd_M_isImage_39 (zs_59 _) (by decide) ?_
      refine PW_aload_n zd_M_isImage_40 rfl ?_
      refine PW_getR zd_M_isImage_41 zf_M_69 (zs_58 _) rfl ?_
      refine PW_aload_n zd_M_isImage_44 rfl ?_
      refine PW_getI zd_M_isImage_45 zf_M_51 (zs_58 _) rfl ?_
      obtain ⟨h0, h⟩ := h
      refine PW_iaload zd_M_isImage_48 (zs_65 _) h0 ?_
      obtain ⟨h0, hT, hF⟩ := h
      refine PW_icmp_ne zd_M_isImage_49 h0 (fun q => ?_) (fun q => ?_)
      · have h := hT q
        refine PW_iconst zd_M_isImage_70 ?_
        exact PW_zret zd_M_isImage_71 rfl (by decide) h
      · have h := hF q
        refine PW_aload_n zd_M_isImage_52 rfl ?_
        refine PW_getR zd_M_isImage_53 zf_M_7 (zs_58 _) rfl ?_
        refine PW_iconst zd_M_isImage_56 ?_
        refine PW_iaload zd_M_isImage_57 (zs_59 _) (by decide) ?_
        refine PW_aload_n zd_M_isImage_58 rfl ?_
        refine PW_getR zd_M_isImage_59 zf_M_72 (zs_58 _) rfl ?_
        refine PW_aload_n zd_M_isImage_62 rfl ?_
        refine PW_getI zd_M_isImage_63 zf_M_51 (zs_58 _) rfl ?_
        obtain ⟨h0, h⟩ := h
        refine PW_iaload zd_M_isImage_66 (zs_66 _) h0 ?_
        obtain ⟨h0, hT, hF⟩ := h
        refine PW_icmp_eq zd_M_isImage_67 h0 (fun q => ?_) (fun q => ?_)
        · have h := hT q
          refine PW_aload_n zd_M_isImage_72 rfl ?_
          refine PW_getR zd_M_isImage_73 zf_M_7 (zs_58 _) rfl ?_
          refine PW_iconst zd_M_isImage_76 ?_
          refine PW_iaload zd_M_isImage_77 (zs_59 _) (by decide) ?_
          refine PW_iconst zd_M_isImage_78 ?_
          refine PW_aload_n zd_M_isImage_79 rfl ?_
          refine PW_getR zd_M_isImage_80 zf_M_66 (zs_58 _) rfl ?_
          refine PW_aload_n zd_M_isImage_83 rfl ?_
          refine PW_getI zd_M_isImage_84 zf_M_51 (zs_58 _) rfl ?_
          obtain ⟨h0, h⟩ := h
          refine PW_iaload zd_M_isImage_87 (zs_64 _) h0 ?_
          obtain ⟨h0, h⟩ := h
          refine PW_ishl zd_M_isImage_88 h0 ?_
          obtain ⟨h0, hT, hF⟩ := h
          refine PW_icmp_ge zd_M_isImage_89 h0 (fun q => ?_) (fun q => ?_)
          · have h := hT q
            refine PW_iconst zd_M_isImage_105 ?_
            exact PW_zret zd_M_isImage_106 rfl (by decide) h
          · have h := hF q
            refine PW_aload_n zd_M_isImage_92 rfl ?_
            refine PW_getR zd_M_isImage_93 zf_M_7 (zs_58 _) rfl ?_
            refine PW_iconst zd_M_isImage_96 ?_
            refine PW_iaload zd_M_isImage_97 (zs_59 _) (by decide) ?_
            refine PW_aload_n zd_M_isImage_98 rfl ?_
            refine PW_callV0i zd_M_isImage_99 zl_M_455 zk_M_states zv_M_states (fr' := 0) (by decide) (zs_58 _) rfl rfl (Nat.le_of_ble_eq_true rfl) ?_
            refine ms_mono h ?_
            rintro v σ1 ⟨z, rfl, h⟩
            refine ⟨z, rfl, ?_⟩
            obtain ⟨h0, hT, hF⟩ := h
            refine PW_icmp_lt zd_M_isImage_102 h0 (fun q => ?_) (fun q => ?_)
            · have h := hT q
              refine PW_iconst zd_M_isImage_107 ?_
              refine PW_istore_n zd_M_isImage_108 rfl (by decide) (ls2 := [_, _, _, _]) rfl ?_
              exact PW_sub (by exact ⟨rfl, rfl, rfl, trivial⟩) (kl_M_isImage_109   h)
            · have h := hF q
              refine PW_iconst zd_M_isImage_105 ?_
              exact PW_zret zd_M_isImage_106 rfl (by decide) h
        · have h := hF q
          refine PW_iconst zd_M_isImage_70 ?_
          exact PW_zret zd_M_isImage_71 rfl (by decide) h
def b_M_on_42 (G : zG) (X : zX) (K42 : Int → zPH → Prop) (x2 : Int) (σ : zPH) : Prop :=
  (0 ≤ (σ 58 13) ∧ (σ 58 13) < 2) ∧
  (zI x2 ∧ zI (σ 66 (σ 58 13).toNat)) ∧
  ((σ 66 (σ 58 13).toNat) ≤ x2 →
    ∀ σ77 : zPH, σ77 = zupd σ 58 68 0 →
    X (some (iZ 1)) σ77) ∧
  (x2 < (σ 66 (σ 58 13).toNat) →
    (0 ≤ (5 + x2) ∧ (5 + x2) < 1600) ∧
    (0 ≤ x2 ∧ x2 < 8) ∧
    ∀ σ68 : zPH, σ68 = zupd σ 83 x2.toNat (σ 59 (5 + x2).toNat) →
    K42 (x2 + 1) σ68)
set_option maxHeartbeats 4000000 in
theorem kb_M_on_42 {G : zG} {X : zX} {K42 : Int → zPH → Prop} (hK42 : ∀ (y0 : Int) (σ : zPH), K42 y0 σ → PW G zm_M_on 2 X 42 [some (zr G 58), none, some (iZ y0)] [] σ) {x2 : Int} {σ : zPH} (h : b_M_on_42 G  X K42 x2 σ) : PW G zm_M_on 2 X 42 [some (zr G 58), none, some (iZ x2)] [] σ := by
  unfold b_M_on_42 at h
  refine PW_iload_n zd_M_on_42 rfl ?_
  refine PW_aload_n zd_M_on_43 rfl ?_
  refine PW_getR zd_M_on_44 zf_M_72 (zs_58 _) rfl ?_
  refine PW_aload_n zd_M_on_47 rfl ?_
  refine PW_getI zd_M_on_48 zf_M_51 (zs_58 _) rfl ?_
  obtain ⟨h0, h⟩ := h
  refine PW_iaload zd_M_on_51 (zs_66 _) h0 ?_
  obtain ⟨h0, hT, hF⟩ := h
  refine PW_icmp_ge zd_M_on_52 h0 (fun q => ?_) (fun q => ?_)
  · have h := hT q
    refine PW_aload_n zd_M_on_75 rfl ?_
    refine PW_iconst zd_M_on_76 ?_
    refine PW_putI zd_M_on_77 zp_M_219 (zs_58 _) rfl ?_
    have h := h _ rfl
    refine PW_iconst zd_M_on_80 ?_
    exact PW_zret zd_M_on_81 rfl (by decide) h
  · have h := hF q
    refine PW_aload_n zd_M_on_55 rfl ?_
    refine PW_getR zd_M_on_56 zf_M_147 (zs_58 _) rfl ?_
    refine PW_iload_n zd_M_on_59 rfl ?_
    refine PW_aload_n zd_M_on_60 rfl ?_
    refine PW_getR zd_M_on_61 zf_M_7 (zs_58 _) rfl ?_
    refine PW_iconst zd_M_on_64 ?_
    refine PW_iload_n zd_M_on_65 rfl ?_
    refine PW_iadd zd_M_on_66 ?_
    obtain ⟨h0, h⟩ := h
    refine PW_iaload zd_M_on_67 (zs_59 _) h0 ?_
    obtain ⟨h0, h⟩ := h
    refine PW_iastore zd_M_on_68 (zs_83 _) h0 ?_
    have h := h _ rfl
    refine PW_iinc zd_M_on_69 rfl rfl (by decide) (ls2 := [_, _, _]) rfl ?_
    refine PW_goto zd_M_on_72 ?_
    exact PW_sub (by exact ⟨rfl, rfl, trivial⟩) (hK42 _ _ h)
theorem kl_M_on_42 {G : zG} {X : zX} {x2 : Int} {σ : zPH} (h : zLP1 (b_M_on_42 G  X ) x2 σ) : PW G zm_M_on 2 X 42 [some (zr G 58), none, some (iZ x2)] [] σ := by
  obtain ⟨n, h⟩ := h
  induction n generalizing x2 σ with
  | zero => exact h.elim
  | succ n ih => exact kb_M_on_42   (fun _ _ h => ih h) h
def w_M_on (G : zG) (X : zX) (σ : zPH) : Prop :=
  ∀ x1 : Int, x1 = (σ 58 1) →
  ∀ σ7 : zPH, σ7 = zupd σ 58 1 0 →
  MS G zm_M_isImage 1 [zr G 58, iZ x1] σ7 (fun v σ12 =>
    (v = some (iZ 0) ∧
      X (some (iZ 0)) σ12) ∨
    (v = some (iZ 1) ∧
      ∀ σ27 : zPH, σ27 = zupd σ12 58 42 (σ12 59 3) →
      ∀ σ37 : zPH, σ37 = zupd σ27 58 43 (σ27 59 4) →
      zLP1 (b_M_on_42 G  X ) 0 σ37))
set_option maxHeartbeats 4000000 in
theorem k_M_on {G : zG} {X : zX} {σ : zPH} (h : w_M_on G  X σ) : MS G zm_M_on 2 [zr G 58] σ X := by
  refine ms_of zk_M_on (Nat.le_of_ble_eq_true rfl) (ls := [some (zr G 58), none, none]) rfl ?_
  unfold w_M_on at h
  refine PW_aload_n zd_M_on_0 rfl ?_
  refine PW_getI zd_M_on_1 zf_M_13 (zs_58 _) rfl ?_
  refine PW_istore_n zd_M_on_4 rfl (by decide) (ls2 := [_, _, _]) rfl ?_
  have h := h _ rfl
  refine PW_aload_n zd_M_on_5 rfl ?_
  refine PW_iconst zd_M_on_6 ?_
  refine PW_putI zd_M_on_7 zp_M_13 (zs_58 _) rfl ?_
  have h := h _ rfl
  refine PW_aload_n zd_M_on_10 rfl ?_
  refine PW_iload_n zd_M_on_11 rfl ?_
  refine PW_callV1i zd_M_on_12 zl_M_497 zk_M_isImage zv_M_isImage (fr' := 1) (by decide) (zs_58 _) rfl rfl (Nat.le_of_ble_eq_true rfl) ?_
  refine ms_mono h ?_
  rintro v σ1 (⟨rfl, h⟩ | ⟨rfl, h⟩)
  · refine ⟨0, rfl, ?_⟩
    refine PW_if_ne zd_M_on_15 (by decide) (fun q => absurd rfl q) (fun _ => ?_)
    refine PW_iconst zd_M_on_18 ?_
    exact PW_zret zd_M_on_19 rfl (by decide) h
  · refine ⟨1, rfl, ?_⟩
    refine PW_if_ne zd_M_on_15 (by decide) (fun _ => ?_) (fun q => absurd q (by decide))
    refine PW_aload_n zd_M_on_20 rfl ?_
    refine PW_aload_n zd_M_on_21 rfl ?_
    refine PW_getR zd_M_on_22 zf_M_7 (zs_58 _) rfl ?_
    refine PW_iconst zd_M_on_25 ?_
    refine PW_iaload zd_M_on_26 (zs_59 _) (by decide) ?_
    refine PW_putI zd_M_on_27 zp_M_141 (zs_58 _) rfl ?_
    have h := h _ rfl
    refine PW_aload_n zd_M_on_30 rfl ?_
    refine PW_aload_n zd_M_on_31 rfl ?_
    refine PW_getR zd_M_on_32 zf_M_7 (zs_58 _) rfl ?_
    refine PW_iconst zd_M_on_35 ?_
    refine PW_iaload zd_M_on_36 (zs_59 _) (by decide) ?_
    refine PW_putI zd_M_on_37 zp_M_144 (zs_58 _) rfl ?_
    have h := h _ rfl
    refine PW_iconst zd_M_on_40 ?_
    refine PW_istore_n zd_M_on_41 rfl (by decide) (ls2 := [_, _, _]) rfl ?_
    exact PW_sub (by exact ⟨rfl, rfl, trivial⟩) (kl_M_on_42   h)
