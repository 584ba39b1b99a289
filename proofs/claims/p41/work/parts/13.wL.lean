def b_L_shine_166 (G : zG) (rL : Nat) (rT : Nat) (mirrorsTurned moversOpen lamps colours : Int) (X : zX) (K114 : Int → zPH → Prop) (x6 : Int) (σ : zPH) : Prop :=
  K114 (x6 + 1) σ
set_option maxHeartbeats 4000000 in
theorem kb_L_shine_166 {G : zG} {rL : Nat} {rT : Nat} {mirrorsTurned moversOpen lamps colours : Int} {X : zX} {K114 : Int → zPH → Prop} (hrL : zisL rL) (hrT : zisT rT) (hK114 : ∀ (y0 : Int) (σ : zPH), K114 y0 σ → PW G zm_L_shine 3 X 114 [some (zr G rL), some (zr G rT), none, none, none, none, some (iZ y0), none, none] [] σ) {x6 : Int} {σ : zPH} (h : b_L_shine_166 G rL rT mirrorsTurned moversOpen lamps colours X K114 x6 σ) : PW G zm_L_shine 3 X 166 [some (zr G rL), some (zr G rT), none, none, none, none, some (iZ x6), none, none] [] σ := by
  unfold b_L_shine_166 at h
  refine PW_iinc zd_L_shine_166 rfl rfl (by decide) (ls2 := [_, _, _, _, _, _, _, _, _]) rfl ?_
  refine PW_goto zd_L_shine_169 ?_
  exact PW_sub (by exact ⟨rfl, rfl, rfl, trivial⟩) (hK114 _ _ h)
def b_L_shine_114 (G : zG) (rL : Nat) (rT : Nat) (mirrorsTurned moversOpen lamps colours : Int) (X : zX) (K114 : Int → zPH → Prop) (x6 : Int) (σ : zPH) : Prop :=
  (zI x6 ∧ zI (σ (rT + 8) 3)) ∧
  ((σ (rT + 8) 3) ≤ x6 →
    X none σ) ∧
  (x6 < (σ (rT + 8) 3) →
    MS G zm_T_squareOf 1 [zr G rT, iZ 3, iZ x6] σ (fun v σ136 =>
      ∃ z136 : Int, v = some (iZ z136) ∧
      MS G zm_L_comesInto 0 [zr G rL, iZ z136] σ136 (fun v σ139 =>
        ∃ z139 : Int, v = some (iZ z139) ∧
        (0 ≤ x6 ∧ x6 < 8) ∧
        ∀ σ142 : zPH, σ142 = zupd σ139 (rL + 2) x6.toNat z139 →
        (0 ≤ x6 ∧ x6 < 8) ∧
        (zI (σ142 (rL + 2) x6.toNat)) ∧
        ((σ142 (rL + 2) x6.toNat) = 0 →
          b_L_shine_166 G rL rT mirrorsTurned moversOpen lamps colours X K114 x6 σ142) ∧
        ((σ142 (rL + 2) x6.toNat) ≠ 0 →
          (0 ≤ x6 ∧ x6 < 32) ∧
          (0 ≤ (σ142 rL 2) ∧ 0 ≤ ((1 : Int) * 2 ^ x6.toNat)) ∧
          ∀ σ163 : zPH, σ163 = zupd σ142 rL 2 (zor (σ142 rL 2) ((1 : Int) * 2 ^ x6.toNat)) →
          b_L_shine_166 G rL rT mirrorsTurned moversOpen lamps colours X K114 x6 σ163))))
set_option maxHeartbeats 4000000 in
theorem kb_L_shine_114 {G : zG} {rL : Nat} {rT : Nat} {mirrorsTurned moversOpen lamps colours : Int} {X : zX} {K114 : Int → zPH → Prop} (hrL : zisL rL) (hrT : zisT rT) (hK114 : ∀ (y0 : Int) (σ : zPH), K114 y0 σ → PW G zm_L_shine 3 X 114 [some (zr G rL), some (zr G rT), none, none, none, none, some (iZ y0), none, none] [] σ) {x6 : Int} {σ : zPH} (h : b_L_shine_114 G rL rT mirrorsTurned moversOpen lamps colours X K114 x6 σ) : PW G zm_L_shine 3 X 114 [some (zr G rL), some (zr G rT), none, none, none, none, some (iZ x6), none, none] [] σ := by
  unfold b_L_shine_114 at h
  refine PW_iload zd_L_shine_114 rfl ?_
  refine PW_aload_n zd_L_shine_116 rfl ?_
  refine PW_getR zd_L_shine_117 zf_L_34 (zsT_0 hrT) rfl ?_
  refine PW_iconst zd_L_shine_120 ?_
  refine PW_iaload zd_L_shine_121 (zsT_8 hrT) (by decide) ?_
  obtain ⟨h0, hT, hF⟩ := h
  refine PW_icmp_ge zd_L_shine_122 h0 (fun q => ?_) (fun q => ?_)
  · have h := hT q
    exact PW_vret zd_L_shine_172 rfl h
  · have h := hF q
    refine PW_aload_n zd_L_shine_125 rfl ?_
    refine PW_getR zd_L_shine_126 zf_L_15 (zsL_0 hrL) rfl ?_
    refine PW_iload zd_L_shine_129 rfl ?_
    refine PW_aload_n zd_L_shine_131 rfl ?_
    refine PW_aload_n zd_L_shine_132 rfl ?_
    refine PW_iconst zd_L_shine_133 ?_
    refine PW_iload zd_L_shine_134 rfl ?_
    refine PW_callV2i zd_L_shine_136 zl_L_66 zk_T_squareOf zv_T_squareOf (fr' := 1) (by decide) (zsT_0 hrT) rfl rfl (Nat.le_of_ble_eq_true rfl) ?_
    refine ms_mono h ?_
    rintro v σ1 ⟨z, rfl, h⟩
    refine ⟨z, rfl, ?_⟩
    refine PW_callV1i zd_L_shine_139 zl_L_68 zk_L_comesInto zv_L_comesInto (fr' := 0) (by decide) (zsL_0 hrL) rfl rfl (Nat.le_of_ble_eq_true rfl) ?_
    refine ms_mono h ?_
    rintro v σ1 ⟨z, rfl, h⟩
    refine ⟨z, rfl, ?_⟩
    obtain ⟨h0, h⟩ := h
    refine PW_iastore zd_L_shine_142 (zsL_2 hrL) h0 ?_
    have h := h _ rfl
    refine PW_aload_n zd_L_shine_143 rfl ?_
    refine PW_getR zd_L_shine_144 zf_L_15 (zsL_0 hrL) rfl ?_
    refine PW_iload zd_L_shine_147 rfl ?_
    obtain ⟨h0, h⟩ := h
    refine PW_iaload zd_L_shine_149 (zsL_2 hrL) h0 ?_
    obtain ⟨h0, hT, hF⟩ := h
    refine PW_if_eq zd_L_shine_150 h0 (fun q => ?_) (fun q => ?_)
    · have h := hT q
      exact PW_sub (by exact ⟨rfl, rfl, rfl, trivial⟩) (kb_L_shine_166 hrL hrT hK114 h)
    · have h := hF q
      refine PW_aload_n zd_L_shine_153 rfl ?_
      refine PW_dup zd_L_shine_154 rfl ?_
      refine PW_getI zd_L_shine_155 zf_L_63 (zsL_0 hrL) rfl ?_
      refine PW_iconst zd_L_shine_158 ?_
      refine PW_iload zd_L_shine_159 rfl ?_
      obtain ⟨h0, h⟩ := h
      refine PW_ishl zd_L_shine_161 h0 ?_
      obtain ⟨h0, h⟩ := h
      refine PW_ior zd_L_shine_162 h0 ?_
      refine PW_putI zd_L_shine_163 zp_L_63 (zsL_0 hrL) rfl ?_
      have h := h _ rfl
      exact PW_sub (by exact ⟨rfl, rfl, rfl, trivial⟩) (kb_L_shine_166 hrL hrT hK114 h)
theorem kl_L_shine_114 {G : zG} {rL : Nat} {rT : Nat} {mirrorsTurned moversOpen lamps colours : Int} {X : zX} (hrL : zisL rL) (hrT : zisT rT) {x6 : Int} {σ : zPH} (h : zLP1 (b_L_shine_114 G rL rT mirrorsTurned moversOpen lamps colours X ) x6 σ) : PW G zm_L_shine 3 X 114 [some (zr G rL), some (zr G rT), none, none, none, none, some (iZ x6), none, none] [] σ := by
  obtain ⟨n, h⟩ := h
  induction n generalizing x6 σ with
  | zero => exact h.elim
  | succ n ih => exact kb_L_shine_114 hrL hrT  (fun _ _ h => ih h) h
def b_L_shine_95 (G : zG) (rL : Nat) (rT : Nat) (mirrorsTurned moversOpen lamps colours : Int) (X : zX) (K17 : Int → zPH → Prop) (x6 : Int) (σ : zPH) : Prop :=
  K17 (x6 + 1) σ
set_option maxHeartbeats 4000000 in
theorem kb_L_shine_95 {G : zG} {rL : Nat} {rT : Nat} {mirrorsTurned moversOpen lamps colours : Int} {X : zX} {K17 : Int → zPH → Prop} (hrL : zisL rL) (hrT : zisT rT) (hK17 : ∀ (y0 : Int) (σ : zPH), K17 y0 σ → PW G zm_L_shine 3 X 17 [some (zr G rL), some (zr G rT), none, none, some (iZ lamps), some (iZ colours), some (iZ y0), none, none] [] σ) {x6 : Int} {σ : zPH} (h : b_L_shine_95 G rL rT mirrorsTurned moversOpen lamps colours X K17 x6 σ) : PW G zm_L_shine 3 X 95 [some (zr G rL), some (zr G rT), none, none, some (iZ lamps), some (iZ colours), some (iZ x6), none, none] [] σ := by
  unfold b_L_shine_95 at h
  refine PW_iinc zd_L_shine_95 rfl rfl (by decide) (ls2 := [_, _, _, _, _, _, _, _, _]) rfl ?_
  refine PW_goto zd_L_shine_98 ?_
  exact PW_sub (by exact ⟨rfl, rfl, rfl, rfl, rfl, trivial⟩) (hK17 _ _ h)
def b_L_shine_17 (G : zG) (rL : Nat) (rT : Nat) (mirrorsTurned moversOpen lamps colours : Int) (X : zX) (K17 : Int → zPH → Prop) (x6 : Int) (σ : zPH) : Prop :=
  (zI x6 ∧ zI (σ (rT + 8) 0)) ∧
  ((σ (rT + 8) 0) ≤ x6 →
    MS G zm_L_spread 2 [zr G rL, zr G rT] σ (fun v σ103 =>
      v = none ∧
      ∀ σ108 : zPH, σ108 = zupd σ103 rL 2 0 →
      zLP1 (b_L_shine_114 G rL rT mirrorsTurned moversOpen lamps colours X ) 0 σ108)) ∧
  (x6 < (σ (rT + 8) 0) →
    MS G zm_T_pieceOf 0 [zr G rT, iZ 0, iZ x6] σ (fun v σ32 =>
      ∃ z32 : Int, v = some (iZ z32) ∧
      (0 ≤ z32 ∧ z32 < 60) ∧
      ∀ x8 : Int, x8 = (σ32 (rT + 3) z32.toNat) →
      (zI lamps ∧ 0 ≤ x6 ∧ x6 < 32) ∧
      (zI ((lamps / 2 ^ x6.toNat) % 2)) ∧
      (((lamps / 2 ^ x6.toNat) % 2) ≠ 1 →
        b_L_shine_95 G rL rT mirrorsTurned moversOpen lamps colours X K17 x6 σ32) ∧
      (((lamps / 2 ^ x6.toNat) % 2) = 1 →
        (zI x8) ∧
        (x8 = (-1) →
          b_L_shine_95 G rL rT mirrorsTurned moversOpen lamps colours X K17 x6 σ32) ∧
        (x8 ≠ (-1) →
          (0 ≤ z32 ∧ z32 < 60) ∧
          (0 ≤ ((x8 * 4) + (σ32 (rT + 7) z32.toNat)) ∧ ((x8 * 4) + (σ32 (rT + 7) z32.toNat)) < 576) ∧
          (0 ≤ z32 ∧ z32 < 60) ∧
          (0 ≤ (σ32 (rT + 6) z32.toNat) ∧ 0 ≤ colours) ∧
          MS G zm_L_send 0 [zr G rL, iZ (σ32 (rT + 1) ((x8 * 4) + (σ32 (rT + 7) z32.toNat)).toNat), iZ (zand (σ32 (rT + 6) z32.toNat) colours), iZ 1] σ32 (fun v σ92 =>
            v = none ∧
            b_L_shine_95 G rL rT mirrorsTurned moversOpen lamps colours X K17 x6 σ92)))))
set_option maxHeartbeats 4000000 in
theorem kb_L_shine_17 {G : zG} {rL : Nat} {rT : Nat} {mirrorsTurned moversOpen lamps colours : Int} {X : zX} {K17 : Int → zPH → Prop} (hrL : zisL rL) (hrT : zisT rT) (hK17 : ∀ (y0 : Int) (σ : zPH), K17 y0 σ → PW G zm_L_shine 3 X 17 [some (zr G rL), some (zr G rT), none, none, some (iZ lamps), some (iZ colours), some (iZ y0), none, none] [] σ) {x6 : Int} {σ : zPH} (h : b_L_shine_17 G rL rT mirrorsTurned moversOpen lamps colours X K17 x6 σ) : PW G zm_L_shine 3 X 17 [some (zr G rL), some (zr G rT), none, none, some (iZ lamps), some (iZ colours), some (iZ x6), none, none] [] σ := by
  unfold b_L_shine_17 at h
  refine PW_iload zd_L_shine_17 rfl ?_
  refine PW_aload_n zd_L_shine_19 rfl ?_
  refine PW_getR zd_L_shine_20 zf_L_34 (zsT_0 hrT) rfl ?_
  refine PW_iconst zd_L_shine_23 ?_
  refine PW_iaload zd_L_shine_24 (zsT_8 hrT) (by decide) ?_
  obtain ⟨h0, hT, hF⟩ := h
  refine PW_icmp_ge zd_L_shine_25 h0 (fun q => ?_) (fun q => ?_)
  · have h := hT q
    refine PW_aload_n zd_L_shine_101 rfl ?_
    refine PW_aload_n zd_L_shine_102 rfl ?_
    refine PW_callV1v zd_L_shine_103 zl_L_59 zk_L_spread zv_L_spread (fr' := 2) (by decide) (zsL_0 hrL) rfl rfl (Nat.le_of_ble_eq_true rfl) ?_
    refine ms_mono h ?_
    rintro v σ1 ⟨rfl, h⟩
    refine ⟨rfl, ?_⟩
    refine PW_aload_n zd_L_shine_106 rfl ?_
    refine PW_iconst zd_L_shine_107 ?_
    refine PW_putI zd_L_shine_108 zp_L_63 (zsL_0 hrL) rfl ?_
    have h := h _ rfl
    refine PW_iconst zd_L_shine_111 ?_
    refine PW_istore zd_L_shine_112 rfl (by decide) (ls2 := [_, _, _, _, _, _, _, _, _]) rfl ?_
    exact PW_sub (by exact ⟨rfl, rfl, rfl, trivial⟩) (kl_L_shine_114 hrL hrT  h)
  · have h := hF q
    refine PW_aload_n zd_L_shine_28 rfl ?_
    refine PW_iconst zd_L_shine_29 ?_
    refine PW_iload zd_L_shine_30 rfl ?_
    refine PW_callV2i zd_L_shine_32 zl_L_39 zk_T_pieceOf zv_T_pieceOf (fr' := 0) (by decide) (zsT_0 hrT) rfl rfl (Nat.le_of_ble_eq_true rfl) ?_
    refine ms_mono h ?_
    rintro v σ1 ⟨z, rfl, h⟩
    refine ⟨z, rfl, ?_⟩
    refine PW_istore zd_L_shine_35 rfl (by decide) (ls2 := [_, _, _, _, _, _, _, _, _]) rfl ?_
    refine PW_aload_n zd_L_shine_37 rfl ?_
    refine PW_getR zd_L_shine_38 zf_L_43 (zsT_0 hrT) rfl ?_
    refine PW_iload zd_L_shine_41 rfl ?_
    obtain ⟨h0, h⟩ := h
    refine PW_iaload zd_L_shine_43 (zsT_3 hrT) h0 ?_
    refine PW_istore zd_L_shine_44 rfl (by decide) (ls2 := [_, _, _, _, _, _, _, _, _]) rfl ?_
    have h := h _ rfl
    refine PW_iload zd_L_shine_46 rfl ?_
    refine PW_iload zd_L_shine_48 rfl ?_
    obtain ⟨h0, h⟩ := h
    refine PW_ishr zd_L_shine_50 h0 ?_
    refine PW_iconst zd_L_shine_51 ?_
    refine PW_iandm1 zd_L_shine_52 ?_
    refine PW_iconst zd_L_shine_53 ?_
    obtain ⟨h0, hT, hF⟩ := h
    refine PW_icmp_ne zd_L_shine_54 ⟨h0, by decide⟩ (fun q => ?_) (fun q => ?_)
    · have h := hT q
      exact PW_sub (by exact ⟨rfl, rfl, rfl, rfl, rfl, trivial⟩) (kb_L_shine_95 hrL hrT hK17 h)
    · have h := hF q
      refine PW_iload zd_L_shine_57 rfl ?_
      refine PW_iconst zd_L_shine_59 ?_
      obtain ⟨h0, hT, hF⟩ := h
      refine PW_icmp_eq zd_L_shine_60 ⟨h0, by decide⟩ (fun q => ?_) (fun q => ?_)
      · have h := hT q
        exact PW_sub (by exact ⟨rfl, rfl, rfl, rfl, rfl, trivial⟩) (kb_L_shine_95 hrL hrT hK17 h)
      · have h := hF q
        refine PW_aload_n zd_L_shine_63 rfl ?_
        refine PW_aload_n zd_L_shine_64 rfl ?_
        refine PW_getR zd_L_shine_65 zf_L_46 (zsT_0 hrT) rfl ?_
        refine PW_iload zd_L_shine_68 rfl ?_
        refine PW_iconst zd_L_shine_70 ?_
        refine PW_imul zd_L_shine_71 ?_
        refine PW_aload_n zd_L_shine_72 rfl ?_
        refine PW_getR zd_L_shine_73 zf_L_49 (zsT_0 hrT) rfl ?_
        refine PW_iload zd_L_shine_76 rfl ?_
        obtain ⟨h0, h⟩ := h
        refine PW_iaload zd_L_shine_78 (zsT_7 hrT) h0 ?_
        refine PW_iadd zd_L_shine_79 ?_
        obtain ⟨h0, h⟩ := h
        refine PW_iaload zd_L_shine_80 (zsT_1 hrT) h0 ?_
        refine PW_aload_n zd_L_shine_81 rfl ?_
        refine PW_getR zd_L_shine_82 zf_L_52 (zsT_0 hrT) rfl ?_
        refine PW_iload zd_L_shine_85 rfl ?_
        obtain ⟨h0, h⟩ := h
        refine PW_iaload zd_L_shine_87 (zsT_6 hrT) h0 ?_
        refine PW_iload zd_L_shine_88 rfl ?_
        obtain ⟨h0, h⟩ := h
        refine PW_iand zd_L_shine_90 h0 ?_
        refine PW_iconst zd_L_shine_91 ?_
        refine PW_callV3v zd_L_shine_92 zl_L_55 zk_L_send zv_L_send (fr' := 0) (by decide) (zsL_0 hrL) rfl rfl (Nat.le_of_ble_eq_true rfl) ?_
        refine ms_mono h ?_
        rintro v σ1 ⟨rfl, h⟩
        refine ⟨rfl, ?_⟩
        exact PW_sub (by exact ⟨rfl, rfl, rfl, rfl, rfl, trivial⟩) (kb_L_shine_95 hrL hrT hK17 h)
theorem kl_L_shine_17 {G : zG} {rL : Nat} {rT : Nat} {mirrorsTurned moversOpen lamps colours : Int} {X : zX} (hrL : zisL rL) (hrT : zisT rT) {x6 : Int} {σ : zPH} (h : zLP1 (b_L_shine_17 G rL rT mirrorsTurned moversOpen lamps colours X ) x6 σ) : PW G zm_L_shine 3 X 17 [some (zr G rL), some (zr G rT), none, none, some (iZ lamps), some (iZ colours), some (iZ x6), none, none] [] σ := by
  obtain ⟨n, h⟩ := h
  induction n generalizing x6 σ with
  | zero => exact h.elim
  | succ n ih => exact kb_L_shine_17 hrL hrT  (fun _ _ h => ih h) h
def w_L_shine (G : zG) (rL : Nat) (rT : Nat) (mirrorsTurned moversOpen lamps colours : Int) (X : zX) (σ : zPH) : Prop :=
  MS G zm_L_darken 1 [zr G rL] σ (fun v σ1 =>
    v = none ∧
    ∀ σ6 : zPH, σ6 = zupd σ1 rL 6 mirrorsTurned →
    ∀ σ11 : zPH, σ11 = zupd σ6 rL 7 moversOpen →
    zLP1 (b_L_shine_17 G rL rT mirrorsTurned moversOpen lamps colours X ) 0 σ11)
set_option maxHeartbeats 4000000 in
theorem k_L_shine {G : zG} {rL : Nat} {rT : Nat} {mirrorsTurned moversOpen lamps colours : Int} {X : zX} (hrL : zisL rL) (hrT : zisT rT) {σ : zPH} (h : w_L_shine G rL rT mirrorsTurned moversOpen lamps colours X σ) : MS G zm_L_shine 3 [zr G rL, zr G rT, iZ mirrorsTurned, iZ moversOpen, iZ lamps, iZ colours] σ X := by
  refine ms_of zk_L_shine (Nat.le_of_ble_eq_true rfl) (ls := [some (zr G rL), some (zr G rT), some (iZ mirrorsTurned), some (iZ moversOpen), some (iZ lamps), some (iZ colours), none, none, none]) rfl ?_
  unfold w_L_shine at h
  refine PW_aload_n zd_L_shine_0 rfl ?_
  refine PW_callV0v zd_L_shine_1 zl_L_24 zk_L_darken zv_L_darken (fr' := 1) (by decide) (zsL_0 hrL) rfl rfl (Nat.le_of_ble_eq_true rfl) ?_
  refine ms_mono h ?_
  rintro v σ1 ⟨rfl, h⟩
  refine ⟨rfl, ?_⟩
  refine PW_aload_n zd_L_shine_4 rfl ?_
  refine PW_iload_n zd_L_shine_5 rfl ?_
  refine PW_putI zd_L_shine_6 zp_L_27 (zsL_0 hrL) rfl ?_
  have h := h _ rfl
  refine PW_aload_n zd_L_shine_9 rfl ?_
  refine PW_iload_n zd_L_shine_10 rfl ?_
  refine PW_putI zd_L_shine_11 zp_L_31 (zsL_0 hrL) rfl ?_
  have h := h _ rfl
  refine PW_iconst zd_L_shine_14 ?_
  refine PW_istore zd_L_shine_15 rfl (by decide) (ls2 := [_, _, _, _, _, _, _, _, _]) rfl ?_
  exact PW_sub (by exact ⟨rfl, rfl, rfl, rfl, rfl, trivial⟩) (kl_L_shine_17 hrL hrT  h)
def b_L_darken_2 (G : zG) (rL : Nat) (X : zX) (K2 : Int → zPH → Prop) (x1 : Int) (σ : zPH) : Prop :=
  (zI x1 ∧ zI (σ rL 3)) ∧
  ((σ rL 3) ≤ x1 →
    ∀ σ29 : zPH, σ29 = zupd σ rL 3 0 →
    X none σ29) ∧
  (x1 < (σ rL 3) →
    MS G zm_L_arrivedNode 0 [zr G rL, iZ x1] σ (fun v σ16 =>
      ∃ z16 : Int, v = some (iZ z16) ∧
      (0 ≤ z16 ∧ z16 < 576) ∧
      ∀ σ20 : zPH, σ20 = zupd σ16 (rL + 1) z16.toNat 0 →
      K2 (x1 + 1) σ20))
set_option maxHeartbeats 4000000 in
theorem kb_L_darken_2 {G : zG} {rL : Nat} {X : zX} {K2 : Int → zPH → Prop} (hrL : zisL rL) (hK2 : ∀ (y0 : Int) (σ : zPH), K2 y0 σ → PW G zm_L_darken 1 X 2 [some (zr G rL), some (iZ y0)] [] σ) {x1 : Int} {σ : zPH} (h : b_L_darken_2 G rL X K2 x1 σ) : PW G zm_L_darken 1 X 2 [some (zr G rL), some (iZ x1)] [] σ := by
  unfold b_L_darken_2 at h
  refine PW_iload_n zd_L_darken_2 rfl ?_
  refine PW_aload_n zd_L_darken_3 rfl ?_
  refine PW_getI zd_L_darken_4 zf_L_76 (zsL_0 hrL) rfl ?_
  obtain ⟨h0, hT, hF⟩ := h
  refine PW_icmp_ge zd_L_darken_7 h0 (fun q => ?_) (fun q => ?_)
  · have h := hT q
    refine PW_aload_n zd_L_darken_27 rfl ?_
    refine PW_iconst zd_L_darken_28 ?_
    refine PW_putI zd_L_darken_29 zp_L_76 (zsL_0 hrL) rfl ?_
    have h := h _ rfl
    exact PW_vret zd_L_darken_32 rfl h
  · have h := hF q
    refine PW_aload_n zd_L_darken_10 rfl ?_
    refine PW_getR zd_L_darken_11 zf_L_9 (zsL_0 hrL) rfl ?_
    refine PW_aload_n zd_L_darken_14 rfl ?_
    refine PW_iload_n zd_L_darken_15 rfl ?_
    refine PW_callV1i zd_L_darken_16 zl_L_79 zk_L_arrivedNode zv_L_arrivedNode (fr' := 0) (by decide) (zsL_0 hrL) rfl rfl (Nat.le_of_ble_eq_true rfl) ?_
    refine ms_mono h ?_
    rintro v σ1 ⟨z, rfl, h⟩
    refine ⟨z, rfl, ?_⟩
    refine PW_iconst zd_L_darken_19 ?_
    obtain ⟨h0, h⟩ := h
    refine PW_iastore zd_L_darken_20 (zsL_1 hrL) h0 ?_
    have h := h _ rfl
    refine PW_iinc zd_L_darken_21 rfl rfl (by decide) (ls2 := [_, _]) rfl ?_
    refine PW_goto zd_L_darken_24 ?_
    exact PW_sub (by exact ⟨rfl, rfl, trivial⟩) (hK2 _ _ h)
theorem kl_L_darken_2 {G : zG} {rL : Nat} {X : zX} (hrL : zisL rL) {x1 : Int} {σ : zPH} (h : zLP1 (b_L_darken_2 G rL X ) x1 σ) : PW G zm_L_darken 1 X 2 [some (zr G rL), some (iZ x1)] [] σ := by
  obtain ⟨n, h⟩ := h
  induction n generalizing x1 σ with
  | zero => exact h.elim
  | succ n ih => exact kb_L_darken_2 hrL  (fun _ _ h => ih h) h
def w_L_darken (G : zG) (rL : Nat) (X : zX) (σ : zPH) : Prop :=
  zLP1 (b_L_darken_2 G rL X ) 0 σ
set_option maxHeartbeats 4000000 in
theorem k_L_darken {G : zG} {rL : Nat} {X : zX} (hrL : zisL rL) {σ : zPH} (h : w_L_darken G rL X σ) : MS G zm_L_darken 1 [zr G rL] σ X := by
  refine ms_of zk_L_darken (Nat.le_of_ble_eq_true rfl) (ls := [some (zr G rL), none]) rfl ?_
  unfold w_L_darken at h
  refine PW_iconst zd_L_darken_0 ?_
  refine PW_istore_n zd_L_darken_1 rfl (by decide) (ls2 := [_, _]) rfl ?_
  exact PW_sub (by exact ⟨rfl, rfl, trivial⟩) (kl_L_darken_2 hrL  h)
def b_L_spread_2 (G : zG) (rL : Nat) (rT : Nat) (X : zX) (K2 : Int → zPH → Prop) (x2 : Int) (σ : zPH) : Prop :=
  (zI x2 ∧ zI (σ rL 3)) ∧
  ((σ rL 3) ≤ x2 →
    X none σ) ∧
  (x2 < (σ rL 3) →
    (zI x2) ∧
    (1728 ≤ x2 →
      X none σ) ∧
    (x2 < 1728 →
      MS G zm_L_arrivedNode 0 [zr G rL, iZ x2] σ (fun v σ23 =>
        ∃ z23 : Int, v = some (iZ z23) ∧
        (0 ≤ x2 ∧ x2 < 1728) ∧
        MS G zm_L_pass 1 [zr G rL, zr G rT, iZ z23, iZ ((σ23 (rL + 3) x2.toNat) % 8)] σ23 (fun v σ35 =>
          v = none ∧
          K2 (x2 + 1) σ35))))
set_option maxHeartbeats 4000000 in
theorem kb_L_spread_2 {G : zG} {rL : Nat} {rT : Nat} {X : zX} {K2 : Int → zPH → Prop} (hrL : zisL rL) (hrT : zisT rT) (hK2 : ∀ (y0 : Int) (σ : zPH), K2 y0 σ → PW G zm_L_spread 2 X 2 [some (zr G rL), some (zr G rT), some (iZ y0)] [] σ) {x2 : Int} {σ : zPH} (h : b_L_spread_2 G rL rT X K2 x2 σ) : PW G zm_L_spread 2 X 2 [some (zr G rL), some (zr G rT), some (iZ x2)] [] σ := by
  unfold b_L_spread_2 at h
  refine PW_iload_n zd_L_spread_2 rfl ?_
  refine PW_aload_n zd_L_spread_3 rfl ?_
  refine PW_getI zd_L_spread_4 zf_L_76 (zsL_0 hrL) rfl ?_
  obtain ⟨h0, hT, hF⟩ := h
  refine PW_icmp_ge zd_L_spread_7 h0 (fun q => ?_) (fun q => ?_)
  · have h := hT q
    exact PW_vret zd_L_spread_44 rfl h
  · have h := hF q
    refine PW_iload_n zd_L_spread_10 rfl ?_
    refine PW_aload_n zd_L_spread_11 rfl ?_
    refine PW_getR zd_L_spread_12 zf_L_18 (zsL_0 hrL) rfl ?_
    refine PW_alen zd_L_spread_15 (zsL_3 hrL) (by decide) (by rcases hrL with rfl | rfl <;> decide) ?_
    obtain ⟨h0, hT, hF⟩ := h
    refine PW_icmp_ge zd_L_spread_16 ⟨h0, by decide⟩ (fun q => ?_) (fun q => ?_)
    · have h := hT q
      exact PW_vret zd_L_spread_44 rfl h
    · have h := hF q
      refine PW_aload_n zd_L_spread_19 rfl ?_
      refine PW_aload_n zd_L_spread_20 rfl ?_
      refine PW_aload_n zd_L_spread_21 rfl ?_
      refine PW_iload_n zd_L_spread_22 rfl ?_
      refine PW_callV1i zd_L_spread_23 zl_L_79 zk_L_arrivedNode zv_L_arrivedNode (fr' := 0) (by decide) (zsL_0 hrL) rfl rfl (Nat.le_of_ble_eq_true rfl) ?_
      refine ms_mono h ?_
      rintro v σ1 ⟨z, rfl, h⟩
      refine ⟨z, rfl, ?_⟩
      refine PW_aload_n zd_L_spread_26 rfl ?_
      refine PW_getR zd_L_spread_27 zf_L_18 (zsL_0 hrL) rfl ?_
      refine PW_iload_n zd_L_spread_30 rfl ?_
      obtain ⟨h0, h⟩ := h
      refine PW_iaload zd_L_spread_31 (zsL_3 hrL) h0 ?_
      refine PW_bipush zd_L_spread_32 rfl ?_
      refine PW_iandm7 zd_L_spread_34 ?_
      refine PW_callV3v zd_L_spread_35 zl_L_72 zk_L_pass zv_L_pass (fr' := 1) (by decide) (zsL_0 hrL) rfl rfl (Nat.le_of_ble_eq_true rfl) ?_
      refine ms_mono h ?_
      rintro v σ1 ⟨rfl, h⟩
      refine ⟨rfl, ?_⟩
      refine PW_iinc zd_L_spread_38 rfl rfl (by decide) (ls2 := [_, _, _]) rfl ?_
      refine PW_goto zd_L_spread_41 ?_
      exact PW_sub (by exact ⟨rfl, rfl, rfl, trivial⟩) (hK2 _ _ h)
theorem kl_L_spread_2 {G : zG} {rL : Nat} {rT : Nat} {X : zX} (hrL : zisL rL) (hrT : zisT rT) {x2 : Int} {σ : zPH} (h : zLP1 (b_L_spread_2 G rL rT X ) x2 σ) : PW G zm_L_spread 2 X 2 [some (zr G rL), some (zr G rT), some (iZ x2)] [] σ := by
  obtain ⟨n, h⟩ := h
  induction n generalizing x2 σ with
  | zero => exact h.elim
  | succ n ih => exact kb_L_spread_2 hrL hrT  (fun _ _ h => ih h) h
def w_L_spread (G : zG) (rL : Nat) (rT : Nat) (X : zX) (σ : zPH) : Prop :=
  zLP1 (b_L_spread_2 G rL rT X ) 0 σ
set_option maxHeartbeats 4000000 in
theorem k_L_spread {G : zG} {rL : Nat} {rT : Nat} {X : zX} (hrL : zisL rL) (hrT : zisT rT) {σ : zPH} (h : w_L_spread G rL rT X σ) : MS G zm_L_spread 2 [zr G rL, zr G rT] σ X := by
  refine ms_of zk_L_spread (Nat.le_of_ble_eq_true rfl) (ls := [some (zr G rL), some (zr G rT), none]) rfl ?_
  unfold w_L_spread at h
  refine PW_iconst zd_L_spread_0 ?_
  refine PW_istore_n zd_L_spread_1 rfl (by decide) (ls2 := [_, _, _]) rfl ?_
  exact PW_sub (by exact ⟨rfl, rfl, rfl, trivial⟩) (kl_L_spread_2 hrL hrT  h)
def b_L_pass_284 (G : zG) (rL : Nat) (rT : Nat) (node colours : Int) (X : zX) (x6 s0 s1 : Int) (σ : zPH) : Prop :=
  MS G zm_L_send 0 [zr G rL, iZ s1, iZ s0, iZ x6] σ (fun v σ286 =>
    v = none ∧
    X none σ286)
set_option maxHeartbeats 4000000 in
theorem kb_L_pass_284 {G : zG} {rL : Nat} {rT : Nat} {node colours : Int} {X : zX} (hrL : zisL rL) (hrT : zisT rT) {x6 s0 s1 : Int} {σ : zPH} (h : b_L_pass_284 G rL rT node colours X  x6 s0 s1 σ) : PW G zm_L_pass 1 X 284 [none, none, none, none, none, none, some (iZ x6), none, none] [iZ s0, iZ s1, zr G rL] σ := by
  unfold b_L_pass_284 at h
  refine PW_iload zd_L_pass_284 rfl ?_
  refine PW_callV3v zd_L_pass_286 zl_L_55 zk_L_send zv_L_send (fr' := 0) (by decide) (zsL_0 hrL) rfl rfl (Nat.le_of_ble_eq_true rfl) ?_
  refine ms_mono h ?_
  rintro v σ1 ⟨rfl, h⟩
  refine ⟨rfl, ?_⟩
  refine PW_goto zd_L_pass_289 ?_
  exact PW_vret zd_L_pass_292 rfl h
def w_L_pass (G : zG) (rL : Nat) (rT : Nat) (node colours : Int) (X : zX) (σ : zPH) : Prop :=
  (0 ≤ node ∧ node < 2147483648) ∧
  ∀ x4 : Int, x4 = (node % 4) →
  ∀ x5 : Int, x5 = (node - x4) →
  (0 ≤ node ∧ node < 576) ∧
  ∀ x6 : Int, x6 = ((σ (rL + 4) node.toNat) + 1) →
  (0 ≤ node ∧ node < 2147483648) ∧
  (0 ≤ (node / 4) ∧ (node / 4) < 144) ∧
  ∀ x7 : Int, x7 = (σ (rT + 2) (node / 4).toNat) →
  (zI x7) ∧
  (x7 ≠ (-1) →
    MS G zm_T_lookNow 0 [zr G rT, iZ x7, iZ (σ rL 6), iZ (σ rL 7)] σ (fun v σ62 =>
      ∃ z62 : Int, v = some (iZ z62) ∧
      (0 ≤ x7 ∧ x7 < 60) ∧
      zI (σ62 (rT + 4) x7.toNat) ∧
      ((σ62 (rT + 4) x7.toNat) = 2 ∨ (σ62 (rT + 4) x7.toNat) = 9 →
        MS G zm_L_turnedWay 0 [iZ x4, iZ z62] σ62 (fun v σ131 =>
          ∃ z131 : Int, v = some (iZ z131) ∧
          (0 ≤ (x5 + z131) ∧ (x5 + z131) < 576) ∧
          MS G zm_L_send 0 [zr G rL, iZ (σ131 (rT + 1) (x5 + z131).toNat), iZ colours, iZ x6] σ131 (fun v σ139 =>
            v = none ∧
            X none σ139))) ∧
      ((σ62 (rT + 4) x7.toNat) = 3 →
        MS G zm_L_turnedWay 0 [iZ x4, iZ z62] σ62 (fun v σ156 =>
          ∃ z156 : Int, v = some (iZ z156) ∧
          (0 ≤ (x5 + z156) ∧ (x5 + z156) < 576) ∧
          MS G zm_L_send 0 [zr G rL, iZ (σ156 (rT + 1) (x5 + z156).toNat), iZ colours, iZ x6] σ156 (fun v σ164 =>
            v = none ∧
            (0 ≤ node ∧ node < 576) ∧
            MS G zm_L_send 0 [zr G rL, iZ (σ164 (rT + 1) node.toNat), iZ colours, iZ x6] σ164 (fun v σ177 =>
              v = none ∧
              X none σ177)))) ∧
      ((σ62 (rT + 4) x7.toNat) = 4 →
        (0 ≤ node ∧ node < 576) ∧
        (0 ≤ colours ∧ 0 ≤ z62) ∧
        MS G zm_L_send 0 [zr G rL, iZ (σ62 (rT + 1) node.toNat), iZ (zand colours z62), iZ x6] σ62 (fun v σ196 =>
          v = none ∧
          X none σ196)) ∧
      ((σ62 (rT + 4) x7.toNat) = 5 →
        (0 ≤ node ∧ node < 576) ∧
        MS G zm_L_send 0 [zr G rL, iZ (σ62 (rT + 1) node.toNat), iZ (colours % 2), iZ x6] σ62 (fun v σ214 =>
          v = none ∧
          (0 ≤ (x4 + 1) ∧ (x4 + 1) < 2147483648) ∧
          (0 ≤ (x5 + ((x4 + 1) % 4)) ∧ (x5 + ((x4 + 1) % 4)) < 576) ∧
          (0 ≤ colours) ∧
          MS G zm_L_send 0 [zr G rL, iZ (σ214 (rT + 1) (x5 + ((x4 + 1) % 4)).toNat), iZ (zand colours 2), iZ x6] σ214 (fun v σ237 =>
            v = none ∧
            (0 ≤ (x4 + 3) ∧ (x4 + 3) < 2147483648) ∧
            (0 ≤ (x5 + ((x4 + 3) % 4)) ∧ (x5 + ((x4 + 3) % 4)) < 576) ∧
            (0 ≤ colours) ∧
            MS G zm_L_send 0 [zr G rL, iZ (σ237 (rT + 1) (x5 + ((x4 + 3) % 4)).toNat), iZ (zand colours 4), iZ x6] σ237 (fun v σ260 =>
              v = none ∧
              X none σ260)))) ∧
      ((σ62 (rT + 4) x7.toNat) = 8 →
        (0 ≤ node ∧ node < 576) ∧
        (zI z62) ∧
        (z62 ≠ 1 →
          b_L_pass_284 G rL rT node colours X  x6 0 (σ62 (rT + 1) node.toNat) σ62) ∧
        (z62 = 1 →
          b_L_pass_284 G rL rT node colours X  x6 colours (σ62 (rT + 1) node.toNat) σ62)) ∧
      (((σ62 (rT + 4) x7.toNat) < 2 ∨ 9 < (σ62 (rT + 4) x7.toNat) ∨ (σ62 (rT + 4) x7.toNat) = 6 ∨ (σ62 (rT + 4) x7.toNat) = 7) →
        X none σ62))) ∧
  (x7 = (-1) →
    (0 ≤ node ∧ node < 576) ∧
    MS G zm_L_send 0 [zr G rL, iZ (σ (rT + 1) node.toNat), iZ colours, iZ x6] σ (fun v σ47 =>
      v = none ∧
      X none σ47))
set_option maxHeartbeats 4000000 in
theorem k_L_pass {G : zG} {rL : Nat} {rT : Nat} {node colours : Int} {X : zX} (hrL : zisL rL) (hrT : zisT rT) {σ : zPH} (h : w_L_pass G rL rT node colours X σ) : MS G zm_L_pass 1 [zr G rL, zr G rT, iZ node, iZ colours] σ X := by
  refine ms_of zk_L_pass (Nat.le_of_ble_eq_true rfl) (ls := [some (zr G rL), some (zr G rT), some (iZ node), some (iZ colours), none, none, none, none, none]) rfl ?_
  unfold w_L_pass at h
  refine PW_iload_n zd_L_pass_0 rfl ?_
  refine PW_iconst zd_L_pass_1 ?_
  obtain ⟨h0, h⟩ := h
  refine PW_irem zd_L_pass_2 ⟨h0, by decide⟩ ?_
  refine PW_istore zd_L_pass_3 rfl (by decide) (ls2 := [_, _, _, _, _, _, _, _, _]) rfl ?_
  have h := h _ rfl
  refine PW_iload_n zd_L_pass_5 rfl ?_
  refine PW_iload zd_L_pass_6 rfl ?_
  refine PW_isub zd_L_pass_8 ?_
  refine PW_istore zd_L_pass_9 rfl (by decide) (ls2 := [_, _, _, _, _, _, _, _, _]) rfl ?_
  have h := h _ rfl
  refine PW_aload_n zd_L_pass_11 rfl ?_
  refine PW_getR zd_L_pass_12 zf_L_21 (zsL_0 hrL) rfl ?_
  refine PW_iload_n zd_L_pass_15 rfl ?_
  obtain ⟨h0, h⟩ := h
  refine PW_iaload zd_L_pass_16 (zsL_4 hrL) h0 ?_
  refine PW_iconst zd_L_pass_17 ?_
  refine PW_iadd zd_L_pass_18 ?_
  refine PW_istore zd_L_pass_19 rfl (by decide) (ls2 := [_, _, _, _, _, _, _, _, _]) rfl ?_
  have h := h _ rfl
  refine PW_aload_n zd_L_pass_21 rfl ?_
  refine PW_getR zd_L_pass_22 zf_L_82 (zsT_0 hrT) rfl ?_
  refine PW_iload_n zd_L_pass_25 rfl ?_
  refine PW_iconst zd_L_pass_26 ?_
  obtain ⟨h0, h⟩ := h
  refine PW_idiv zd_L_pass_27 ⟨h0, by decide⟩ ?_
  obtain ⟨h0, h⟩ := h
  refine PW_iaload zd_L_pass_28 (zsT_2 hrT) h0 ?_
  refine PW_istore zd_L_pass_29 rfl (by decide) (ls2 := [_, _, _, _, _, _, _, _, _]) rfl ?_
  have h := h _ rfl
  refine PW_iload zd_L_pass_31 rfl ?_
  refine PW_iconst zd_L_pass_33 ?_
  obtain ⟨h0, hT, hF⟩ := h
  refine PW_icmp_ne zd_L_pass_34 ⟨h0, by decide⟩ (fun q => ?_) (fun q => ?_)
  · have h := hT q
    refine PW_aload_n zd_L_pass_51 rfl ?_
    refine PW_iload zd_L_pass_52 rfl ?_
    refine PW_aload_n zd_L_pass_54 rfl ?_
    refine PW_getI zd_L_pass_55 zf_L_27 (zsL_0 hrL) rfl ?_
    refine PW_aload_n zd_L_pass_58 rfl ?_
    refine PW_getI zd_L_pass_59 zf_L_31 (zsL_0 hrL) rfl ?_
    refine PW_callV3i zd_L_pass_62 zl_L_85 zk_T_lookNow zv_T_lookNow (fr' := 0) (by decide) (zsT_0 hrT) rfl rfl (Nat.le_of_ble_eq_true rfl) ?_
    refine ms_mono h ?_
    rintro v σ1 ⟨z, rfl, h⟩
    refine ⟨z, rfl, ?_⟩
    refine PW_istore zd_L_pass_65 rfl (by decide) (ls2 := [_, _, _, _, _, _, _, _, _]) rfl ?_
    refine PW_aload_n zd_L_pass_67 rfl ?_
    refine PW_getR zd_L_pass_68 zf_L_89 (zsT_0 hrT) rfl ?_
    refine PW_iload zd_L_pass_71 rfl ?_
    obtain ⟨h0, h⟩ := h
    refine PW_iaload zd_L_pass_73 (zsT_4 hrT) h0 ?_
    obtain ⟨h0, h⟩ := h
    obtain ⟨hc0, hc1, hc2, hc3, hc4, hcd⟩ := h
    refine PW_tsplit 2 9 (fun c hx hlo hhi => ?_) (fun hx => ?_)
    · rcases (show c = 2 ∨ c = 3 ∨ c = 4 ∨ c = 5 ∨ c = 6 ∨ c = 7 ∨ c = 8 ∨ c = 9 by omega) with rfl | rfl | rfl | rfl | rfl | rfl | rfl | rfl
      · refine PW_tsin (tgt := 120) zd_L_pass_74 2 hx (by decide) rfl (by decide) ?_
        have h := hc0 (by omega)
        refine PW_aload_n zd_L_pass_120 rfl ?_
        refine PW_aload_n zd_L_pass_121 rfl ?_
        refine PW_getR zd_L_pass_122 zf_L_46 (zsT_0 hrT) rfl ?_
        refine PW_iload zd_L_pass_125 rfl ?_
        refine PW_iload zd_L_pass_127 rfl ?_
        refine PW_iload zd_L_pass_129 rfl ?_
        refine PW_callS2i zd_L_pass_131 zl_L_92 zk_L_turnedWay zv_L_turnedWay (fr' := 0) (by decide) (Nat.le_of_ble_eq_true rfl) ?_
        refine ms_mono h ?_
        rintro v σ1 ⟨z, rfl, h⟩
        refine ⟨z, rfl, ?_⟩
        refine PW_iadd zd_L_pass_134 ?_
        obtain ⟨h0, h⟩ := h
        refine PW_iaload zd_L_pass_135 (zsT_1 hrT) h0 ?_
        refine PW_iload_n zd_L_pass_136 rfl ?_
        refine PW_iload zd_L_pass_137 rfl ?_
        refine PW_callV3v zd_L_pass_139 zl_L_55 zk_L_send zv_L_send (fr' := 0) (by decide) (zsL_0 hrL) rfl rfl (Nat.le_of_ble_eq_true rfl) ?_
        refine ms_mono h ?_
        rintro v σ1 ⟨rfl, h⟩
        refine ⟨rfl, ?_⟩
        refine PW_goto zd_L_pass_142 ?_
        exact PW_vret zd_L_pass_292 rfl h
      · refine PW_tsin (tgt := 145) zd_L_pass_74 3 hx (by decide) rfl (by decide) ?_
        have h := hc1 (by omega)
        refine PW_aload_n zd_L_pass_145 rfl ?_
        refine PW_aload_n zd_L_pass_146 rfl ?_
        refine PW_getR zd_L_pass_147 zf_L_46 (zsT_0 hrT) rfl ?_
        refine PW_iload zd_L_pass_150 rfl ?_
        refine PW_iload zd_L_pass_152 rfl ?_
        refine PW_iload zd_L_pass_154 rfl ?_
        refine PW_callS2i zd_L_pass_156 zl_L_92 zk_L_turnedWay zv_L_turnedWay (fr' := 0) (by decide) (Nat.le_of_ble_eq_true rfl) ?_
        refine ms_mono h ?_
        rintro v σ1 ⟨z, rfl, h⟩
        refine ⟨z, rfl, ?_⟩
        refine PW_iadd zd_L_pass_159 ?_
        obtain ⟨h0, h⟩ := h
        refine PW_iaload zd_L_pass_160 (zsT_1 hrT) h0 ?_
        refine PW_iload_n zd_L_pass_161 rfl ?_
        refine PW_iload zd_L_pass_162 rfl ?_
        refine PW_callV3v zd_L_pass_164 zl_L_55 zk_L_send zv_L_send (fr' := 0) (by decide) (zsL_0 hrL) rfl rfl (Nat.le_of_ble_eq_true rfl) ?_
        refine ms_mono h ?_
        rintro v σ1 ⟨rfl, h⟩
        refine ⟨rfl, ?_⟩
        refine PW_aload_n zd_L_pass_167 rfl ?_
        refine PW_aload_n zd_L_pass_168 rfl ?_
        refine PW_getR zd_L_pass_169 zf_L_46 (zsT_0 hrT) rfl ?_
        refine PW_iload_n zd_L_pass_172 rfl ?_
        obtain ⟨h0, h⟩ := h
        refine PW_iaload zd_L_pass_173 (zsT_1 hrT) h0 ?_
        refine PW_iload_n zd_L_pass_174 rfl ?_
        refine PW_iload zd_L_pass_175 rfl ?_
        refine PW_callV3v zd_L_pass_177 zl_L_55 zk_L_send zv_L_send (fr' := 0) (by decide) (zsL_0 hrL) rfl rfl (Nat.le_of_ble_eq_true rfl) ?_
        refine ms_mono h ?_
        rintro v σ1 ⟨rfl, h⟩
        refine ⟨rfl, ?_⟩
        refine PW_goto zd_L_pass_180 ?_
        exact PW_vret zd_L_pass_292 rfl h
      · refine PW_tsin (tgt := 183) zd_L_pass_74 4 hx (by decide) rfl (by decide) ?_
        have h := hc2 (by omega)
        refine PW_aload_n zd_L_pass_183 rfl ?_
        refine PW_aload_n zd_L_pass_184 rfl ?_
        refine PW_getR zd_L_pass_185 zf_L_46 (zsT_0 hrT) rfl ?_
        refine PW_iload_n zd_L_pass_188 rfl ?_
        obtain ⟨h0, h⟩ := h
        refine PW_iaload zd_L_pass_189 (zsT_1 hrT) h0 ?_
        refine PW_iload_n zd_L_pass_190 rfl ?_
        refine PW_iload zd_L_pass_191 rfl ?_
        obtain ⟨h0, h⟩ := h
        refine PW_iand zd_L_pass_193 h0 ?_
        refine PW_iload zd_L_pass_194 rfl ?_
        refine PW_callV3v zd_L_pass_196 zl_L_55 zk_L_send zv_L_send (fr' := 0) (by decide) (zsL_0 hrL) rfl rfl (Nat.le_of_ble_eq_true rfl) ?_
        refine ms_mono h ?_
        rintro v σ1 ⟨rfl, h⟩
        refine ⟨rfl, ?_⟩
        refine PW_goto zd_L_pass_199 ?_
        exact PW_vret zd_L_pass_292 rfl h
      · refine PW_tsin (tgt := 202) zd_L_pass_74 5 hx (by decide) rfl (by decide) ?_
        have h := hc3 (by omega)
        refine PW_aload_n zd_L_pass_202 rfl ?_
        refine PW_aload_n zd_L_pass_203 rfl ?_
        refine PW_getR zd_L_pass_204 zf_L_46 (zsT_0 hrT) rfl ?_
        refine PW_iload_n zd_L_pass_207 rfl ?_
        obtain ⟨h0, h⟩ := h
        refine PW_iaload zd_L_pass_208 (zsT_1 hrT) h0 ?_
        refine PW_iload_n zd_L_pass_209 rfl ?_
        refine PW_iconst zd_L_pass_210 ?_
        refine PW_iandm1 zd_L_pass_211 ?_
        refine PW_iload zd_L_pass_212 rfl ?_
        refine PW_callV3v zd_L_pass_214 zl_L_55 zk_L_send zv_L_send (fr' := 0) (by decide) (zsL_0 hrL) rfl rfl (Nat.le_of_ble_eq_true rfl) ?_
        refine ms_mono h ?_
        rintro v σ1 ⟨rfl, h⟩
        refine ⟨rfl, ?_⟩
        refine PW_aload_n zd_L_pass_217 rfl ?_
        refine PW_aload_n zd_L_pass_218 rfl ?_
        refine PW_getR zd_L_pass_219 zf_L_46 (zsT_0 hrT) rfl ?_
        refine PW_iload zd_L_pass_222 rfl ?_
        refine PW_iload zd_L_pass_224 rfl ?_
        refine PW_iconst zd_L_pass_226 ?_
        refine PW_iadd zd_L_pass_227 ?_
        refine PW_iconst zd_L_pass_228 ?_
        obtain ⟨h0, h⟩ := h
        refine PW_irem zd_L_pass_229 ⟨h0, by decide⟩ ?_
        refine PW_iadd zd_L_pass_230 ?_
        obtain ⟨h0, h⟩ := h
        refine PW_iaload zd_L_pass_231 (zsT_1 hrT) h0 ?_
        refine PW_iload_n zd_L_pass_232 rfl ?_
        refine PW_iconst zd_L_pass_233 ?_
        obtain ⟨h0, h⟩ := h
        refine PW_iand zd_L_pass_234 ⟨h0, by decide⟩ ?_
        refine PW_iload zd_L_pass_235 rfl ?_
        refine PW_callV3v zd_L_pass_237 zl_L_55 zk_L_send zv_L_send (fr' := 0) (by decide) (zsL_0 hrL) rfl rfl (Nat.le_of_ble_eq_true rfl) ?_
        refine ms_mono h ?_
        rintro v σ1 ⟨rfl, h⟩
        refine ⟨rfl, ?_⟩
        refine PW_aload_n zd_L_pass_240 rfl ?_
        refine PW_aload_n zd_L_pass_241 rfl ?_
        refine PW_getR zd_L_pass_242 zf_L_46 (zsT_0 hrT) rfl ?_
        refine PW_iload zd_L_pass_245 rfl ?_
        refine PW_iload zd_L_pass_247 rfl ?_
        refine PW_iconst zd_L_pass_249 ?_
        refine PW_iadd zd_L_pass_250 ?_
        refine PW_iconst zd_L_pass_251 ?_
        obtain ⟨h0, h⟩ := h
        refine PW_irem zd_L_pass_252 ⟨h0, by decide⟩ ?_
        refine PW_iadd zd_L_pass_253 ?_
        obtain ⟨h0, h⟩ := h
        refine PW_iaload zd_L_pass_254 (zsT_1 hrT) h0 ?_
        refine PW_iload_n zd_L_pass_255 rfl ?_
        refine PW_iconst zd_L_pass_256 ?_
        obtain ⟨h0, h⟩ := h
        refine PW_iand zd_L_pass_257 ⟨h0, by decide⟩ ?_
        refine PW_iload zd_L_pass_258 rfl ?_
        refine PW_callV3v zd_L_pass_260 zl_L_55 zk_L_send zv_L_send (fr' := 0) (by decide) (zsL_0 hrL) rfl rfl (Nat.le_of_ble_eq_true rfl) ?_
        refine ms_mono h ?_
        rintro v σ1 ⟨rfl, h⟩
        refine ⟨rfl, ?_⟩
        refine PW_goto zd_L_pass_263 ?_
        exact PW_vret zd_L_pass_292 rfl h
      · refine PW_tsin (tgt := 292) zd_L_pass_74 6 hx (by decide) rfl (by decide) ?_
        have h := hcd (by omega)
        exact PW_vret zd_L_pass_292 rfl h
      · refine PW_tsin (tgt := 292) zd_L_pass_74 7 hx (by decide) rfl (by decide) ?_
        have h := hcd (by omega)
        exact PW_vret zd_L_pass_292 rfl h
      · refine PW_tsin (tgt := 266) zd_L_pass_74 8 hx (by decide) rfl (by decide) ?_
        have h := hc4 (by omega)
        refine PW_aload_n zd_L_pass_266 rfl ?_
        refine PW_aload_n zd_L_pass_267 rfl ?_
        refine PW_getR zd_L_pass_268 zf_L_46 (zsT_0 hrT) rfl ?_
        refine PW_iload_n zd_L_pass_271 rfl ?_
        obtain ⟨h0, h⟩ := h
        refine PW_iaload zd_L_pass_272 (zsT_1 hrT) h0 ?_
        refine PW_iload zd_L_pass_273 rfl ?_
        refine PW_iconst zd_L_pass_275 ?_
        obtain ⟨h0, hT, hF⟩ := h
        refine PW_icmp_ne zd_L_pass_276 ⟨h0, by decide⟩ (fun q => ?_) (fun q => ?_)
        · have h := hT q
          refine PW_iconst zd_L_pass_283 ?_
          exact PW_sub (by exact ⟨rfl, trivial⟩) (kb_L_pass_284 hrL hrT  h)
        · have h := hF q
          refine PW_iload_n zd_L_pass_279 rfl ?_
          refine PW_goto zd_L_pass_280 ?_
          exact PW_sub (by exact ⟨rfl, trivial⟩) (kb_L_pass_284 hrL hrT  h)
      · refine PW_tsin (tgt := 120) zd_L_pass_74 9 hx (by decide) rfl (by decide) ?_
        have h := hc0 (by omega)
        refine PW_aload_n zd_L_pass_120 rfl ?_
        refine PW_aload_n zd_L_pass_121 rfl ?_
        refine PW_getR zd_L_pass_122 zf_L_46 (zsT_0 hrT) rfl ?_
        refine PW_iload zd_L_pass_125 rfl ?_
        refine PW_iload zd_L_pass_127 rfl ?_
        refine PW_iload zd_L_pass_129 rfl ?_
        refine PW_callS2i zd_L_pass_131 zl_L_92 zk_L_turnedWay zv_L_turnedWay (fr' := 0) (by decide) (Nat.le_of_ble_eq_true rfl) ?_
        refine ms_mono h ?_
        rintro v σ1 ⟨z, rfl, h⟩
        refine ⟨z, rfl, ?_⟩
        refine PW_iadd zd_L_pass_134 ?_
        obtain ⟨h0, h⟩ := h
        refine PW_iaload zd_L_pass_135 (zsT_1 hrT) h0 ?_
        refine PW_iload_n zd_L_pass_136 rfl ?_
        refine PW_iload zd_L_pass_137 rfl ?_
        refine PW_callV3v zd_L_pass_139 zl_L_55 zk_L_send zv_L_send (fr' := 0) (by decide) (zsL_0 hrL) rfl rfl (Nat.le_of_ble_eq_true rfl) ?_
        refine ms_mono h ?_
        rintro v σ1 ⟨rfl, h⟩
        refine ⟨rfl, ?_⟩
        refine PW_goto zd_L_pass_142 ?_
        exact PW_vret zd_L_pass_292 rfl h
    · refine PW_tsout (tgt := 292) zd_L_pass_74 (by omega) (by decide) ?_
      have h := hcd (by omega)
      exact PW_vret zd_L_pass_292 rfl h
  · have h := hF q
    refine PW_aload_n zd_L_pass_37 rfl ?_
    refine PW_aload_n zd_L_pass_38 rfl ?_
    refine PW_getR zd_L_pass_39 zf_L_46 (zsT_0 hrT) rfl ?_
    refine PW_iload_n zd_L_pass_42 rfl ?_
    obtain ⟨h0, h⟩ := h
    refine PW_iaload zd_L_pass_43 (zsT_1 hrT) h0 ?_
    refine PW_iload_n zd_L_pass_44 rfl ?_
    refine PW_iload zd_L_pass_45 rfl ?_
    refine PW_callV3v zd_L_pass_47 zl_L_55 zk_L_send zv_L_send (fr' := 0) (by decide) (zsL_0 hrL) rfl rfl (Nat.le_of_ble_eq_true rfl) ?_
    refine ms_mono h ?_
    rintro v σ1 ⟨rfl, h⟩
    refine ⟨rfl, ?_⟩
    exact PW_vret zd_L_pass_50 rfl h
def w_L_turnedWay (G : zG) (way form : Int) (X : zX) (σ : zPH) : Prop :=
  (zI form) ∧
  (form ≠ 0 →
    (0 ≤ way) ∧
    X (some (iZ (zxor way 3))) σ) ∧
  (form = 0 →
    (0 ≤ way) ∧
    X (some (iZ (zxor way 1))) σ)
set_option maxHeartbeats 4000000 in
theorem k_L_turnedWay {G : zG} {way form : Int} {X : zX} {σ : zPH} (h : w_L_turnedWay G way form X σ) : MS G zm_L_turnedWay 0 [iZ way, iZ form] σ X := by
  refine ms_of zk_L_turnedWay (Nat.le_of_ble_eq_true rfl) (ls := [some (iZ way), some (iZ form)]) rfl ?_
  unfold w_L_turnedWay at h
  refine PW_iload_n zd_L_turnedWay_0 rfl ?_
  refine PW_iload_n zd_L_turnedWay_1 rfl ?_
  obtain ⟨h0, hT, hF⟩ := h
  refine PW_if_ne zd_L_turnedWay_2 h0 (fun q => ?_) (fun q => ?_)
  · have h := hT q
    refine PW_iconst zd_L_turnedWay_9 ?_
    obtain ⟨h0, h⟩ := h
    refine PW_ixor zd_L_turnedWay_10 ⟨h0, by decide⟩ ?_
    exact PW_iret zd_L_turnedWay_11 rfl h
  · have h := hF q
    refine PW_iconst zd_L_turnedWay_5 ?_
    refine PW_goto zd_L_turnedWay_6 ?_
    obtain ⟨h0, h⟩ := h
    refine PW_ixor zd_L_turnedWay_10 ⟨h0, by decide⟩ ?_
    exact PW_iret zd_L_turnedWay_11 rfl h
def b_L_send_55 (G : zG) (rL : Nat) (node colours steps : Int) (X : zX) (x4 : Int) (σ : zPH) : Prop :=
  (0 ≤ node ∧ node < 576) ∧
  (0 ≤ (σ (rL + 1) node.toNat) ∧ 0 ≤ x4) ∧
  (0 ≤ node ∧ node < 576) ∧
  ∀ σ65 : zPH, σ65 = zupd σ (rL + 1) node.toNat (zor (σ (rL + 1) node.toNat) x4) →
  (0 ≤ (node * 8) ∧ 0 ≤ x4) ∧
  (0 ≤ (σ65 rL 3) ∧ (σ65 rL 3) < 1728) ∧
  ∀ σ80 : zPH, σ80 = zupd σ65 (rL + 3) (σ65 rL 3).toNat (zor (node * 8) x4) →
  ∀ σ88 : zPH, σ88 = zupd σ80 rL 3 ((σ80 rL 3) + 1) →
  X none σ88
set_option maxHeartbeats 4000000 in
theorem kb_L_send_55 {G : zG} {rL : Nat} {node colours steps : Int} {X : zX} (hrL : zisL rL) {x4 : Int} {σ : zPH} (h : b_L_send_55 G rL node colours steps X  x4 σ) : PW G zm_L_send 0 X 55 [some (zr G rL), some (iZ node), none, none, some (iZ x4)] [] σ := by
  unfold b_L_send_55 at h
  refine PW_aload_n zd_L_send_55 rfl ?_
  refine PW_getR zd_L_send_56 zf_L_9 (zsL_0 hrL) rfl ?_
  refine PW_iload_n zd_L_send_59 rfl ?_
  refine PW_dup2 zd_L_send_60 rfl rfl ?_
  obtain ⟨h0, h⟩ := h
  refine PW_iaload zd_L_send_61 (zsL_1 hrL) h0 ?_
  refine PW_iload zd_L_send_62 rfl ?_
  obtain ⟨h0, h⟩ := h
  refine PW_ior zd_L_send_64 h0 ?_
  obtain ⟨h0, h⟩ := h
  refine PW_iastore zd_L_send_65 (zsL_1 hrL) h0 ?_
  have h := h _ rfl
  refine PW_aload_n zd_L_send_66 rfl ?_
  refine PW_getR zd_L_send_67 zf_L_18 (zsL_0 hrL) rfl ?_
  refine PW_aload_n zd_L_send_70 rfl ?_
  refine PW_getI zd_L_send_71 zf_L_76 (zsL_0 hrL) rfl ?_
  refine PW_iload_n zd_L_send_74 rfl ?_
  refine PW_iconst zd_L_send_75 ?_
  refine PW_ishlC 8 zd_L_send_76 (by decide) rfl ?_
  refine PW_iload zd_L_send_77 rfl ?_
  obtain ⟨h0, h⟩ := h
  refine PW_ior zd_L_send_79 h0 ?_
  obtain ⟨h0, h⟩ := h
  refine PW_iastore zd_L_send_80 (zsL_3 hrL) h0 ?_
  have h := h _ rfl
  refine PW_aload_n zd_L_send_81 rfl ?_
  refine PW_dup zd_L_send_82 rfl ?_
  refine PW_getI zd_L_send_83 zf_L_76 (zsL_0 hrL) rfl ?_
  refine PW_iconst zd_L_send_86 ?_
  refine PW_iadd zd_L_send_87 ?_
  refine PW_putI zd_L_send_88 zp_L_76 (zsL_0 hrL) rfl ?_
  have h := h _ rfl
  exact PW_vret zd_L_send_91 rfl h
def b_L_send_19 (G : zG) (rL : Nat) (node colours steps : Int) (X : zX) (s0 : Int) (σ : zPH) : Prop :=
  (zI s0) ∧
  (s0 = 0 →
    X none σ) ∧
  (s0 ≠ 0 →
    (zI (σ rL 3)) ∧
    ((σ rL 3) < 1728 →
      (0 ≤ node ∧ node < 576) ∧
      (zI (σ (rL + 1) node.toNat)) ∧
      ((σ (rL + 1) node.toNat) ≠ 0 →
        b_L_send_55 G rL node colours steps X  s0 σ) ∧
      ((σ (rL + 1) node.toNat) = 0 →
        (0 ≤ node ∧ node < 576) ∧
        ∀ σ54 : zPH, σ54 = zupd σ (rL + 4) node.toNat steps →
        b_L_send_55 G rL node colours steps X  s0 σ54)) ∧
    (1728 ≤ (σ rL 3) →
      X none σ))
set_option maxHeartbeats 4000000 in
theorem kb_L_send_19 {G : zG} {rL : Nat} {node colours steps : Int} {X : zX} (hrL : zisL rL) {s0 : Int} {σ : zPH} (h : b_L_send_19 G rL node colours steps X  s0 σ) : PW G zm_L_send 0 X 19 [some (zr G rL), some (iZ node), none, some (iZ steps), none] [iZ s0] σ := by
  unfold b_L_send_19 at h
  refine PW_istore zd_L_send_19 rfl (by decide) (ls2 := [_, _, _, _, _]) rfl ?_
  refine PW_iload zd_L_send_21 rfl ?_
  obtain ⟨h0, hT, hF⟩ := h
  refine PW_if_eq zd_L_send_23 h0 (fun q => ?_) (fun q => ?_)
  · have h := hT q
    exact PW_vret zd_L_send_38 rfl h
  · have h := hF q
    refine PW_aload_n zd_L_send_26 rfl ?_
    refine PW_getI zd_L_send_27 zf_L_76 (zsL_0 hrL) rfl ?_
    refine PW_aload_n zd_L_send_30 rfl ?_
    refine PW_getR zd_L_send_31 zf_L_18 (zsL_0 hrL) rfl ?_
    refine PW_alen zd_L_send_34 (zsL_3 hrL) (by decide) (by rcases hrL with rfl | rfl <;> decide) ?_
    obtain ⟨h0, hT, hF⟩ := h
    refine PW_icmp_lt zd_L_send_35 ⟨h0, by decide⟩ (fun q => ?_) (fun q => ?_)
    · have h := hT q
      refine PW_aload_n zd_L_send_39 rfl ?_
      refine PW_getR zd_L_send_40 zf_L_9 (zsL_0 hrL) rfl ?_
      refine PW_iload_n zd_L_send_43 rfl ?_
      obtain ⟨h0, h⟩ := h
      refine PW_iaload zd_L_send_44 (zsL_1 hrL) h0 ?_
      obtain ⟨h0, hT, hF⟩ := h
      refine PW_if_ne zd_L_send_45 h0 (fun q => ?_) (fun q => ?_)
      · have h := hT q
        exact PW_sub (by exact ⟨rfl, rfl, rfl, trivial⟩) (kb_L_send_55 hrL  h)
      · have h := hF q
        refine PW_aload_n zd_L_send_48 rfl ?_
        refine PW_getR zd_L_send_49 zf_L_21 (zsL_0 hrL) rfl ?_
        refine PW_iload_n zd_L_send_52 rfl ?_
        refine PW_iload_n zd_L_send_53 rfl ?_
        obtain ⟨h0, h⟩ := h
        refine PW_iastore zd_L_send_54 (zsL_4 hrL) h0 ?_
        have h := h _ rfl
        exact PW_sub (by exact ⟨rfl, rfl, rfl, trivial⟩) (kb_L_send_55 hrL  h)
    · have h := hF q
      exact PW_vret zd_L_send_38 rfl h
def w_L_send (G : zG) (rL : Nat) (node colours steps : Int) (X : zX) (σ : zPH) : Prop :=
  (zI node) ∧
  (node ≠ (-1) →
    (0 ≤ node ∧ node < 576) ∧
    (0 ≤ colours ∧ 0 ≤ (σ (rL + 1) node.toNat)) ∧
    b_L_send_19 G rL node colours steps X  (zdif colours (σ (rL + 1) node.toNat)) σ) ∧
  (node = (-1) →
    b_L_send_19 G rL node colours steps X  0 σ)
set_option maxHeartbeats 4000000 in
theorem k_L_send {G : zG} {rL : Nat} {node colours steps : Int} {X : zX} (hrL : zisL rL) {σ : zPH} (h : w_L_send G rL node colours steps X σ) : MS G zm_L_send 0 [zr G rL, iZ node, iZ colours, iZ steps] σ X := by
  refine ms_of zk_L_send (Nat.le_of_ble_eq_true rfl) (ls := [some (zr G rL), some (iZ node), some (iZ colours), some (iZ steps), none]) rfl ?_
  unfold w_L_send at h
  refine PW_iload_n zd_L_send_0 rfl ?_
  refine PW_iconst zd_L_send_1 ?_
  obtain ⟨h0, hT, hF⟩ := h
  refine PW_icmp_ne zd_L_send_2 ⟨h0, by decide⟩ (fun q => ?_) (fun q => ?_)
  · have h := hT q
    refine PW_iload_n zd_L_send_9 rfl ?_
    refine PW_aload_n zd_L_send_10 rfl ?_
    refine PW_getR zd_L_send_11 zf_L_9 (zsL_0 hrL) rfl ?_
    refine PW_iload_n zd_L_send_14 rfl ?_
    obtain ⟨h0, h⟩ := h
    refine PW_iaload zd_L_send_15 (zsL_1 hrL) h0 ?_
    refine PW_iconst zd_L_send_16 ?_
    refine PW_ixorM zd_L_send_17 ?_
    obtain ⟨h0, h⟩ := h
    refine PW_iandn zd_L_send_18 h0 ?_
    exact PW_sub (by exact ⟨rfl, rfl, rfl, trivial⟩) (kb_L_send_19 hrL  h)
  · have h := hF q
    refine PW_iconst zd_L_send_5 ?_
    refine PW_goto zd_L_send_6 ?_
    exact PW_sub (by exact ⟨rfl, rfl, rfl, trivial⟩) (kb_L_send_19 hrL  h)
def w_L_comesInto (G : zG) (rL : Nat) (square : Int) (X : zX) (σ : zPH) : Prop :=
  (zI square) ∧
  (square ≠ (-1) →
    ∀ x2 : Int, x2 = (square * 4) →
    (0 ≤ (x2 + 0) ∧ (x2 + 0) < 576) ∧
    (0 ≤ (x2 + 1) ∧ (x2 + 1) < 576) ∧
    (0 ≤ (σ (rL + 1) (x2 + 0).toNat) ∧ 0 ≤ (σ (rL + 1) (x2 + 1).toNat)) ∧
    (0 ≤ (x2 + 2) ∧ (x2 + 2) < 576) ∧
    (0 ≤ (zor (σ (rL + 1) (x2 + 0).toNat) (σ (rL + 1) (x2 + 1).toNat)) ∧ 0 ≤ (σ (rL + 1) (x2 + 2).toNat)) ∧
    (0 ≤ (x2 + 3) ∧ (x2 + 3) < 576) ∧
    (0 ≤ (zor (zor (σ (rL + 1) (x2 + 0).toNat) (σ (rL + 1) (x2 + 1).toNat)) (σ (rL + 1) (x2 + 2).toNat)) ∧ 0 ≤ (σ (rL + 1) (x2 + 3).toNat)) ∧
    X (some (iZ (zor (zor (zor (σ (rL + 1) (x2 + 0).toNat) (σ (rL + 1) (x2 + 1).toNat)) (σ (rL + 1) (x2 + 2).toNat)) (σ (rL + 1) (x2 + 3).toNat)))) σ) ∧
  (square = (-1) →
    X (some (iZ 0)) σ)
set_option maxHeartbeats 4000000 in
theorem k_L_comesInto {G : zG} {rL : Nat} {square : Int} {X : zX} (hrL : zisL rL) {σ : zPH} (h : w_L_comesInto G rL square X σ) : MS G zm_L_comesInto 0 [zr G rL, iZ square] σ X := by
  refine ms_of zk_L_comesInto (Nat.le_of_ble_eq_true rfl) (ls := [some (zr G rL), some (iZ square), none]) rfl ?_
  unfold w_L_comesInto at h
  refine PW_iload_n zd_L_comesInto_0 rfl ?_
  refine PW_iconst zd_L_comesInto_1 ?_
  obtain ⟨h0, hT, hF⟩ := h
  refine PW_icmp_ne zd_L_comesInto_2 ⟨h0, by decide⟩ (fun q => ?_) (fun q => ?_)
  · have h := hT q
    refine PW_iload_n zd_L_comesInto_7 rfl ?_
    refine PW_iconst zd_L_comesInto_8 ?_
    refine PW_imul zd_L_comesInto_9 ?_
    refine PW_istore_n zd_L_comesInto_10 rfl (by decide) (ls2 := [_, _, _]) rfl ?_
    have h := h _ rfl
    refine PW_aload_n zd_L_comesInto_11 rfl ?_
    refine PW_getR zd_L_comesInto_12 zf_L_9 (zsL_0 hrL) rfl ?_
    refine PW_iload_n zd_L_comesInto_15 rfl ?_
    refine PW_iconst zd_L_comesInto_16 ?_
    refine PW_iadd zd_L_comesInto_17 ?_
    obtain ⟨h0, h⟩ := h
    refine PW_iaload zd_L_comesInto_18 (zsL_1 hrL) h0 ?_
    refine PW_aload_n zd_L_comesInto_19 rfl ?_
    refine PW_getR zd_L_comesInto_20 zf_L_9 (zsL_0 hrL) rfl ?_
    refine PW_iload_n zd_L_comesInto_23 rfl ?_
    refine PW_iconst zd_L_comesInto_24 ?_
    refine PW_iadd zd_L_comesInto_25 ?_
    obtain ⟨h0, h⟩ := h
    refine PW_iaload zd_L_comesInto_26 (zsL_1 hrL) h0 ?_
    obtain ⟨h0, h⟩ := h
    refine PW_ior zd_L_comesInto_27 h0 ?_
    refine PW_aload_n zd_L_comesInto_28 rfl ?_
    refine PW_getR zd_L_comesInto_29 zf_L_9 (zsL_0 hrL) rfl ?_
    refine PW_iload_n zd_L_comesInto_32 rfl ?_
    refine PW_iconst zd_L_comesInto_33 ?_
    refine PW_iadd zd_L_comesInto_34 ?_
    obtain ⟨h0, h⟩ := h
    refine PW_iaload zd_L_comesInto_35 (zsL_1 hrL) h0 ?_
    obtain ⟨h0, h⟩ := h
    refine PW_ior zd_L_comesInto_36 h0 ?_
    refine PW_aload_n zd_L_comesInto_37 rfl ?_
    refine PW_getR zd_L_comesInto_38 zf_L_9 (zsL_0 hrL) rfl ?_
    refine PW_iload_n zd_L_comesInto_41 rfl ?_
    refine PW_iconst zd_L_comesInto_42 ?_
    refine PW_iadd zd_L_comesInto_43 ?_
    obtain ⟨h0, h⟩ := h
    refine PW_iaload zd_L_comesInto_44 (zsL_1 hrL) h0 ?_
    obtain ⟨h0, h⟩ := h
    refine PW_ior zd_L_comesInto_45 h0 ?_
    exact PW_iret zd_L_comesInto_46 rfl h
  · have h := hF q
    refine PW_iconst zd_L_comesInto_5 ?_
    exact PW_iret zd_L_comesInto_6 rfl h
def w_L_arrivedNode (G : zG) (rL : Nat) (i : Int) (X : zX) (σ : zPH) : Prop :=
  (0 ≤ i ∧ i < 1728) ∧
  zI (σ (rL + 3) i.toNat) ∧
  X (some (iZ ((σ (rL + 3) i.toNat) / 8))) σ
set_option maxHeartbeats 4000000 in
theorem k_L_arrivedNode {G : zG} {rL : Nat} {i : Int} {X : zX} (hrL : zisL rL) {σ : zPH} (h : w_L_arrivedNode G rL i X σ) : MS G zm_L_arrivedNode 0 [zr G rL, iZ i] σ X := by
  refine ms_of zk_L_arrivedNode (Nat.le_of_ble_eq_true rfl) (ls := [some (zr G rL), some (iZ i)]) rfl ?_
  unfold w_L_arrivedNode at h
  refine PW_aload_n zd_L_arrivedNode_0 rfl ?_
  refine PW_getR zd_L_arrivedNode_1 zf_L_18 (zsL_0 hrL) rfl ?_
  refine PW_iload_n zd_L_arrivedNode_4 rfl ?_
  obtain ⟨h0, h⟩ := h
  refine PW_iaload zd_L_arrivedNode_5 (zsL_3 hrL) h0 ?_
  refine PW_iconst zd_L_arrivedNode_6 ?_
  obtain ⟨h0, h⟩ := h
  refine PW_ishrC 8 zd_L_arrivedNode_7 ⟨h0, by decide⟩ rfl ?_
  exact PW_iret zd_L_arrivedNode_8 rfl h
