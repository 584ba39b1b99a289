def w_T_clear (G : zG) (rT : Nat) (X : zX) (σ : zPH) : Prop :=
  ∀ σ2 : zPH, σ2 = zupd σ rT 0 0 →
  ∀ σ7 : zPH, σ7 = zupd σ2 rT 1 0 →
  ∀ σ12 : zPH, σ12 = zupd σ7 rT 4 0 →
  ∀ σ17 : zPH, σ17 = zupd σ12 rT 14 0 →
  MS G zm_JA_fill 0 [zr G (rT + 8), iZ 0] σ17 (fun v σ25 =>
    v = none ∧
    MS G zm_JA_fill 0 [zr G (rT + 2), iZ (-1)] σ25 (fun v σ33 =>
      v = none ∧
      X none σ33))
set_option maxHeartbeats 4000000 in
theorem k_T_clear {G : zG} {rT : Nat} {X : zX} (hrT : zisT rT) {σ : zPH} (h : w_T_clear G rT X σ) : MS G zm_T_clear 1 [zr G rT] σ X := by
  refine ms_of zk_T_clear (Nat.le_of_ble_eq_true rfl) (ls := [some (zr G rT)]) rfl ?_
  unfold w_T_clear at h
  refine PW_aload_n zd_T_clear_0 rfl ?_
  refine PW_iconst zd_T_clear_1 ?_
  refine PW_putI zd_T_clear_2 zp_T_48 (zsT_0 hrT) rfl ?_
  have h := h _ rfl
  refine PW_aload_n zd_T_clear_5 rfl ?_
  refine PW_iconst zd_T_clear_6 ?_
  refine PW_putI zd_T_clear_7 zp_T_52 (zsT_0 hrT) rfl ?_
  have h := h _ rfl
  refine PW_aload_n zd_T_clear_10 rfl ?_
  refine PW_iconst zd_T_clear_11 ?_
  refine PW_putI zd_T_clear_12 zp_T_55 (zsT_0 hrT) rfl ?_
  have h := h _ rfl
  refine PW_aload_n zd_T_clear_15 rfl ?_
  refine PW_iconst zd_T_clear_16 ?_
  refine PW_putI zd_T_clear_17 zp_T_58 (zsT_0 hrT) rfl ?_
  have h := h _ rfl
  refine PW_aload_n zd_T_clear_20 rfl ?_
  refine PW_getR zd_T_clear_21 zf_T_33 (zsT_0 hrT) rfl ?_
  refine PW_iconst zd_T_clear_24 ?_
  refine PW_callS2v zd_T_clear_25 zl_T_61 zk_JA_fill zv_JA_fill (fr' := 0) (by decide) (Nat.le_of_ble_eq_true rfl) ?_
  refine ms_mono h ?_
  rintro v σ1 ⟨rfl, h⟩
  refine ⟨rfl, ?_⟩
  refine PW_aload_n zd_T_clear_28 rfl ?_
  refine PW_getR zd_T_clear_29 zf_T_15 (zsT_0 hrT) rfl ?_
  refine PW_iconst zd_T_clear_32 ?_
  refine PW_callS2v zd_T_clear_33 zl_T_61 zk_JA_fill zv_JA_fill (fr' := 0) (by decide) (Nat.le_of_ble_eq_true rfl) ?_
  refine ms_mono h ?_
  rintro v σ1 ⟨rfl, h⟩
  refine ⟨rfl, ?_⟩
  exact PW_vret zd_T_clear_36 rfl h
def b_T_resize_160 (G : zG) (rT : Nat) (newColumns newRows : Int) (X : zX) (K12 : Int → zPH → Prop) (K23 : Int → Int → zPH → Prop) (x3 x4 s0 s1 : Int) (σ : zPH) : Prop :=
  (0 ≤ s1 ∧ s1 < 576) ∧
  ∀ σ160 : zPH, σ160 = zupd σ (rT + 1) s1.toNat s0 →
  K23 x3 (x4 + 1) σ160
set_option maxHeartbeats 4000000 in
theorem kb_T_resize_160 {G : zG} {rT : Nat} {newColumns newRows : Int} {X : zX} {K12 : Int → zPH → Prop} {K23 : Int → Int → zPH → Prop} (hrT : zisT rT) (hK12 : ∀ (y0 : Int) (σ : zPH), K12 y0 σ → PW G zm_T_resize 0 X 12 [some (zr G rT), none, none, some (iZ y0), none, none] [] σ) (hK23 : ∀ (y0 y1 : Int) (σ : zPH), K23 y0 y1 σ → PW G zm_T_resize 0 X 23 [some (zr G rT), none, none, some (iZ y0), some (iZ y1), none] [] σ) {x3 x4 s0 s1 : Int} {σ : zPH} (h : b_T_resize_160 G rT newColumns newRows X K12 K23 x3 x4 s0 s1 σ) : PW G zm_T_resize 0 X 160 [some (zr G rT), none, none, some (iZ x3), some (iZ x4), none] [iZ s0, iZ s1, zr G (rT + 1)] σ := by
  unfold b_T_resize_160 at h
  obtain ⟨h0, h⟩ := h
  refine PW_iastore zd_T_resize_160 (zsT_1 hrT) h0 ?_
  have h := h _ rfl
  refine PW_iinc zd_T_resize_161 rfl rfl (by decide) (ls2 := [_, _, _, _, _, _]) rfl ?_
  refine PW_goto zd_T_resize_164 ?_
  exact PW_sub (by exact ⟨rfl, rfl, rfl, trivial⟩) (hK23 _ _ _ h)
def b_T_resize_136 (G : zG) (rT : Nat) (newColumns newRows : Int) (X : zX) (K12 : Int → zPH → Prop) (K23 : Int → Int → zPH → Prop) (x3 x4 x5 s0 s1 : Int) (σ : zPH) : Prop :=
  (0 ≤ s1 ∧ s1 < 576) ∧
  ∀ σ136 : zPH, σ136 = zupd σ (rT + 1) s1.toNat s0 →
  (zI x4) ∧
  (x4 ≤ 0 →
    b_T_resize_160 G rT newColumns newRows X K12 K23 x3 x4 (-1) (x5 + 3) σ136) ∧
  (0 < x4 →
    b_T_resize_160 G rT newColumns newRows X K12 K23 x3 x4 ((x5 - 4) + 3) (x5 + 3) σ136)
set_option maxHeartbeats 4000000 in
theorem kb_T_resize_136 {G : zG} {rT : Nat} {newColumns newRows : Int} {X : zX} {K12 : Int → zPH → Prop} {K23 : Int → Int → zPH → Prop} (hrT : zisT rT) (hK12 : ∀ (y0 : Int) (σ : zPH), K12 y0 σ → PW G zm_T_resize 0 X 12 [some (zr G rT), none, none, some (iZ y0), none, none] [] σ) (hK23 : ∀ (y0 y1 : Int) (σ : zPH), K23 y0 y1 σ → PW G zm_T_resize 0 X 23 [some (zr G rT), none, none, some (iZ y0), some (iZ y1), none] [] σ) {x3 x4 x5 s0 s1 : Int} {σ : zPH} (h : b_T_resize_136 G rT newColumns newRows X K12 K23 x3 x4 x5 s0 s1 σ) : PW G zm_T_resize 0 X 136 [some (zr G rT), none, none, some (iZ x3), some (iZ x4), some (iZ x5)] [iZ s0, iZ s1, zr G (rT + 1)] σ := by
  unfold b_T_resize_136 at h
  obtain ⟨h0, h⟩ := h
  refine PW_iastore zd_T_resize_136 (zsT_1 hrT) h0 ?_
  have h := h _ rfl
  refine PW_aload_n zd_T_resize_137 rfl ?_
  refine PW_getR zd_T_resize_138 zf_T_9 (zsT_0 hrT) rfl ?_
  refine PW_iload zd_T_resize_141 rfl ?_
  refine PW_iconst zd_T_resize_143 ?_
  refine PW_iadd zd_T_resize_144 ?_
  refine PW_iload zd_T_resize_145 rfl ?_
  obtain ⟨h0, hT, hF⟩ := h
  refine PW_if_le zd_T_resize_147 h0 (fun q => ?_) (fun q => ?_)
  · have h := hT q
    refine PW_iconst zd_T_resize_159 ?_
    exact PW_sub (by exact ⟨rfl, rfl, rfl, trivial⟩) (kb_T_resize_160 hrT hK12 hK23 h)
  · have h := hF q
    refine PW_iload zd_T_resize_150 rfl ?_
    refine PW_iconst zd_T_resize_152 ?_
    refine PW_isub zd_T_resize_153 ?_
    refine PW_iconst zd_T_resize_154 ?_
    refine PW_iadd zd_T_resize_155 ?_
    refine PW_goto zd_T_resize_156 ?_
    exact PW_sub (by exact ⟨rfl, rfl, rfl, trivial⟩) (kb_T_resize_160 hrT hK12 hK23 h)
def b_T_resize_102 (G : zG) (rT : Nat) (newColumns newRows : Int) (X : zX) (K12 : Int → zPH → Prop) (K23 : Int → Int → zPH → Prop) (x3 x4 x5 s0 s1 : Int) (σ : zPH) : Prop :=
  (0 ≤ s1 ∧ s1 < 576) ∧
  ∀ σ102 : zPH, σ102 = zupd σ (rT + 1) s1.toNat s0 →
  (zI (x3 + 1) ∧ zI (σ102 rT 1)) ∧
  ((σ102 rT 1) ≤ (x3 + 1) →
    b_T_resize_136 G rT newColumns newRows X K12 K23 x3 x4 x5 (-1) (x5 + 2) σ102) ∧
  ((x3 + 1) < (σ102 rT 1) →
    b_T_resize_136 G rT newColumns newRows X K12 K23 x3 x4 x5 ((x5 + ((σ102 rT 0) * 4)) + 2) (x5 + 2) σ102)
set_option maxHeartbeats 4000000 in
theorem kb_T_resize_102 {G : zG} {rT : Nat} {newColumns newRows : Int} {X : zX} {K12 : Int → zPH → Prop} {K23 : Int → Int → zPH → Prop} (hrT : zisT rT) (hK12 : ∀ (y0 : Int) (σ : zPH), K12 y0 σ → PW G zm_T_resize 0 X 12 [some (zr G rT), none, none, some (iZ y0), none, none] [] σ) (hK23 : ∀ (y0 y1 : Int) (σ : zPH), K23 y0 y1 σ → PW G zm_T_resize 0 X 23 [some (zr G rT), none, none, some (iZ y0), some (iZ y1), none] [] σ) {x3 x4 x5 s0 s1 : Int} {σ : zPH} (h : b_T_resize_102 G rT newColumns newRows X K12 K23 x3 x4 x5 s0 s1 σ) : PW G zm_T_resize 0 X 102 [some (zr G rT), none, none, some (iZ x3), some (iZ x4), some (iZ x5)] [iZ s0, iZ s1, zr G (rT + 1)] σ := by
  unfold b_T_resize_102 at h
  obtain ⟨h0, h⟩ := h
  refine PW_iastore zd_T_resize_102 (zsT_1 hrT) h0 ?_
  have h := h _ rfl
  refine PW_aload_n zd_T_resize_103 rfl ?_
  refine PW_getR zd_T_resize_104 zf_T_9 (zsT_0 hrT) rfl ?_
  refine PW_iload zd_T_resize_107 rfl ?_
  refine PW_iconst zd_T_resize_109 ?_
  refine PW_iadd zd_T_resize_110 ?_
  refine PW_iload_n zd_T_resize_111 rfl ?_
  refine PW_iconst zd_T_resize_112 ?_
  refine PW_iadd zd_T_resize_113 ?_
  refine PW_aload_n zd_T_resize_114 rfl ?_
  refine PW_getI zd_T_resize_115 zf_T_52 (zsT_0 hrT) rfl ?_
  obtain ⟨h0, hT, hF⟩ := h
  refine PW_icmp_ge zd_T_resize_118 h0 (fun q => ?_) (fun q => ?_)
  · have h := hT q
    refine PW_iconst zd_T_resize_135 ?_
    exact PW_sub (by exact ⟨rfl, rfl, rfl, rfl, trivial⟩) (kb_T_resize_136 hrT hK12 hK23 h)
  · have h := hF q
    refine PW_iload zd_T_resize_121 rfl ?_
    refine PW_aload_n zd_T_resize_123 rfl ?_
    refine PW_getI zd_T_resize_124 zf_T_48 (zsT_0 hrT) rfl ?_
    refine PW_iconst zd_T_resize_127 ?_
    refine PW_imul zd_T_resize_128 ?_
    refine PW_iadd zd_T_resize_129 ?_
    refine PW_iconst zd_T_resize_130 ?_
    refine PW_iadd zd_T_resize_131 ?_
    refine PW_goto zd_T_resize_132 ?_
    exact PW_sub (by exact ⟨rfl, rfl, rfl, rfl, trivial⟩) (kb_T_resize_136 hrT hK12 hK23 h)
def b_T_resize_72 (G : zG) (rT : Nat) (newColumns newRows : Int) (X : zX) (K12 : Int → zPH → Prop) (K23 : Int → Int → zPH → Prop) (x3 x4 x5 s0 s1 : Int) (σ : zPH) : Prop :=
  (0 ≤ s1 ∧ s1 < 576) ∧
  ∀ σ72 : zPH, σ72 = zupd σ (rT + 1) s1.toNat s0 →
  (zI (x4 + 1) ∧ zI (σ72 rT 0)) ∧
  ((σ72 rT 0) ≤ (x4 + 1) →
    b_T_resize_102 G rT newColumns newRows X K12 K23 x3 x4 x5 (-1) (x5 + 1) σ72) ∧
  ((x4 + 1) < (σ72 rT 0) →
    b_T_resize_102 G rT newColumns newRows X K12 K23 x3 x4 x5 ((x5 + 4) + 1) (x5 + 1) σ72)
set_option maxHeartbeats 4000000 in
theorem kb_T_resize_72 {G : zG} {rT : Nat} {newColumns newRows : Int} {X : zX} {K12 : Int → zPH → Prop} {K23 : Int → Int → zPH → Prop} (hrT : zisT rT) (hK12 : ∀ (y0 : Int) (σ : zPH), K12 y0 σ → PW G zm_T_resize 0 X 12 [some (zr G rT), none, none, some (iZ y0), none, none] [] σ) (hK23 : ∀ (y0 y1 : Int) (σ : zPH), K23 y0 y1 σ → PW G zm_T_resize 0 X 23 [some (zr G rT), none, none, some (iZ y0), some (iZ y1), none] [] σ) {x3 x4 x5 s0 s1 : Int} {σ : zPH} (h : b_T_resize_72 G rT newColumns newRows X K12 K23 x3 x4 x5 s0 s1 σ) : PW G zm_T_resize 0 X 72 [some (zr G rT), none, none, some (iZ x3), some (iZ x4), some (iZ x5)] [iZ s0, iZ s1, zr G (rT + 1)] σ := by
  unfold b_T_resize_72 at h
  obtain ⟨h0, h⟩ := h
  refine PW_iastore zd_T_resize_72 (zsT_1 hrT) h0 ?_
  have h := h _ rfl
  refine PW_aload_n zd_T_resize_73 rfl ?_
  refine PW_getR zd_T_resize_74 zf_T_9 (zsT_0 hrT) rfl ?_
  refine PW_iload zd_T_resize_77 rfl ?_
  refine PW_iconst zd_T_resize_79 ?_
  refine PW_iadd zd_T_resize_80 ?_
  refine PW_iload zd_T_resize_81 rfl ?_
  refine PW_iconst zd_T_resize_83 ?_
  refine PW_iadd zd_T_resize_84 ?_
  refine PW_aload_n zd_T_resize_85 rfl ?_
  refine PW_getI zd_T_resize_86 zf_T_48 (zsT_0 hrT) rfl ?_
  obtain ⟨h0, hT, hF⟩ := h
  refine PW_icmp_ge zd_T_resize_89 h0 (fun q => ?_) (fun q => ?_)
  · have h := hT q
    refine PW_iconst zd_T_resize_101 ?_
    exact PW_sub (by exact ⟨rfl, rfl, rfl, rfl, trivial⟩) (kb_T_resize_102 hrT hK12 hK23 h)
  · have h := hF q
    refine PW_iload zd_T_resize_92 rfl ?_
    refine PW_iconst zd_T_resize_94 ?_
    refine PW_iadd zd_T_resize_95 ?_
    refine PW_iconst zd_T_resize_96 ?_
    refine PW_iadd zd_T_resize_97 ?_
    refine PW_goto zd_T_resize_98 ?_
    exact PW_sub (by exact ⟨rfl, rfl, rfl, rfl, trivial⟩) (kb_T_resize_102 hrT hK12 hK23 h)
def b_T_resize_23 (G : zG) (rT : Nat) (newColumns newRows : Int) (X : zX) (K12 : Int → zPH → Prop) (K23 : Int → Int → zPH → Prop) (x3 x4 : Int) (σ : zPH) : Prop :=
  (zI x4 ∧ zI (σ rT 0)) ∧
  ((σ rT 0) ≤ x4 →
    K12 (x3 + 1) σ) ∧
  (x4 < (σ rT 0) →
    ∀ x5 : Int, x5 = (((x3 * (σ rT 0)) + x4) * 4) →
    (zI x3) ∧
    (x3 ≤ 0 →
      b_T_resize_72 G rT newColumns newRows X K12 K23 x3 x4 x5 (-1) (x5 + 0) σ) ∧
    (0 < x3 →
      b_T_resize_72 G rT newColumns newRows X K12 K23 x3 x4 x5 ((x5 - ((σ rT 0) * 4)) + 0) (x5 + 0) σ))
set_option maxHeartbeats 4000000 in
theorem kb_T_resize_23 {G : zG} {rT : Nat} {newColumns newRows : Int} {X : zX} {K12 : Int → zPH → Prop} {K23 : Int → Int → zPH → Prop} (hrT : zisT rT) (hK12 : ∀ (y0 : Int) (σ : zPH), K12 y0 σ → PW G zm_T_resize 0 X 12 [some (zr G rT), none, none, some (iZ y0), none, none] [] σ) (hK23 : ∀ (y0 y1 : Int) (σ : zPH), K23 y0 y1 σ → PW G zm_T_resize 0 X 23 [some (zr G rT), none, none, some (iZ y0), some (iZ y1), none] [] σ) {x3 x4 : Int} {σ : zPH} (h : b_T_resize_23 G rT newColumns newRows X K12 K23 x3 x4 σ) : PW G zm_T_resize 0 X 23 [some (zr G rT), none, none, some (iZ x3), some (iZ x4), none] [] σ := by
  unfold b_T_resize_23 at h
  refine PW_iload zd_T_resize_23 rfl ?_
  refine PW_aload_n zd_T_resize_25 rfl ?_
  refine PW_getI zd_T_resize_26 zf_T_48 (zsT_0 hrT) rfl ?_
  obtain ⟨h0, hT, hF⟩ := h
  refine PW_icmp_ge zd_T_resize_29 h0 (fun q => ?_) (fun q => ?_)
  · have h := hT q
    refine PW_iinc zd_T_resize_167 rfl rfl (by decide) (ls2 := [_, _, _, _, _, _]) rfl ?_
    refine PW_goto zd_T_resize_170 ?_
    exact PW_sub (by exact ⟨rfl, rfl, trivial⟩) (hK12 _ _ h)
  · have h := hF q
    refine PW_iload_n zd_T_resize_32 rfl ?_
    refine PW_aload_n zd_T_resize_33 rfl ?_
    refine PW_getI zd_T_resize_34 zf_T_48 (zsT_0 hrT) rfl ?_
    refine PW_imul zd_T_resize_37 ?_
    refine PW_iload zd_T_resize_38 rfl ?_
    refine PW_iadd zd_T_resize_40 ?_
    refine PW_iconst zd_T_resize_41 ?_
    refine PW_imul zd_T_resize_42 ?_
    refine PW_istore zd_T_resize_43 rfl (by decide) (ls2 := [_, _, _, _, _, _]) rfl ?_
    have h := h _ rfl
    refine PW_aload_n zd_T_resize_45 rfl ?_
    refine PW_getR zd_T_resize_46 zf_T_9 (zsT_0 hrT) rfl ?_
    refine PW_iload zd_T_resize_49 rfl ?_
    refine PW_iconst zd_T_resize_51 ?_
    refine PW_iadd zd_T_resize_52 ?_
    refine PW_iload_n zd_T_resize_53 rfl ?_
    obtain ⟨h0, hT, hF⟩ := h
    refine PW_if_le zd_T_resize_54 h0 (fun q => ?_) (fun q => ?_)
    · have h := hT q
      refine PW_iconst zd_T_resize_71 ?_
      exact PW_sub (by exact ⟨rfl, rfl, rfl, rfl, trivial⟩) (kb_T_resize_72 hrT hK12 hK23 h)
    · have h := hF q
      refine PW_iload zd_T_resize_57 rfl ?_
      refine PW_aload_n zd_T_resize_59 rfl ?_
      refine PW_getI zd_T_resize_60 zf_T_48 (zsT_0 hrT) rfl ?_
      refine PW_iconst zd_T_resize_63 ?_
      refine PW_imul zd_T_resize_64 ?_
      refine PW_isub zd_T_resize_65 ?_
      refine PW_iconst zd_T_resize_66 ?_
      refine PW_iadd zd_T_resize_67 ?_
      refine PW_goto zd_T_resize_68 ?_
      exact PW_sub (by exact ⟨rfl, rfl, rfl, rfl, trivial⟩) (kb_T_resize_72 hrT hK12 hK23 h)
theorem kl_T_resize_23 {G : zG} {rT : Nat} {newColumns newRows : Int} {X : zX} {K12 : Int → zPH → Prop} (hrT : zisT rT) (hK12 : ∀ (y0 : Int) (σ : zPH), K12 y0 σ → PW G zm_T_resize 0 X 12 [some (zr G rT), none, none, some (iZ y0), none, none] [] σ) {x3 x4 : Int} {σ : zPH} (h : zLP2 (b_T_resize_23 G rT newColumns newRows X K12) x3 x4 σ) : PW G zm_T_resize 0 X 23 [some (zr G rT), none, none, some (iZ x3), some (iZ x4), none] [] σ := by
  obtain ⟨n, h⟩ := h
  induction n generalizing x3 x4 σ with
  | zero => exact h.elim
  | succ n ih => exact kb_T_resize_23 hrT hK12 (fun _ _ _ h => ih h) h
def b_T_resize_12 (G : zG) (rT : Nat) (newColumns newRows : Int) (X : zX) (K12 : Int → zPH → Prop) (x3 : Int) (σ : zPH) : Prop :=
  (zI x3 ∧ zI (σ rT 1)) ∧
  ((σ rT 1) ≤ x3 →
    X none σ) ∧
  (x3 < (σ rT 1) →
    zLP2 (b_T_resize_23 G rT newColumns newRows X K12) x3 0 σ)
set_option maxHeartbeats 4000000 in
theorem kb_T_resize_12 {G : zG} {rT : Nat} {newColumns newRows : Int} {X : zX} {K12 : Int → zPH → Prop} (hrT : zisT rT) (hK12 : ∀ (y0 : Int) (σ : zPH), K12 y0 σ → PW G zm_T_resize 0 X 12 [some (zr G rT), none, none, some (iZ y0), none, none] [] σ) {x3 : Int} {σ : zPH} (h : b_T_resize_12 G rT newColumns newRows X K12 x3 σ) : PW G zm_T_resize 0 X 12 [some (zr G rT), none, none, some (iZ x3), none, none] [] σ := by
  unfold b_T_resize_12 at h
  refine PW_iload_n zd_T_resize_12 rfl ?_
  refine PW_aload_n zd_T_resize_13 rfl ?_
  refine PW_getI zd_T_resize_14 zf_T_52 (zsT_0 hrT) rfl ?_
  obtain ⟨h0, hT, hF⟩ := h
  refine PW_icmp_ge zd_T_resize_17 h0 (fun q => ?_) (fun q => ?_)
  · have h := hT q
    exact PW_vret zd_T_resize_173 rfl h
  · have h := hF q
    refine PW_iconst zd_T_resize_20 ?_
    refine PW_istore zd_T_resize_21 rfl (by decide) (ls2 := [_, _, _, _, _, _]) rfl ?_
    exact PW_sub (by exact ⟨rfl, rfl, rfl, trivial⟩) (kl_T_resize_23 hrT hK12 h)
theorem kl_T_resize_12 {G : zG} {rT : Nat} {newColumns newRows : Int} {X : zX} (hrT : zisT rT) {x3 : Int} {σ : zPH} (h : zLP1 (b_T_resize_12 G rT newColumns newRows X ) x3 σ) : PW G zm_T_resize 0 X 12 [some (zr G rT), none, none, some (iZ x3), none, none] [] σ := by
  obtain ⟨n, h⟩ := h
  induction n generalizing x3 σ with
  | zero => exact h.elim
  | succ n ih => exact kb_T_resize_12 hrT  (fun _ _ h => ih h) h
def w_T_resize (G : zG) (rT : Nat) (newColumns newRows : Int) (X : zX) (σ : zPH) : Prop :=
  ∀ σ2 : zPH, σ2 = zupd σ rT 0 newColumns →
  ∀ σ7 : zPH, σ7 = zupd σ2 rT 1 newRows →
  zLP1 (b_T_resize_12 G rT newColumns newRows X ) 0 σ7
set_option maxHeartbeats 4000000 in
theorem k_T_resize {G : zG} {rT : Nat} {newColumns newRows : Int} {X : zX} (hrT : zisT rT) {σ : zPH} (h : w_T_resize G rT newColumns newRows X σ) : MS G zm_T_resize 0 [zr G rT, iZ newColumns, iZ newRows] σ X := by
  refine ms_of zk_T_resize (Nat.le_of_ble_eq_true rfl) (ls := [some (zr G rT), some (iZ newColumns), some (iZ newRows), none, none, none]) rfl ?_
  unfold w_T_resize at h
  refine PW_aload_n zd_T_resize_0 rfl ?_
  refine PW_iload_n zd_T_resize_1 rfl ?_
  refine PW_putI zd_T_resize_2 zp_T_48 (zsT_0 hrT) rfl ?_
  have h := h _ rfl
  refine PW_aload_n zd_T_resize_5 rfl ?_
  refine PW_iload_n zd_T_resize_6 rfl ?_
  refine PW_putI zd_T_resize_7 zp_T_52 (zsT_0 hrT) rfl ?_
  have h := h _ rfl
  refine PW_iconst zd_T_resize_10 ?_
  refine PW_istore_n zd_T_resize_11 rfl (by decide) (ls2 := [_, _, _, _, _, _]) rfl ?_
  exact PW_sub (by exact ⟨rfl, rfl, trivial⟩) (kl_T_resize_12 hrT  h)
def b_T_add_141 (G : zG) (rT : Nat) (newSort newLook newWay square : Int) (X : zX) (σ : zPH) : Prop :=
  MS G zm_T_put 0 [zr G rT, iZ (σ rT 4), iZ square] σ (fun v σ148 =>
    v = none ∧
    ∀ σ158 : zPH, σ158 = zupd σ148 rT 4 ((σ148 rT 4) + 1) →
    X none σ158)
set_option maxHeartbeats 4000000 in
theorem kb_T_add_141 {G : zG} {rT : Nat} {newSort newLook newWay square : Int} {X : zX} (hrT : zisT rT) {σ : zPH} (h : b_T_add_141 G rT newSort newLook newWay square X   σ) : PW G zm_T_add 1 X 141 [some (zr G rT), none, none, none, some (iZ square), none] [] σ := by
  unfold b_T_add_141 at h
  refine PW_aload_n zd_T_add_141 rfl ?_
  refine PW_aload_n zd_T_add_142 rfl ?_
  refine PW_getI zd_T_add_143 zf_T_55 (zsT_0 hrT) rfl ?_
  refine PW_iload zd_T_add_146 rfl ?_
  refine PW_callV2v zd_T_add_148 zl_T_75 zk_T_put zv_T_put (fr' := 0) (by decide) (zsT_0 hrT) rfl rfl (Nat.le_of_ble_eq_true rfl) ?_
  refine ms_mono h ?_
  rintro v σ1 ⟨rfl, h⟩
  refine ⟨rfl, ?_⟩
  refine PW_aload_n zd_T_add_151 rfl ?_
  refine PW_dup zd_T_add_152 rfl ?_
  refine PW_getI zd_T_add_153 zf_T_55 (zsT_0 hrT) rfl ?_
  refine PW_iconst zd_T_add_156 ?_
  refine PW_iadd zd_T_add_157 ?_
  refine PW_putI zd_T_add_158 zp_T_55 (zsT_0 hrT) rfl ?_
  have h := h _ rfl
  exact PW_vret zd_T_add_161 rfl h
def b_T_add_86 (G : zG) (rT : Nat) (newSort newLook newWay square : Int) (X : zX) (x5 : Int) (σ : zPH) : Prop :=
  (zI x5) ∧
  (x5 = (-1) →
    b_T_add_141 G rT newSort newLook newWay square X  σ) ∧
  (x5 ≠ (-1) →
    (0 ≤ x5 ∧ x5 < 4) ∧
    (0 ≤ (σ rT 4) ∧ (σ rT 4) < 60) ∧
    ∀ σ107 : zPH, σ107 = zupd σ (rT + 5) (σ rT 4).toNat (σ (rT + 8) x5.toNat) →
    (0 ≤ x5 ∧ x5 < 4) ∧
    (0 ≤ ((x5 * 8) + (σ107 (rT + 8) x5.toNat)) ∧ ((x5 * 8) + (σ107 (rT + 8) x5.toNat)) < 32) ∧
    ∀ σ129 : zPH, σ129 = zupd σ107 (rT + 9) ((x5 * 8) + (σ107 (rT + 8) x5.toNat)).toNat (σ107 rT 4) →
    (0 ≤ x5 ∧ x5 < 4) ∧
    (0 ≤ x5 ∧ x5 < 4) ∧
    ∀ σ140 : zPH, σ140 = zupd σ129 (rT + 8) x5.toNat ((σ129 (rT + 8) x5.toNat) + 1) →
    b_T_add_141 G rT newSort newLook newWay square X  σ140)
set_option maxHeartbeats 4000000 in
theorem kb_T_add_86 {G : zG} {rT : Nat} {newSort newLook newWay square : Int} {X : zX} (hrT : zisT rT) {x5 : Int} {σ : zPH} (h : b_T_add_86 G rT newSort newLook newWay square X  x5 σ) : PW G zm_T_add 1 X 86 [some (zr G rT), none, none, none, some (iZ square), some (iZ x5)] [] σ := by
  unfold b_T_add_86 at h
  refine PW_iload zd_T_add_86 rfl ?_
  refine PW_iconst zd_T_add_88 ?_
  obtain ⟨h0, hT, hF⟩ := h
  refine PW_icmp_eq zd_T_add_89 ⟨h0, by decide⟩ (fun q => ?_) (fun q => ?_)
  · have h := hT q
    exact PW_sub (by exact ⟨rfl, rfl, trivial⟩) (kb_T_add_141 hrT  h)
  · have h := hF q
    refine PW_aload_n zd_T_add_92 rfl ?_
    refine PW_getR zd_T_add_93 zf_T_24 (zsT_0 hrT) rfl ?_
    refine PW_aload_n zd_T_add_96 rfl ?_
    refine PW_getI zd_T_add_97 zf_T_55 (zsT_0 hrT) rfl ?_
    refine PW_aload_n zd_T_add_100 rfl ?_
    refine PW_getR zd_T_add_101 zf_T_33 (zsT_0 hrT) rfl ?_
    refine PW_iload zd_T_add_104 rfl ?_
    obtain ⟨h0, h⟩ := h
    refine PW_iaload zd_T_add_106 (zsT_8 hrT) h0 ?_
    obtain ⟨h0, h⟩ := h
    refine PW_iastore zd_T_add_107 (zsT_5 hrT) h0 ?_
    have h := h _ rfl
    refine PW_aload_n zd_T_add_108 rfl ?_
    refine PW_getR zd_T_add_109 zf_T_36 (zsT_0 hrT) rfl ?_
    refine PW_iload zd_T_add_112 rfl ?_
    refine PW_bipush zd_T_add_114 rfl ?_
    refine PW_imul zd_T_add_116 ?_
    refine PW_aload_n zd_T_add_117 rfl ?_
    refine PW_getR zd_T_add_118 zf_T_33 (zsT_0 hrT) rfl ?_
    refine PW_iload zd_T_add_121 rfl ?_
    obtain ⟨h0, h⟩ := h
    refine PW_iaload zd_T_add_123 (zsT_8 hrT) h0 ?_
    refine PW_iadd zd_T_add_124 ?_
    refine PW_aload_n zd_T_add_125 rfl ?_
    refine PW_getI zd_T_add_126 zf_T_55 (zsT_0 hrT) rfl ?_
    obtain ⟨h0, h⟩ := h
    refine PW_iastore zd_T_add_129 (zsT_9 hrT) h0 ?_
    have h := h _ rfl
    refine PW_aload_n zd_T_add_130 rfl ?_
    refine PW_getR zd_T_add_131 zf_T_33 (zsT_0 hrT) rfl ?_
    refine PW_iload zd_T_add_134 rfl ?_
    refine PW_dup2 zd_T_add_136 rfl rfl ?_
    obtain ⟨h0, h⟩ := h
    refine PW_iaload zd_T_add_137 (zsT_8 hrT) h0 ?_
    refine PW_iconst zd_T_add_138 ?_
    refine PW_iadd zd_T_add_139 ?_
    obtain ⟨h0, h⟩ := h
    refine PW_iastore zd_T_add_140 (zsT_8 hrT) h0 ?_
    have h := h _ rfl
    exact PW_sub (by exact ⟨rfl, rfl, trivial⟩) (kb_T_add_141 hrT  h)
def w_T_add (G : zG) (rT : Nat) (newSort newLook newWay square : Int) (X : zX) (σ : zPH) : Prop :=
  MS G zm_T_groupOf 0 [iZ newSort] σ (fun v σ1 =>
    ∃ z1 : Int, v = some (iZ z1) ∧
    (zI (σ1 rT 4)) ∧
    (59 ≤ (σ1 rT 4) →
      X none σ1) ∧
    ((σ1 rT 4) < 59 →
      MS G zm_T_isFull 0 [zr G rT, iZ z1] σ1 (fun v σ18 =>
        (v = some (iZ 0) ∧
          (0 ≤ (σ18 rT 4) ∧ (σ18 rT 4) < 60) ∧
          ∀ σ34 : zPH, σ34 = zupd σ18 (rT + 4) (σ18 rT 4).toNat newSort →
          (0 ≤ (σ34 rT 4) ∧ (σ34 rT 4) < 60) ∧
          ∀ σ44 : zPH, σ44 = zupd σ34 (rT + 6) (σ34 rT 4).toNat newLook →
          (0 ≤ (σ44 rT 4) ∧ (σ44 rT 4) < 60) ∧
          ∀ σ54 : zPH, σ54 = zupd σ44 (rT + 7) (σ44 rT 4).toNat newWay →
          (0 ≤ (σ54 rT 4) ∧ (σ54 rT 4) < 60) ∧
          ∀ σ64 : zPH, σ64 = zupd σ54 (rT + 5) (σ54 rT 4).toNat (-1) →
          (zI z1) ∧
          (z1 ≠ 2 →
            b_T_add_86 G rT newSort newLook newWay square X  z1 σ64) ∧
          (z1 = 2 →
            (0 ≤ (σ64 (rT + 8) 2) ∧ (σ64 (rT + 8) 2) < 6) ∧
            ∀ σ85 : zPH, σ85 = zupd σ64 (rT + 12) (σ64 (rT + 8) 2).toNat (σ64 rT 14) →
            b_T_add_86 G rT newSort newLook newWay square X  z1 σ85)) ∨
        (v = some (iZ 1) ∧
          X none σ18))))
set_option maxHeartbeats 4000000 in
theorem k_T_add {G : zG} {rT : Nat} {newSort newLook newWay square : Int} {X : zX} (hrT : zisT rT) {σ : zPH} (h : w_T_add G rT newSort newLook newWay square X σ) : MS G zm_T_add 1 [zr G rT, iZ newSort, iZ newLook, iZ newWay, iZ square] σ X := by
  refine ms_of zk_T_add (Nat.le_of_ble_eq_true rfl) (ls := [some (zr G rT), some (iZ newSort), some (iZ newLook), some (iZ newWay), some (iZ square), none]) rfl ?_
  unfold w_T_add at h
  refine PW_iload_n zd_T_add_0 rfl ?_
  refine PW_callS1i zd_T_add_1 zl_T_67 zk_T_groupOf zv_T_groupOf (fr' := 0) (by decide) (Nat.le_of_ble_eq_true rfl) ?_
  refine ms_mono h ?_
  rintro v σ1 ⟨z, rfl, h⟩
  refine ⟨z, rfl, ?_⟩
  refine PW_istore zd_T_add_4 rfl (by decide) (ls2 := [_, _, _, _, _, _]) rfl ?_
  refine PW_aload_n zd_T_add_6 rfl ?_
  refine PW_getI zd_T_add_7 zf_T_55 (zsT_0 hrT) rfl ?_
  refine PW_bipush zd_T_add_10 rfl ?_
  obtain ⟨h0, hT, hF⟩ := h
  refine PW_icmp_ge zd_T_add_12 ⟨h0, by decide⟩ (fun q => ?_) (fun q => ?_)
  · have h := hT q
    exact PW_vret zd_T_add_24 rfl h
  · have h := hF q
    refine PW_aload_n zd_T_add_15 rfl ?_
    refine PW_iload zd_T_add_16 rfl ?_
    refine PW_callV1i zd_T_add_18 zl_T_71 zk_T_isFull zv_T_isFull (fr' := 0) (by decide) (zsT_0 hrT) rfl rfl (Nat.le_of_ble_eq_true rfl) ?_
    refine ms_mono h ?_
    rintro v σ1 (⟨rfl, h⟩ | ⟨rfl, h⟩)
    · refine ⟨0, rfl, ?_⟩
      refine PW_if_eq zd_T_add_21 (by decide) (fun _ => ?_) (fun q => absurd rfl q)
      refine PW_aload_n zd_T_add_25 rfl ?_
      refine PW_getR zd_T_add_26 zf_T_21 (zsT_0 hrT) rfl ?_
      refine PW_aload_n zd_T_add_29 rfl ?_
      refine PW_getI zd_T_add_30 zf_T_55 (zsT_0 hrT) rfl ?_
      refine PW_iload_n zd_T_add_33 rfl ?_
      obtain ⟨h0, h⟩ := h
      refine PW_iastore zd_T_add_34 (zsT_4 hrT) h0 ?_
      have h := h _ rfl
      refine PW_aload_n zd_T_add_35 rfl ?_
      refine PW_getR zd_T_add_36 zf_T_27 (zsT_0 hrT) rfl ?_
      refine PW_aload_n zd_T_add_39 rfl ?_
      refine PW_getI zd_T_add_40 zf_T_55 (zsT_0 hrT) rfl ?_
      refine PW_iload_n zd_T_add_43 rfl ?_
      obtain ⟨h0, h⟩ := h
      refine PW_iastore zd_T_add_44 (zsT_6 hrT) h0 ?_
      have h := h _ rfl
      refine PW_aload_n zd_T_add_45 rfl ?_
      refine PW_getR zd_T_add_46 zf_T_30 (zsT_0 hrT) rfl ?_
      refine PW_aload_n zd_T_add_49 rfl ?_
      refine PW_getI zd_T_add_50 zf_T_55 (zsT_0 hrT) rfl ?_
      refine PW_iload_n zd_T_add_53 rfl ?_
      obtain ⟨h0, h⟩ := h
      refine PW_iastore zd_T_add_54 (zsT_7 hrT) h0 ?_
      have h := h _ rfl
      refine PW_aload_n zd_T_add_55 rfl ?_
      refine PW_getR zd_T_add_56 zf_T_24 (zsT_0 hrT) rfl ?_
      refine PW_aload_n zd_T_add_59 rfl ?_
      refine PW_getI zd_T_add_60 zf_T_55 (zsT_0 hrT) rfl ?_
      refine PW_iconst zd_T_add_63 ?_
      obtain ⟨h0, h⟩ := h
      refine PW_iastore zd_T_add_64 (zsT_5 hrT) h0 ?_
      have h := h _ rfl
      refine PW_iload zd_T_add_65 rfl ?_
      refine PW_iconst zd_T_add_67 ?_
      obtain ⟨h0, hT, hF⟩ := h
      refine PW_icmp_ne zd_T_add_68 ⟨h0, by decide⟩ (fun q => ?_) (fun q => ?_)
      · have h := hT q
        exact PW_sub (by exact ⟨rfl, rfl, rfl, trivial⟩) (kb_T_add_86 hrT  h)
      · have h := hF q
        refine PW_aload_n zd_T_add_71 rfl ?_
        refine PW_getR zd_T_add_72 zf_T_45 (zsT_0 hrT) rfl ?_
        refine PW_aload_n zd_T_add_75 rfl ?_
        refine PW_getR zd_T_add_76 zf_T_33 (zsT_0 hrT) rfl ?_
        refine PW_iconst zd_T_add_79 ?_
        refine PW_iaload zd_T_add_80 (zsT_8 hrT) (by decide) ?_
        refine PW_aload_n zd_T_add_81 rfl ?_
        refine PW_getI zd_T_add_82 zf_T_58 (zsT_0 hrT) rfl ?_
        obtain ⟨h0, h⟩ := h
        refine PW_iastore zd_T_add_85 (zsT_12 hrT) h0 ?_
        have h := h _ rfl
        exact PW_sub (by exact ⟨rfl, rfl, rfl, trivial⟩) (kb_T_add_86 hrT  h)
    · refine ⟨1, rfl, ?_⟩
      refine PW_if_eq zd_T_add_21 (by decide) (fun q => absurd q (by decide)) (fun _ => ?_)
      exact PW_vret zd_T_add_24 rfl h
def w_T_groupOf (G : zG) (sort : Int) (X : zX) (σ : zPH) : Prop :=
  zI sort ∧
  (sort = 1 →
    X (some (iZ 0)) σ) ∧
  (sort = 2 ∨ sort = 3 →
    X (some (iZ 1)) σ) ∧
  (sort = 7 →
    X (some (iZ 3)) σ) ∧
  (sort = 8 ∨ sort = 9 →
    X (some (iZ 2)) σ) ∧
  ((sort < 1 ∨ 9 < sort ∨ sort = 4 ∨ sort = 5 ∨ sort = 6) →
    X (some (iZ (-1))) σ)
set_option maxHeartbeats 4000000 in
theorem k_T_groupOf {G : zG} {sort : Int} {X : zX} {σ : zPH} (h : w_T_groupOf G sort X σ) : MS G zm_T_groupOf 0 [iZ sort] σ X := by
  refine ms_of zk_T_groupOf (Nat.le_of_ble_eq_true rfl) (ls := [some (iZ sort)]) rfl ?_
  unfold w_T_groupOf at h
  refine PW_iload_n zd_T_groupOf_0 rfl ?_
  obtain ⟨h0, h⟩ := h
  obtain ⟨hc0, hc1, hc2, hc3, hcd⟩ := h
  refine PW_tsplit 1 9 (fun c hx hlo hhi => ?_) (fun hx => ?_)
  · rcases (show c = 1 ∨ c = 2 ∨ c = 3 ∨ c = 4 ∨ c = 5 ∨ c = 6 ∨ c = 7 ∨ c = 8 ∨ c = 9 by omega) with rfl | rfl | rfl | rfl | rfl | rfl | rfl | rfl | rfl
    · refine PW_tsin (tgt := 52) zd_T_groupOf_1 1 hx (by decide) rfl (by decide) ?_
      have h := hc0 (by omega)
      refine PW_iconst zd_T_groupOf_52 ?_
      exact PW_iret zd_T_groupOf_53 rfl h
    · refine PW_tsin (tgt := 54) zd_T_groupOf_1 2 hx (by decide) rfl (by decide) ?_
      have h := hc1 (by omega)
      refine PW_iconst zd_T_groupOf_54 ?_
      exact PW_iret zd_T_groupOf_55 rfl h
    · refine PW_tsin (tgt := 54) zd_T_groupOf_1 3 hx (by decide) rfl (by decide) ?_
      have h := hc1 (by omega)
      refine PW_iconst zd_T_groupOf_54 ?_
      exact PW_iret zd_T_groupOf_55 rfl h
    · refine PW_tsin (tgt := 60) zd_T_groupOf_1 4 hx (by decide) rfl (by decide) ?_
      have h := hcd (by omega)
      refine PW_iconst zd_T_groupOf_60 ?_
      exact PW_iret zd_T_groupOf_61 rfl h
    · refine PW_tsin (tgt := 60) zd_T_groupOf_1 5 hx (by decide) rfl (by decide) ?_
      have h := hcd (by omega)
      refine PW_iconst zd_T_groupOf_60 ?_
      exact PW_iret zd_T_groupOf_61 rfl h
    · refine PW_tsin (tgt := 60) zd_T_groupOf_1 6 hx (by decide) rfl (by decide) ?_
      have h := hcd (by omega)
      refine PW_iconst zd_T_groupOf_60 ?_
      exact PW_iret zd_T_groupOf_61 rfl h
    · refine PW_tsin (tgt := 58) zd_T_groupOf_1 7 hx (by decide) rfl (by decide) ?_
      have h := hc2 (by omega)
      refine PW_iconst zd_T_groupOf_58 ?_
      exact PW_iret zd_T_groupOf_59 rfl h
    · refine PW_tsin (tgt := 56) zd_T_groupOf_1 8 hx (by decide) rfl (by decide) ?_
      have h := hc3 (by omega)
      refine PW_iconst zd_T_groupOf_56 ?_
      exact PW_iret zd_T_groupOf_57 rfl h
    · refine PW_tsin (tgt := 56) zd_T_groupOf_1 9 hx (by decide) rfl (by decide) ?_
      have h := hc3 (by omega)
      refine PW_iconst zd_T_groupOf_56 ?_
      exact PW_iret zd_T_groupOf_57 rfl h
  · refine PW_tsout (tgt := 60) zd_T_groupOf_1 (by omega) (by decide) ?_
    have h := hcd (by omega)
    refine PW_iconst zd_T_groupOf_60 ?_
    exact PW_iret zd_T_groupOf_61 rfl h
def b_T_isFull_23 (G : zG) (rT : Nat) (group : Int) (X : zX) (s0 s1 : Int) (σ : zPH) : Prop :=
  (zI s1 ∧ zI s0) ∧
  (s1 < s0 →
    X (some (iZ 0)) σ) ∧
  (s0 ≤ s1 →
    X (some (iZ 1)) σ)
set_option maxHeartbeats 4000000 in
theorem kb_T_isFull_23 {G : zG} {rT : Nat} {group : Int} {X : zX} (hrT : zisT rT) {s0 s1 : Int} {σ : zPH} (h : b_T_isFull_23 G rT group X  s0 s1 σ) : PW G zm_T_isFull 0 X 23 [none, none] [iZ s0, iZ s1] σ := by
  unfold b_T_isFull_23 at h
  obtain ⟨h0, hT, hF⟩ := h
  refine PW_icmp_lt zd_T_isFull_23 h0 (fun q => ?_) (fun q => ?_)
  · have h := hT q
    refine PW_iconst zd_T_isFull_30 ?_
    exact PW_zret zd_T_isFull_31 rfl (by decide) h
  · have h := hF q
    refine PW_iconst zd_T_isFull_26 ?_
    refine PW_goto zd_T_isFull_27 ?_
    exact PW_zret zd_T_isFull_31 rfl (by decide) h
def w_T_isFull (G : zG) (rT : Nat) (group : Int) (X : zX) (σ : zPH) : Prop :=
  (zI group) ∧
  (group = (-1) →
    X (some (iZ 0)) σ) ∧
  (group ≠ (-1) →
    (0 ≤ group ∧ group < 4) ∧
    (zI group) ∧
    (group ≠ 2 →
      b_T_isFull_23 G rT group X  8 (σ (rT + 8) group.toNat) σ) ∧
    (group = 2 →
      b_T_isFull_23 G rT group X  6 (σ (rT + 8) group.toNat) σ))
set_option maxHeartbeats 4000000 in
theorem k_T_isFull {G : zG} {rT : Nat} {group : Int} {X : zX} (hrT : zisT rT) {σ : zPH} (h : w_T_isFull G rT group X σ) : MS G zm_T_isFull 0 [zr G rT, iZ group] σ X := by
  refine ms_of zk_T_isFull (Nat.le_of_ble_eq_true rfl) (ls := [some (zr G rT), some (iZ group)]) rfl ?_
  unfold w_T_isFull at h
  refine PW_iload_n zd_T_isFull_0 rfl ?_
  refine PW_iconst zd_T_isFull_1 ?_
  obtain ⟨h0, hT, hF⟩ := h
  refine PW_icmp_eq zd_T_isFull_2 ⟨h0, by decide⟩ (fun q => ?_) (fun q => ?_)
  · have h := hT q
    refine PW_iconst zd_T_isFull_30 ?_
    exact PW_zret zd_T_isFull_31 rfl (by decide) h
  · have h := hF q
    refine PW_aload_n zd_T_isFull_5 rfl ?_
    refine PW_getR zd_T_isFull_6 zf_T_33 (zsT_0 hrT) rfl ?_
    refine PW_iload_n zd_T_isFull_9 rfl ?_
    obtain ⟨h0, h⟩ := h
    refine PW_iaload zd_T_isFull_10 (zsT_8 hrT) h0 ?_
    refine PW_iload_n zd_T_isFull_11 rfl ?_
    refine PW_iconst zd_T_isFull_12 ?_
    obtain ⟨h0, hT, hF⟩ := h
    refine PW_icmp_ne zd_T_isFull_13 ⟨h0, by decide⟩ (fun q => ?_) (fun q => ?_)
    · have h := hT q
      refine PW_bipush zd_T_isFull_21 rfl ?_
      exact PW_sub (by exact trivial) (kb_T_isFull_23 hrT  h)
    · have h := hF q
      refine PW_bipush zd_T_isFull_16 rfl ?_
      refine PW_goto zd_T_isFull_18 ?_
      exact PW_sub (by exact trivial) (kb_T_isFull_23 hrT  h)
def b_T_put_29 (G : zG) (rT : Nat) (piece square : Int) (X : zX) (σ : zPH) : Prop :=
  (0 ≤ square ∧ square < 144) ∧
  ∀ σ35 : zPH, σ35 = zupd σ (rT + 2) square.toNat piece →
  (zI piece) ∧
  (piece = (-1) →
    X none σ35) ∧
  (piece ≠ (-1) →
    (0 ≤ piece ∧ piece < 60) ∧
    ∀ σ47 : zPH, σ47 = zupd σ35 (rT + 3) piece.toNat square →
    X none σ47)
set_option maxHeartbeats 4000000 in
theorem kb_T_put_29 {G : zG} {rT : Nat} {piece square : Int} {X : zX} (hrT : zisT rT) {σ : zPH} (h : b_T_put_29 G rT piece square X   σ) : PW G zm_T_put 0 X 29 [some (zr G rT), some (iZ piece), some (iZ square), none] [] σ := by
  unfold b_T_put_29 at h
  refine PW_aload_n zd_T_put_29 rfl ?_
  refine PW_getR zd_T_put_30 zf_T_15 (zsT_0 hrT) rfl ?_
  refine PW_iload_n zd_T_put_33 rfl ?_
  refine PW_iload_n zd_T_put_34 rfl ?_
  obtain ⟨h0, h⟩ := h
  refine PW_iastore zd_T_put_35 (zsT_2 hrT) h0 ?_
  have h := h _ rfl
  refine PW_iload_n zd_T_put_36 rfl ?_
  refine PW_iconst zd_T_put_37 ?_
  obtain ⟨h0, hT, hF⟩ := h
  refine PW_icmp_eq zd_T_put_38 ⟨h0, by decide⟩ (fun q => ?_) (fun q => ?_)
  · have h := hT q
    exact PW_vret zd_T_put_48 rfl h
  · have h := hF q
    refine PW_aload_n zd_T_put_41 rfl ?_
    refine PW_getR zd_T_put_42 zf_T_18 (zsT_0 hrT) rfl ?_
    refine PW_iload_n zd_T_put_45 rfl ?_
    refine PW_iload_n zd_T_put_46 rfl ?_
    obtain ⟨h0, h⟩ := h
    refine PW_iastore zd_T_put_47 (zsT_3 hrT) h0 ?_
    have h := h _ rfl
    exact PW_vret zd_T_put_48 rfl h
def w_T_put (G : zG) (rT : Nat) (piece square : Int) (X : zX) (σ : zPH) : Prop :=
  (0 ≤ square ∧ square < 144) ∧
  ∀ x3 : Int, x3 = (σ (rT + 2) square.toNat) →
  (zI x3) ∧
  (x3 = (-1) →
    b_T_put_29 G rT piece square X  σ) ∧
  (x3 ≠ (-1) →
    (0 ≤ x3 ∧ x3 < 60) ∧
    (zI (σ (rT + 3) x3.toNat) ∧ zI square) ∧
    ((σ (rT + 3) x3.toNat) ≠ square →
      b_T_put_29 G rT piece square X  σ) ∧
    ((σ (rT + 3) x3.toNat) = square →
      (0 ≤ x3 ∧ x3 < 60) ∧
      ∀ σ28 : zPH, σ28 = zupd σ (rT + 3) x3.toNat (-1) →
      b_T_put_29 G rT piece square X  σ28))
set_option maxHeartbeats 4000000 in
theorem k_T_put {G : zG} {rT : Nat} {piece square : Int} {X : zX} (hrT : zisT rT) {σ : zPH} (h : w_T_put G rT piece square X σ) : MS G zm_T_put 0 [zr G rT, iZ piece, iZ square] σ X := by
  refine ms_of zk_T_put (Nat.le_of_ble_eq_true rfl) (ls := [some (zr G rT), some (iZ piece), some (iZ square), none]) rfl ?_
  unfold w_T_put at h
  refine PW_aload_n zd_T_put_0 rfl ?_
  refine PW_getR zd_T_put_1 zf_T_15 (zsT_0 hrT) rfl ?_
  refine PW_iload_n zd_T_put_4 rfl ?_
  obtain ⟨h0, h⟩ := h
  refine PW_iaload zd_T_put_5 (zsT_2 hrT) h0 ?_
  refine PW_istore_n zd_T_put_6 rfl (by decide) (ls2 := [_, _, _, _]) rfl ?_
  have h := h _ rfl
  refine PW_iload_n zd_T_put_7 rfl ?_
  refine PW_iconst zd_T_put_8 ?_
  obtain ⟨h0, hT, hF⟩ := h
  refine PW_icmp_eq zd_T_put_9 ⟨h0, by decide⟩ (fun q => ?_) (fun q => ?_)
  · have h := hT q
    exact PW_sub (by exact ⟨rfl, rfl, rfl, trivial⟩) (kb_T_put_29 hrT  h)
  · have h := hF q
    refine PW_aload_n zd_T_put_12 rfl ?_
    refine PW_getR zd_T_put_13 zf_T_18 (zsT_0 hrT) rfl ?_
    refine PW_iload_n zd_T_put_16 rfl ?_
    obtain ⟨h0, h⟩ := h
    refine PW_iaload zd_T_put_17 (zsT_3 hrT) h0 ?_
    refine PW_iload_n zd_T_put_18 rfl ?_
    obtain ⟨h0, hT, hF⟩ := h
    refine PW_icmp_ne zd_T_put_19 h0 (fun q => ?_) (fun q => ?_)
    · have h := hT q
      exact PW_sub (by exact ⟨rfl, rfl, rfl, trivial⟩) (kb_T_put_29 hrT  h)
    · have h := hF q
      refine PW_aload_n zd_T_put_22 rfl ?_
      refine PW_getR zd_T_put_23 zf_T_18 (zsT_0 hrT) rfl ?_
      refine PW_iload_n zd_T_put_26 rfl ?_
      refine PW_iconst zd_T_put_27 ?_
      obtain ⟨h0, h⟩ := h
      refine PW_iastore zd_T_put_28 (zsT_3 hrT) h0 ?_
      have h := h _ rfl
      exact PW_sub (by exact ⟨rfl, rfl, rfl, trivial⟩) (kb_T_put_29 hrT  h)
def b_T_squareAt_29 (G : zG) (rT : Nat) (column row : Int) (X : zX) (s0 : Int) (σ : zPH) : Prop :=
  (zI s0) ∧
  (s0 = 0 →
    X (some (iZ (-1))) σ) ∧
  (s0 ≠ 0 →
    X (some (iZ ((row * (σ rT 0)) + column))) σ)
set_option maxHeartbeats 4000000 in
theorem kb_T_squareAt_29 {G : zG} {rT : Nat} {column row : Int} {X : zX} (hrT : zisT rT) {s0 : Int} {σ : zPH} (h : b_T_squareAt_29 G rT column row X  s0 σ) : PW G zm_T_squareAt 0 X 29 [some (zr G rT), some (iZ column), some (iZ row), none] [iZ s0] σ := by
  unfold b_T_squareAt_29 at h
  refine PW_istore_n zd_T_squareAt_29 rfl (by decide) (ls2 := [_, _, _, _]) rfl ?_
  refine PW_iload_n zd_T_squareAt_30 rfl ?_
  obtain ⟨h0, hT, hF⟩ := h
  refine PW_if_eq zd_T_squareAt_31 h0 (fun q => ?_) (fun q => ?_)
  · have h := hT q
    refine PW_iconst zd_T_squareAt_45 ?_
    exact PW_iret zd_T_squareAt_46 rfl h
  · have h := hF q
    refine PW_iload_n zd_T_squareAt_34 rfl ?_
    refine PW_aload_n zd_T_squareAt_35 rfl ?_
    refine PW_getI zd_T_squareAt_36 zf_T_48 (zsT_0 hrT) rfl ?_
    refine PW_imul zd_T_squareAt_39 ?_
    refine PW_iload_n zd_T_squareAt_40 rfl ?_
    refine PW_iadd zd_T_squareAt_41 ?_
    refine PW_goto zd_T_squareAt_42 ?_
    exact PW_iret zd_T_squareAt_46 rfl h
def b_T_squareAt_28 (G : zG) (rT : Nat) (column row : Int) (X : zX) (σ : zPH) : Prop :=
  b_T_squareAt_29 G rT column row X  0 σ
set_option maxHeartbeats 4000000 in
theorem kb_T_squareAt_28 {G : zG} {rT : Nat} {column row : Int} {X : zX} (hrT : zisT rT) {σ : zPH} (h : b_T_squareAt_28 G rT column row X   σ) : PW G zm_T_squareAt 0 X 28 [some (zr G rT), some (iZ column), some (iZ row), none] [] σ := by
  unfold b_T_squareAt_28 at h
  refine PW_iconst zd_T_squareAt_28 ?_
  exact PW_sub (by exact ⟨rfl, rfl, rfl, trivial⟩) (kb_T_squareAt_29 hrT  h)
def w_T_squareAt (G : zG) (rT : Nat) (column row : Int) (X : zX) (σ : zPH) : Prop :=
  (zI column) ∧
  (column < 0 →
    b_T_squareAt_28 G rT column row X  σ) ∧
  (0 ≤ column →
    (zI column ∧ zI (σ rT 0)) ∧
    ((σ rT 0) ≤ column →
      b_T_squareAt_28 G rT column row X  σ) ∧
    (column < (σ rT 0) →
      (zI row) ∧
      (row < 0 →
        b_T_squareAt_28 G rT column row X  σ) ∧
      (0 ≤ row →
        (zI row ∧ zI (σ rT 1)) ∧
        ((σ rT 1) ≤ row →
          b_T_squareAt_28 G rT column row X  σ) ∧
        (row < (σ rT 1) →
          b_T_squareAt_29 G rT column row X  1 σ))))
set_option maxHeartbeats 4000000 in
theorem k_T_squareAt {G : zG} {rT : Nat} {column row : Int} {X : zX} (hrT : zisT rT) {σ : zPH} (h : w_T_squareAt G rT column row X σ) : MS G zm_T_squareAt 0 [zr G rT, iZ column, iZ row] σ X := by
  refine ms_of zk_T_squareAt (Nat.le_of_ble_eq_true rfl) (ls := [some (zr G rT), some (iZ column), some (iZ row), none]) rfl ?_
  unfold w_T_squareAt at h
  refine PW_iload_n zd_T_squareAt_0 rfl ?_
  obtain ⟨h0, hT, hF⟩ := h
  refine PW_if_lt zd_T_squareAt_1 h0 (fun q => ?_) (fun q => ?_)
  · have h := hT q
    exact PW_sub (by exact ⟨rfl, rfl, rfl, trivial⟩) (kb_T_squareAt_28 hrT  h)
  · have h := hF q
    refine PW_iload_n zd_T_squareAt_4 rfl ?_
    refine PW_aload_n zd_T_squareAt_5 rfl ?_
    refine PW_getI zd_T_squareAt_6 zf_T_48 (zsT_0 hrT) rfl ?_
    obtain ⟨h0, hT, hF⟩ := h
    refine PW_icmp_ge zd_T_squareAt_9 h0 (fun q => ?_) (fun q => ?_)
    · have h := hT q
      exact PW_sub (by exact ⟨rfl, rfl, rfl, trivial⟩) (kb_T_squareAt_28 hrT  h)
    · have h := hF q
      refine PW_iload_n zd_T_squareAt_12 rfl ?_
      obtain ⟨h0, hT, hF⟩ := h
      refine PW_if_lt zd_T_squareAt_13 h0 (fun q => ?_) (fun q => ?_)
      · have h := hT q
        exact PW_sub (by exact ⟨rfl, rfl, rfl, trivial⟩) (kb_T_squareAt_28 hrT  h)
      · have h := hF q
        refine PW_iload_n zd_T_squareAt_16 rfl ?_
        refine PW_aload_n zd_T_squareAt_17 rfl ?_
        refine PW_getI zd_T_squareAt_18 zf_T_52 (zsT_0 hrT) rfl ?_
        obtain ⟨h0, hT, hF⟩ := h
        refine PW_icmp_ge zd_T_squareAt_21 h0 (fun q => ?_) (fun q => ?_)
        · have h := hT q
          exact PW_sub (by exact ⟨rfl, rfl, rfl, trivial⟩) (kb_T_squareAt_28 hrT  h)
        · have h := hF q
          refine PW_iconst zd_T_squareAt_24 ?_
          refine PW_goto zd_T_squareAt_25 ?_
          exact PW_sub (by exact ⟨rfl, rfl, rfl, trivial⟩) (kb_T_squareAt_29 hrT  h)
def w_T_pieceOf (G : zG) (rT : Nat) (group numberInGroup : Int) (X : zX) (σ : zPH) : Prop :=
  (0 ≤ ((group * 8) + numberInGroup) ∧ ((group * 8) + numberInGroup) < 32) ∧
  X (some (iZ (σ (rT + 9) ((group * 8) + numberInGroup).toNat))) σ
set_option maxHeartbeats 4000000 in
theorem k_T_pieceOf {G : zG} {rT : Nat} {group numberInGroup : Int} {X : zX} (hrT : zisT rT) {σ : zPH} (h : w_T_pieceOf G rT group numberInGroup X σ) : MS G zm_T_pieceOf 0 [zr G rT, iZ group, iZ numberInGroup] σ X := by
  refine ms_of zk_T_pieceOf (Nat.le_of_ble_eq_true rfl) (ls := [some (zr G rT), some (iZ group), some (iZ numberInGroup)]) rfl ?_
  unfold w_T_pieceOf at h
  refine PW_aload_n zd_T_pieceOf_0 rfl ?_
  refine PW_getR zd_T_pieceOf_1 zf_T_36 (zsT_0 hrT) rfl ?_
  refine PW_iload_n zd_T_pieceOf_4 rfl ?_
  refine PW_bipush zd_T_pieceOf_5 rfl ?_
  refine PW_imul zd_T_pieceOf_7 ?_
  refine PW_iload_n zd_T_pieceOf_8 rfl ?_
  refine PW_iadd zd_T_pieceOf_9 ?_
  obtain ⟨h0, h⟩ := h
  refine PW_iaload zd_T_pieceOf_10 (zsT_9 hrT) h0 ?_
  exact PW_iret zd_T_pieceOf_11 rfl h
def w_T_squareOf (G : zG) (rT : Nat) (group numberInGroup : Int) (X : zX) (σ : zPH) : Prop :=
  MS G zm_T_pieceOf 0 [zr G rT, iZ group, iZ numberInGroup] σ (fun v σ7 =>
    ∃ z7 : Int, v = some (iZ z7) ∧
    (0 ≤ z7 ∧ z7 < 60) ∧
    X (some (iZ (σ7 (rT + 3) z7.toNat))) σ7)
set_option maxHeartbeats 4000000 in
theorem k_T_squareOf {G : zG} {rT : Nat} {group numberInGroup : Int} {X : zX} (hrT : zisT rT) {σ : zPH} (h : w_T_squareOf G rT group numberInGroup X σ) : MS G zm_T_squareOf 1 [zr G rT, iZ group, iZ numberInGroup] σ X := by
  refine ms_of zk_T_squareOf (Nat.le_of_ble_eq_true rfl) (ls := [some (zr G rT), some (iZ group), some (iZ numberInGroup)]) rfl ?_
  unfold w_T_squareOf at h
  refine PW_aload_n zd_T_squareOf_0 rfl ?_
  refine PW_getR zd_T_squareOf_1 zf_T_18 (zsT_0 hrT) rfl ?_
  refine PW_aload_n zd_T_squareOf_4 rfl ?_
  refine PW_iload_n zd_T_squareOf_5 rfl ?_
  refine PW_iload_n zd_T_squareOf_6 rfl ?_
  refine PW_callV2i zd_T_squareOf_7 zl_T_79 zk_T_pieceOf zv_T_pieceOf (fr' := 0) (by decide) (zsT_0 hrT) rfl rfl (Nat.le_of_ble_eq_true rfl) ?_
  refine ms_mono h ?_
  rintro v σ1 ⟨z, rfl, h⟩
  refine ⟨z, rfl, ?_⟩
  obtain ⟨h0, h⟩ := h
  refine PW_iaload zd_T_squareOf_10 (zsT_3 hrT) h0 ?_
  exact PW_iret zd_T_squareOf_11 rfl h
def w_T_lookNow (G : zG) (rT : Nat) (piece turned state : Int) (X : zX) (σ : zPH) : Prop :=
  (0 ≤ piece ∧ piece < 60) ∧
  zI (σ (rT + 4) piece.toNat) ∧
  ((σ (rT + 4) piece.toNat) = 2 ∨ (σ (rT + 4) piece.toNat) = 3 →
    (0 ≤ piece ∧ piece < 60) ∧
    (zI (σ (rT + 5) piece.toNat)) ∧
    ((σ (rT + 5) piece.toNat) ≠ (-1) →
      (0 ≤ piece ∧ piece < 60) ∧
      (0 ≤ piece ∧ piece < 60) ∧
      (zI turned ∧ 0 ≤ (σ (rT + 5) piece.toNat) ∧ (σ (rT + 5) piece.toNat) < 32) ∧
      (0 ≤ (σ (rT + 6) piece.toNat) ∧ 0 ≤ ((turned / 2 ^ (σ (rT + 5) piece.toNat).toNat) % 2)) ∧
      X (some (iZ (zxor (σ (rT + 6) piece.toNat) ((turned / 2 ^ (σ (rT + 5) piece.toNat).toNat) % 2)))) σ) ∧
    ((σ (rT + 5) piece.toNat) = (-1) →
      (0 ≤ piece ∧ piece < 60) ∧
      X (some (iZ (σ (rT + 6) piece.toNat))) σ)) ∧
  ((σ (rT + 4) piece.toNat) = 8 ∨ (σ (rT + 4) piece.toNat) = 9 →
    (0 ≤ piece ∧ piece < 60) ∧
    (0 ≤ piece ∧ piece < 60) ∧
    (zI state ∧ 0 ≤ (σ (rT + 5) piece.toNat) ∧ (σ (rT + 5) piece.toNat) < 32) ∧
    (0 ≤ (σ (rT + 6) piece.toNat) ∧ 0 ≤ ((state / 2 ^ (σ (rT + 5) piece.toNat).toNat) % 2)) ∧
    X (some (iZ (zxor (σ (rT + 6) piece.toNat) ((state / 2 ^ (σ (rT + 5) piece.toNat).toNat) % 2)))) σ) ∧
  (((σ (rT + 4) piece.toNat) < 2 ∨ 9 < (σ (rT + 4) piece.toNat) ∨ (σ (rT + 4) piece.toNat) = 4 ∨ (σ (rT + 4) piece.toNat) = 5 ∨ (σ (rT + 4) piece.toNat) = 6 ∨ (σ (rT + 4) piece.toNat) = 7) →
    (0 ≤ piece ∧ piece < 60) ∧
    X (some (iZ (σ (rT + 6) piece.toNat))) σ)
set_option maxHeartbeats 4000000 in
theorem k_T_lookNow {G : zG} {rT : Nat} {piece turned state : Int} {X : zX} (hrT : zisT rT) {σ : zPH} (h : w_T_lookNow G rT piece turned state X σ) : MS G zm_T_lookNow 0 [zr G rT, iZ piece, iZ turned, iZ state] σ X := by
  refine ms_of zk_T_lookNow (Nat.le_of_ble_eq_true rfl) (ls := [some (zr G rT), some (iZ piece), some (iZ turned), some (iZ state)]) rfl ?_
  unfold w_T_lookNow at h
  refine PW_aload_n zd_T_lookNow_0 rfl ?_
  refine PW_getR zd_T_lookNow_1 zf_T_21 (zsT_0 hrT) rfl ?_
  refine PW_iload_n zd_T_lookNow_4 rfl ?_
  obtain ⟨h0, h⟩ := h
  refine PW_iaload zd_T_lookNow_5 (zsT_4 hrT) h0 ?_
  obtain ⟨h0, h⟩ := h
  obtain ⟨hc0, hc1, hcd⟩ := h
  refine PW_tsplit 2 9 (fun c hx hlo hhi => ?_) (fun hx => ?_)
  · rcases (show c = 2 ∨ c = 3 ∨ c = 4 ∨ c = 5 ∨ c = 6 ∨ c = 7 ∨ c = 8 ∨ c = 9 by omega) with rfl | rfl | rfl | rfl | rfl | rfl | rfl | rfl
    · refine PW_tsin (tgt := 52) zd_T_lookNow_6 2 hx (by decide) rfl (by decide) ?_
      have h := hc0 (by omega)
      refine PW_aload_n zd_T_lookNow_52 rfl ?_
      refine PW_getR zd_T_lookNow_53 zf_T_24 (zsT_0 hrT) rfl ?_
      refine PW_iload_n zd_T_lookNow_56 rfl ?_
      obtain ⟨h0, h⟩ := h
      refine PW_iaload zd_T_lookNow_57 (zsT_5 hrT) h0 ?_
      refine PW_iconst zd_T_lookNow_58 ?_
      obtain ⟨h0, hT, hF⟩ := h
      refine PW_icmp_ne zd_T_lookNow_59 ⟨h0, by decide⟩ (fun q => ?_) (fun q => ?_)
      · have h := hT q
        refine PW_aload_n zd_T_lookNow_71 rfl ?_
        refine PW_getR zd_T_lookNow_72 zf_T_27 (zsT_0 hrT) rfl ?_
        refine PW_iload_n zd_T_lookNow_75 rfl ?_
        obtain ⟨h0, h⟩ := h
        refine PW_iaload zd_T_lookNow_76 (zsT_6 hrT) h0 ?_
        refine PW_iload_n zd_T_lookNow_77 rfl ?_
        refine PW_aload_n zd_T_lookNow_78 rfl ?_
        refine PW_getR zd_T_lookNow_79 zf_T_24 (zsT_0 hrT) rfl ?_
        refine PW_iload_n zd_T_lookNow_82 rfl ?_
        obtain ⟨h0, h⟩ := h
        refine PW_iaload zd_T_lookNow_83 (zsT_5 hrT) h0 ?_
        obtain ⟨h0, h⟩ := h
        refine PW_ishr zd_T_lookNow_84 h0 ?_
        refine PW_iconst zd_T_lookNow_85 ?_
        refine PW_iandm1 zd_T_lookNow_86 ?_
        obtain ⟨h0, h⟩ := h
        refine PW_ixor zd_T_lookNow_87 h0 ?_
        exact PW_iret zd_T_lookNow_88 rfl h
      · have h := hF q
        refine PW_aload_n zd_T_lookNow_62 rfl ?_
        refine PW_getR zd_T_lookNow_63 zf_T_27 (zsT_0 hrT) rfl ?_
        refine PW_iload_n zd_T_lookNow_66 rfl ?_
        obtain ⟨h0, h⟩ := h
        refine PW_iaload zd_T_lookNow_67 (zsT_6 hrT) h0 ?_
        refine PW_goto zd_T_lookNow_68 ?_
        exact PW_iret zd_T_lookNow_88 rfl h
    · refine PW_tsin (tgt := 52) zd_T_lookNow_6 3 hx (by decide) rfl (by decide) ?_
      have h := hc0 (by omega)
      refine PW_aload_n zd_T_lookNow_52 rfl ?_
      refine PW_getR zd_T_lookNow_53 zf_T_24 (zsT_0 hrT) rfl ?_
      refine PW_iload_n zd_T_lookNow_56 rfl ?_
      obtain ⟨h0, h⟩ := h
      refine PW_iaload zd_T_lookNow_57 (zsT_5 hrT) h0 ?_
      refine PW_iconst zd_T_lookNow_58 ?_
      obtain ⟨h0, hT, hF⟩ := h
      refine PW_icmp_ne zd_T_lookNow_59 ⟨h0, by decide⟩ (fun q => ?_) (fun q => ?_)
      · have h := hT q
        refine PW_aload_n zd_T_lookNow_71 rfl ?_
        refine PW_getR zd_T_lookNow_72 zf_T_27 (zsT_0 hrT) rfl ?_
        refine PW_iload_n zd_T_lookNow_75 rfl ?_
        obtain ⟨h0, h⟩ := h
        refine PW_iaload zd_T_lookNow_76 (zsT_6 hrT) h0 ?_
        refine PW_iload_n zd_T_lookNow_77 rfl ?_
        refine PW_aload_n zd_T_lookNow_78 rfl ?_
        refine PW_getR zd_T_lookNow_79 zf_T_24 (zsT_0 hrT) rfl ?_
        refine PW_iload_n zd_T_lookNow_82 rfl ?_
        obtain ⟨h0, h⟩ := h
        refine PW_iaload zd_T_lookNow_83 (zsT_5 hrT) h0 ?_
        obtain ⟨h0, h⟩ := h
        refine PW_ishr zd_T_lookNow_84 h0 ?_
        refine PW_iconst zd_T_lookNow_85 ?_
        refine PW_iandm1 zd_T_lookNow_86 ?_
        obtain ⟨h0, h⟩ := h
        refine PW_ixor zd_T_lookNow_87 h0 ?_
        exact PW_iret zd_T_lookNow_88 rfl h
      · have h := hF q
        refine PW_aload_n zd_T_lookNow_62 rfl ?_
        refine PW_getR zd_T_lookNow_63 zf_T_27 (zsT_0 hrT) rfl ?_
        refine PW_iload_n zd_T_lookNow_66 rfl ?_
        obtain ⟨h0, h⟩ := h
        refine PW_iaload zd_T_lookNow_67 (zsT_6 hrT) h0 ?_
        refine PW_goto zd_T_lookNow_68 ?_
        exact PW_iret zd_T_lookNow_88 rfl h
    · refine PW_tsin (tgt := 107) zd_T_lookNow_6 4 hx (by decide) rfl (by decide) ?_
      have h := hcd (by omega)
      refine PW_aload_n zd_T_lookNow_107 rfl ?_
      refine PW_getR zd_T_lookNow_108 zf_T_27 (zsT_0 hrT) rfl ?_
      refine PW_iload_n zd_T_lookNow_111 rfl ?_
      obtain ⟨h0, h⟩ := h
      refine PW_iaload zd_T_lookNow_112 (zsT_6 hrT) h0 ?_
      exact PW_iret zd_T_lookNow_113 rfl h
    · refine PW_tsin (tgt := 107) zd_T_lookNow_6 5 hx (by decide) rfl (by decide) ?_
      have h := hcd (by omega)
      refine PW_aload_n zd_T_lookNow_107 rfl ?_
      refine PW_getR zd_T_lookNow_108 zf_T_27 (zsT_0 hrT) rfl ?_
      refine PW_iload_n zd_T_lookNow_111 rfl ?_
      obtain ⟨h0, h⟩ := h
      refine PW_iaload zd_T_lookNow_112 (zsT_6 hrT) h0 ?_
      exact PW_iret zd_T_lookNow_113 rfl h
    · refine PW_tsin (tgt := 107) zd_T_lookNow_6 6 hx (by decide) rfl (by decide) ?_
      have h := hcd (by omega)
      refine PW_aload_n zd_T_lookNow_107 rfl ?_
      refine PW_getR zd_T_lookNow_108 zf_T_27 (zsT_0 hrT) rfl ?_
      refine PW_iload_n zd_T_lookNow_111 rfl ?_
      obtain ⟨h0, h⟩ := h
      refine PW_iaload zd_T_lookNow_112 (zsT_6 hrT) h0 ?_
      exact PW_iret zd_T_lookNow_113 rfl h
    · refine PW_tsin (tgt := 107) zd_T_lookNow_6 7 hx (by decide) rfl (by decide) ?_
      have h := hcd (by omega)
      refine PW_aload_n zd_T_lookNow_107 rfl ?_
      refine PW_getR zd_T_lookNow_108 zf_T_27 (zsT_0 hrT) rfl ?_
      refine PW_iload_n zd_T_lookNow_111 rfl ?_
      obtain ⟨h0, h⟩ := h
      refine PW_iaload zd_T_lookNow_112 (zsT_6 hrT) h0 ?_
      exact PW_iret zd_T_lookNow_113 rfl h
    · refine PW_tsin (tgt := 89) zd_T_lookNow_6 8 hx (by decide) rfl (by decide) ?_
      have h := hc1 (by omega)
      refine PW_aload_n zd_T_lookNow_89 rfl ?_
      refine PW_getR zd_T_lookNow_90 zf_T_27 (zsT_0 hrT) rfl ?_
      refine PW_iload_n zd_T_lookNow_93 rfl ?_
      obtain ⟨h0, h⟩ := h
      refine PW_iaload zd_T_lookNow_94 (zsT_6 hrT) h0 ?_
      refine PW_iload_n zd_T_lookNow_95 rfl ?_
      refine PW_aload_n zd_T_lookNow_96 rfl ?_
      refine PW_getR zd_T_lookNow_97 zf_T_24 (zsT_0 hrT) rfl ?_
      refine PW_iload_n zd_T_lookNow_100 rfl ?_
      obtain ⟨h0, h⟩ := h
      refine PW_iaload zd_T_lookNow_101 (zsT_5 hrT) h0 ?_
      obtain ⟨h0, h⟩ := h
      refine PW_ishr zd_T_lookNow_102 h0 ?_
      refine PW_iconst zd_T_lookNow_103 ?_
      refine PW_iandm1 zd_T_lookNow_104 ?_
      obtain ⟨h0, h⟩ := h
      refine PW_ixor zd_T_lookNow_105 h0 ?_
      exact PW_iret zd_T_lookNow_106 rfl h
    · refine PW_tsin (tgt := 89) zd_T_lookNow_6 9 hx (by decide) rfl (by decide) ?_
      have h := hc1 (by omega)
      refine PW_aload_n zd_T_lookNow_89 rfl ?_
      refine PW_getR zd_T_lookNow_90 zf_T_27 (zsT_0 hrT) rfl ?_
      refine PW_iload_n zd_T_lookNow_93 rfl ?_
      obtain ⟨h0, h⟩ := h
      refine PW_iaload zd_T_lookNow_94 (zsT_6 hrT) h0 ?_
      refine PW_iload_n zd_T_lookNow_95 rfl ?_
      refine PW_aload_n zd_T_lookNow_96 rfl ?_
      refine PW_getR zd_T_lookNow_97 zf_T_24 (zsT_0 hrT) rfl ?_
      refine PW_iload_n zd_T_lookNow_100 rfl ?_
      obtain ⟨h0, h⟩ := h
      refine PW_iaload zd_T_lookNow_101 (zsT_5 hrT) h0 ?_
      obtain ⟨h0, h⟩ := h
      refine PW_ishr zd_T_lookNow_102 h0 ?_
      refine PW_iconst zd_T_lookNow_103 ?_
      refine PW_iandm1 zd_T_lookNow_104 ?_
      obtain ⟨h0, h⟩ := h
      refine PW_ixor zd_T_lookNow_105 h0 ?_
      exact PW_iret zd_T_lookNow_106 rfl h
  · refine PW_tsout (tgt := 107) zd_T_lookNow_6 (by omega) (by decide) ?_
    have h := hcd (by omega)
    refine PW_aload_n zd_T_lookNow_107 rfl ?_
    refine PW_getR zd_T_lookNow_108 zf_T_27 (zsT_0 hrT) rfl ?_
    refine PW_iload_n zd_T_lookNow_111 rfl ?_
    obtain ⟨h0, h⟩ := h
    refine PW_iaload zd_T_lookNow_112 (zsT_6 hrT) h0 ?_
    exact PW_iret zd_T_lookNow_113 rfl h
def b_T_eyeNamed_2 (G : zG) (rT : Nat) (name : Int) (X : zX) (K2 : Int → zPH → Prop) (x2 : Int) (σ : zPH) : Prop :=
  (zI x2 ∧ zI (σ (rT + 8) 3)) ∧
  ((σ (rT + 8) 3) ≤ x2 →
    X (some (iZ (-1))) σ) ∧
  (x2 < (σ (rT + 8) 3) →
    (0 ≤ x2 ∧ x2 < 8) ∧
    (zI (σ (rT + 10) x2.toNat) ∧ zI name) ∧
    ((σ (rT + 10) x2.toNat) ≠ name →
      K2 (x2 + 1) σ) ∧
    ((σ (rT + 10) x2.toNat) = name →
      X (some (iZ x2)) σ))
set_option maxHeartbeats 4000000 in
theorem kb_T_eyeNamed_2 {G : zG} {rT : Nat} {name : Int} {X : zX} {K2 : Int → zPH → Prop} (hrT : zisT rT) (hK2 : ∀ (y0 : Int) (σ : zPH), K2 y0 σ → PW G zm_T_eyeNamed 0 X 2 [some (zr G rT), some (iZ name), some (iZ y0)] [] σ) {x2 : Int} {σ : zPH} (h : b_T_eyeNamed_2 G rT name X K2 x2 σ) : PW G zm_T_eyeNamed 0 X 2 [some (zr G rT), some (iZ name), some (iZ x2)] [] σ := by
  unfold b_T_eyeNamed_2 at h
  refine PW_iload_n zd_T_eyeNamed_2 rfl ?_
  refine PW_aload_n zd_T_eyeNamed_3 rfl ?_
  refine PW_getR zd_T_eyeNamed_4 zf_T_33 (zsT_0 hrT) rfl ?_
  refine PW_iconst zd_T_eyeNamed_7 ?_
  refine PW_iaload zd_T_eyeNamed_8 (zsT_8 hrT) (by decide) ?_
  obtain ⟨h0, hT, hF⟩ := h
  refine PW_icmp_ge zd_T_eyeNamed_9 h0 (fun q => ?_) (fun q => ?_)
  · have h := hT q
    refine PW_iconst zd_T_eyeNamed_30 ?_
    exact PW_iret zd_T_eyeNamed_31 rfl h
  · have h := hF q
    refine PW_aload_n zd_T_eyeNamed_12 rfl ?_
    refine PW_getR zd_T_eyeNamed_13 zf_T_39 (zsT_0 hrT) rfl ?_
    refine PW_iload_n zd_T_eyeNamed_16 rfl ?_
    obtain ⟨h0, h⟩ := h
    refine PW_iaload zd_T_eyeNamed_17 (zsT_10 hrT) h0 ?_
    refine PW_iload_n zd_T_eyeNamed_18 rfl ?_
    obtain ⟨h0, hT, hF⟩ := h
    refine PW_icmp_ne zd_T_eyeNamed_19 h0 (fun q => ?_) (fun q => ?_)
    · have h := hT q
      refine PW_iinc zd_T_eyeNamed_24 rfl rfl (by decide) (ls2 := [_, _, _]) rfl ?_
      refine PW_goto zd_T_eyeNamed_27 ?_
      exact PW_sub (by exact ⟨rfl, rfl, rfl, trivial⟩) (hK2 _ _ h)
    · have h := hF q
      refine PW_iload_n zd_T_eyeNamed_22 rfl ?_
      exact PW_iret zd_T_eyeNamed_23 rfl h
theorem kl_T_eyeNamed_2 {G : zG} {rT : Nat} {name : Int} {X : zX} (hrT : zisT rT) {x2 : Int} {σ : zPH} (h : zLP1 (b_T_eyeNamed_2 G rT name X ) x2 σ) : PW G zm_T_eyeNamed 0 X 2 [some (zr G rT), some (iZ name), some (iZ x2)] [] σ := by
  obtain ⟨n, h⟩ := h
  induction n generalizing x2 σ with
  | zero => exact h.elim
  | succ n ih => exact kb_T_eyeNamed_2 hrT  (fun _ _ h => ih h) h
def w_T_eyeNamed (G : zG) (rT : Nat) (name : Int) (X : zX) (σ : zPH) : Prop :=
  zLP1 (b_T_eyeNamed_2 G rT name X ) 0 σ
set_option maxHeartbeats 4000000 in
theorem k_T_eyeNamed {G : zG} {rT : Nat} {name : Int} {X : zX} (hrT : zisT rT) {σ : zPH} (h : w_T_eyeNamed G rT name X σ) : MS G zm_T_eyeNamed 0 [zr G rT, iZ name] σ X := by
  refine ms_of zk_T_eyeNamed (Nat.le_of_ble_eq_true rfl) (ls := [some (zr G rT), some (iZ name), none]) rfl ?_
  unfold w_T_eyeNamed at h
  refine PW_iconst zd_T_eyeNamed_0 ?_
  refine PW_istore_n zd_T_eyeNamed_1 rfl (by decide) (ls2 := [_, _, _]) rfl ?_
  exact PW_sub (by exact ⟨rfl, rfl, rfl, trivial⟩) (kl_T_eyeNamed_2 hrT  h)
def w_T_addCode (G : zG) (rT : Nat) (part : Int) (X : zX) (σ : zPH) : Prop :=
  (zI (σ rT 14)) ∧
  (533 ≤ (σ rT 14) →
    X none σ) ∧
  ((σ rT 14) < 533 →
    (0 ≤ (σ rT 14) ∧ (σ rT 14) < 533) ∧
    ∀ σ21 : zPH, σ21 = zupd σ (rT + 11) (σ rT 14).toNat part →
    ∀ σ29 : zPH, σ29 = zupd σ21 rT 14 ((σ21 rT 14) + 1) →
    X none σ29)
set_option maxHeartbeats 4000000 in
theorem k_T_addCode {G : zG} {rT : Nat} {part : Int} {X : zX} (hrT : zisT rT) {σ : zPH} (h : w_T_addCode G rT part X σ) : MS G zm_T_addCode 0 [zr G rT, iZ part] σ X := by
  refine ms_of zk_T_addCode (Nat.le_of_ble_eq_true rfl) (ls := [some (zr G rT), some (iZ part)]) rfl ?_
  unfold w_T_addCode at h
  refine PW_aload_n zd_T_addCode_0 rfl ?_
  refine PW_getI zd_T_addCode_1 zf_T_58 (zsT_0 hrT) rfl ?_
  refine PW_aload_n zd_T_addCode_4 rfl ?_
  refine PW_getR zd_T_addCode_5 zf_T_42 (zsT_0 hrT) rfl ?_
  refine PW_alen zd_T_addCode_8 (zsT_11 hrT) (by decide) (by rcases hrT with rfl | rfl <;> decide) ?_
  obtain ⟨h0, hT, hF⟩ := h
  refine PW_icmp_ge zd_T_addCode_9 ⟨h0, by decide⟩ (fun q => ?_) (fun q => ?_)
  · have h := hT q
    exact PW_vret zd_T_addCode_32 rfl h
  · have h := hF q
    refine PW_aload_n zd_T_addCode_12 rfl ?_
    refine PW_getR zd_T_addCode_13 zf_T_42 (zsT_0 hrT) rfl ?_
    refine PW_aload_n zd_T_addCode_16 rfl ?_
    refine PW_getI zd_T_addCode_17 zf_T_58 (zsT_0 hrT) rfl ?_
    refine PW_iload_n zd_T_addCode_20 rfl ?_
    obtain ⟨h0, h⟩ := h
    refine PW_iastore zd_T_addCode_21 (zsT_11 hrT) h0 ?_
    have h := h _ rfl
    refine PW_aload_n zd_T_addCode_22 rfl ?_
    refine PW_dup zd_T_addCode_23 rfl ?_
    refine PW_getI zd_T_addCode_24 zf_T_58 (zsT_0 hrT) rfl ?_
    refine PW_iconst zd_T_addCode_27 ?_
    refine PW_iadd zd_T_addCode_28 ?_
    refine PW_putI zd_T_addCode_29 zp_T_58 (zsT_0 hrT) rfl ?_
    have h := h _ rfl
    exact PW_vret zd_T_addCode_32 rfl h
def w_T_codeOfSees (G : zG) (eye0 colour : Int) (X : zX) (σ : zPH) : Prop :=
  (0 ≤ (eye0 * 8)) ∧
  (0 ≤ (zor 1664 (eye0 * 8)) ∧ 0 ≤ colour) ∧
  X (some (iZ (zor (zor 1664 (eye0 * 8)) colour))) σ
set_option maxHeartbeats 4000000 in
theorem k_T_codeOfSees {G : zG} {eye0 colour : Int} {X : zX} {σ : zPH} (h : w_T_codeOfSees G eye0 colour X σ) : MS G zm_T_codeOfSees 0 [iZ eye0, iZ colour] σ X := by
  refine ms_of zk_T_codeOfSees (Nat.le_of_ble_eq_true rfl) (ls := [some (iZ eye0), some (iZ colour)]) rfl ?_
  unfold w_T_codeOfSees at h
  refine PW_sipush zd_T_codeOfSees_0 rfl ?_
  refine PW_iload_n zd_T_codeOfSees_3 rfl ?_
  refine PW_iconst zd_T_codeOfSees_4 ?_
  refine PW_ishlC 8 zd_T_codeOfSees_5 (by decide) rfl ?_
  obtain ⟨h0, h⟩ := h
  refine PW_ior zd_T_codeOfSees_6 ⟨by decide, h0⟩ ?_
  refine PW_iload_n zd_T_codeOfSees_7 rfl ?_
  obtain ⟨h0, h⟩ := h
  refine PW_ior zd_T_codeOfSees_8 h0 ?_
  exact PW_iret zd_T_codeOfSees_9 rfl h
def b_JA_fill_5 (G : zG) (qA : Nat) (nA : Nat) (val : Int) (X : zX) (K5 : Int → Int → zPH → Prop) (x2 x3 : Int) (σ : zPH) : Prop :=
  (zI x2 ∧ zI x3) ∧
  (x3 ≤ x2 →
    X none σ) ∧
  (x2 < x3 →
    (0 ≤ x2 ∧ x2 < nA) ∧
    ∀ σ13 : zPH, σ13 = zupd σ qA x2.toNat val →
    K5 (x2 + 1) x3 σ13)
set_option maxHeartbeats 4000000 in
theorem kb_JA_fill_5 {G : zG} {qA : Nat} {nA : Nat} {val : Int} {X : zX} {K5 : Int → Int → zPH → Prop} (hsA : zsh G.2.2.2 qA = .inr (0, nA)) (hnA : nA ≤ 2147483648) (hqA : qA < 58) (hK5 : ∀ (y0 y1 : Int) (σ : zPH), K5 y0 y1 σ → PW G zm_JA_fill 0 X 5 [some (zr G qA), some (iZ val), some (iZ y0), some (iZ y1)] [] σ) {x2 x3 : Int} {σ : zPH} (h : b_JA_fill_5 G qA nA val X K5 x2 x3 σ) : PW G zm_JA_fill 0 X 5 [some (zr G qA), some (iZ val), some (iZ x2), some (iZ x3)] [] σ := by
  unfold b_JA_fill_5 at h
  refine PW_iload_n zd_JA_fill_5 rfl ?_
  refine PW_iload_n zd_JA_fill_6 rfl ?_
  obtain ⟨h0, hT, hF⟩ := h
  refine PW_icmp_ge zd_JA_fill_7 h0 (fun q => ?_) (fun q => ?_)
  · have h := hT q
    exact PW_vret zd_JA_fill_20 rfl h
  · have h := hF q
    refine PW_aload_n zd_JA_fill_10 rfl ?_
    refine PW_iload_n zd_JA_fill_11 rfl ?_
    refine PW_iload_n zd_JA_fill_12 rfl ?_
    obtain ⟨h0, h⟩ := h
    refine PW_iastore zd_JA_fill_13 hsA h0 ?_ hnA
    have h := h _ rfl
    refine PW_iinc zd_JA_fill_14 rfl rfl (by decide) (ls2 := [_, _, _, _]) rfl ?_
    refine PW_goto zd_JA_fill_17 ?_
    exact PW_sub (by exact ⟨rfl, rfl, rfl, rfl, trivial⟩) (hK5 _ _ _ h)
theorem kl_JA_fill_5 {G : zG} {qA : Nat} {nA : Nat} {val : Int} {X : zX} (hsA : zsh G.2.2.2 qA = .inr (0, nA)) (hnA : nA ≤ 2147483648) (hqA : qA < 58) {x2 x3 : Int} {σ : zPH} (h : zLP2 (b_JA_fill_5 G qA nA val X ) x2 x3 σ) : PW G zm_JA_fill 0 X 5 [some (zr G qA), some (iZ val), some (iZ x2), some (iZ x3)] [] σ := by
  obtain ⟨n, h⟩ := h
  induction n generalizing x2 x3 σ with
  | zero => exact h.elim
  | succ n ih => exact kb_JA_fill_5 hsA hnA hqA  (fun _ _ _ h => ih h) h
def w_JA_fill (G : zG) (qA : Nat) (nA : Nat) (val : Int) (X : zX) (σ : zPH) : Prop :=
  ∀ x3 : Int, x3 = ((nA : Nat) : Int) →
  zLP2 (b_JA_fill_5 G qA nA val X ) 0 x3 σ
set_option maxHeartbeats 4000000 in
theorem k_JA_fill {G : zG} {qA : Nat} {nA : Nat} {val : Int} {X : zX} (hsA : zsh G.2.2.2 qA = .inr (0, nA)) (hnA : nA ≤ 2147483648) (hqA : qA < 58) {σ : zPH} (h : w_JA_fill G qA nA val X σ) : MS G zm_JA_fill 0 [zr G qA, iZ val] σ X := by
  refine ms_of zk_JA_fill (Nat.le_of_ble_eq_true rfl) (ls := [some (zr G qA), some (iZ val), none, none]) rfl ?_
  unfold w_JA_fill at h
  refine PW_iconst zd_JA_fill_0 ?_
  refine PW_istore_n zd_JA_fill_1 rfl (by decide) (ls2 := [_, _, _, _]) rfl ?_
  refine PW_aload_n zd_JA_fill_2 rfl ?_
  refine PW_alen zd_JA_fill_3 hsA (by decide) hqA ?_
  refine PW_istore_n zd_JA_fill_4 rfl (by decide) (ls2 := [_, _, _, _]) rfl ?_
  have h := h _ rfl
  exact PW_sub (by exact ⟨rfl, rfl, rfl, rfl, trivial⟩) (kl_JA_fill_5 hsA hnA hqA  h)
