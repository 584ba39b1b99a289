theorem zsend_row {a : Nat} {n c s : Int} {σ : zPH} {q : Nat} (h1 : q ≠ a) (h2 : q ≠ a + 1) (h3 : q ≠ a + 3) (h4 : q ≠ a + 4) : zsend a n c s σ q = σ q := by
  unfold zsend
  split
  · rfl
  · rw [zupd_row h1, zupd_row h3, zupd_row h2]
    split
    · rw [zupd_row h4]
    · rfl
theorem zsend_fld {a : Nat} {n c s : Int} {σ : zPH} {k : Nat} (h : k ≠ 3) : zsend a n c s σ a k = σ a k := by
  unfold zsend
  split
  · rfl
  · rw [zupd_nk h, zupd_na (by omega), zupd_na (by omega)]
    split
    · rw [zupd_na (by omega)]
    · rfl
theorem zfr_8 {σ : zPH} {a : Nat} {n c : Int} (hc : 0 ≤ c ∧ c < 8) : 0 ≤ zfr σ a n c ∧ zfr σ a n c < 8 := by
  unfold zfr
  split
  · omega
  · have h1 := zdif_nn (y := σ (a + 1) n.toNat) hc.1
    have h2 := zdif_le (y := σ (a + 1) n.toNat) hc.1
    omega
theorem zsend_Ls {a : Nat} {n c s : Int} {σ : zPH} (hL : zLs σ a) (hn : -1 ≤ n ∧ n < 576) (hc : 0 ≤ c ∧ c < 8) : zLs (zsend a n c s σ) a := by
  by_cases h : zfr σ a n c = 0 ∨ 1728 ≤ σ a 3
  · rw [zsend, if_pos h]; exact hL
  · have hf := zfr_8 (σ := σ) (a := a) (n := n) hc
    have hn0 : 0 ≤ n := by
      rcases (show n = -1 ∨ 0 ≤ n by omega) with q | q
      · exfalso; apply h; left; rw [zfr, if_pos q]
      · exact q
    obtain ⟨h1, h2, h3⟩ := hL
    have e3 : zor (n * 8) (zfr σ a n c) < 4608 := by
      have h5 : zor (n * 8) (zfr σ a n c) = n * 8 + zfr σ a n c := by
        unfold zor
        have := Nat.shiftLeft_add_eq_or_of_lt (show (zfr σ a n c).toNat < 2 ^ 3 by omega) n.toNat
        rw [Nat.shiftLeft_eq] at this
        rw [show (n * 8).toNat = n.toNat * 2 ^ 3 by omega, ← this]
        omega
      omega
    refine ⟨?_, ?_, ?_⟩
    · rw [zsend, if_neg h, zupd_same]; omega
    · intro k
      rw [zsend, if_neg h, zupd_na (by omega), zupd_na (by omega)]
      by_cases hk : k = n.toNat
      · subst hk
        rw [zupd_same]
        exact ⟨zor_nn _ _, zor_lt 3 (h2 _).2 hf.2⟩
      · rw [zupd_nk hk]
        split
        · rw [zupd_na (by omega)]; exact h2 k
        · exact h2 k
    · intro k
      rw [zsend, if_neg h, zupd_na (by omega)]
      by_cases hk : k = (σ a 3).toNat
      · subst hk
        rw [zupd_same]
        exact ⟨zor_nn _ _, e3⟩
      · rw [zupd_nk hk, zupd_na (by omega)]
        split
        · rw [zupd_na (by omega)]; exact h3 k
        · exact h3 k
def zpassv (a t : Nat) (n col s i k so : Int) (σ : zPH) : zPH :=
  if i = -1 then zsend a (σ (t + 1) n.toNat) col s σ
  else if so = 2 ∨ so = 9 then zsend a (σ (t + 1) (n - n % 4 + zmir k (n % 4)).toNat) col s σ
  else if so = 3 then zsend a (σ (t + 1) n.toNat) col s (zsend a (σ (t + 1) (n - n % 4 + zmir k (n % 4)).toNat) col s σ)
  else if so = 4 then zsend a (σ (t + 1) n.toNat) (zand col k) s σ
  else if so = 5 then zsend a (σ (t + 1) (n - n % 4 + (n % 4 + 3) % 4).toNat) (zand col 4) s (zsend a (σ (t + 1) (n - n % 4 + (n % 4 + 1) % 4).toNat) (zand col 2) s (zsend a (σ (t + 1) n.toNat) (zand col 1) s σ))
  else if so = 8 then zsend a (σ (t + 1) n.toNat) (if k = 1 then col else 0) s σ
  else σ
def zpass (a t : Nat) (n col : Int) (σ : zPH) : zPH := zpassv a t n col (σ (a + 4) n.toNat + 1) (σ (t + 2) (n / 4).toNat) (zlk σ t (σ (t + 2) (n / 4).toNat).toNat (σ a 6) (σ a 7)) (σ (t + 4) (σ (t + 2) (n / 4).toNat).toNat) σ
theorem zmir_4 {k w : Int} (hw : 0 ≤ w ∧ w < 4) : 0 ≤ zmir k w ∧ zmir k w < 4 := by
  unfold zmir
  refine ⟨zxor_nn _ _, zxor_lt 2 hw.2 ?_⟩
  split <;> decide
theorem zlk_8 {σ : zPH} {t i : Nat} {tu st : Int} (hp : zPc σ t i) : -1 ≤ zlk σ t i tu st ∧ zlk σ t i tu st < 8 := by
  obtain ⟨p1, p2, p3, p4, p5, -⟩ := hp
  unfold zlk zlkv
  split
  · split <;> omega
  · split <;> omega
theorem zlk_g {σ : zPH} {t i : Nat} {tu st : Int} (hp : zPc σ t i) (h : σ (t + 4) i = 4) : 0 ≤ zlk σ t i tu st := by
  obtain ⟨p1, p2, p3, p4, p5, p6, -⟩ := hp
  unfold zlk zlkv
  rw [h, if_neg (by omega), if_neg (by omega)]
  exact p6 (Or.inr h)
theorem zand_8 {x y : Int} (hx : 0 ≤ x ∧ x < 8) : 0 ≤ zand x y ∧ zand x y < 8 := by
  have h1 := zand_nn x y
  have h2 := zand_le (y := y) hx.1
  omega
theorem zpassv_row {a t : Nat} {n c s i k so : Int} {σ : zPH} {q : Nat} (h1 : q ≠ a) (h2 : q ≠ a + 1) (h3 : q ≠ a + 3) (h4 : q ≠ a + 4) : zpassv a t n c s i k so σ q = σ q := by
  unfold zpassv
  (repeat' split) <;> simp only [zsend_row h1 h2 h3 h4]
theorem zpassv_fld {a t : Nat} {n c s i k so : Int} {σ : zPH} {j : Nat} (h : j ≠ 3) : zpassv a t n c s i k so σ a j = σ a j := by
  unfold zpassv
  (repeat' split) <;> simp only [zsend_fld h]
theorem zpassv_Ls {a t : Nat} {n c s i k so : Int} {σ : zPH} (hL : zLs σ a) (hN : ∀ n, -1 ≤ σ (t + 1) n ∧ σ (t + 1) n < 576) (hc : 0 ≤ c ∧ c < 8) : zLs (zpassv a t n c s i k so σ) a := by
  have z8 : ∀ y, 0 ≤ zand c y ∧ zand c y < 8 := fun y => zand_8 hc
  unfold zpassv
  split
  · exact zsend_Ls hL (hN _) hc
  split
  · exact zsend_Ls hL (hN _) hc
  split
  · exact zsend_Ls (zsend_Ls hL (hN _) hc) (hN _) hc
  split
  · exact zsend_Ls hL (hN _) (z8 _)
  split
  · exact zsend_Ls (zsend_Ls (zsend_Ls hL (hN _) (z8 _)) (hN _) (z8 _)) (hN _) (z8 _)
  split
  · exact zsend_Ls hL (hN _) (by split <;> omega)
  · exact hL

set_option maxHeartbeats 4000000 in
set_option maxRecDepth 100000 in
theorem ms_L_pass {G : zG} {σ : zPH} {X : zX} {a t : Nat} (ha : zisL a) (ht : zisT t) (hL : zLs σ a) (hT : zTs σ t) {n c : Int} (hn : 0 ≤ n ∧ n < 576) (hc : 0 ≤ c ∧ c < 8) (h6 : 0 ≤ σ a 6 ∧ σ a 6 < 2147483648) (h7 : 0 ≤ σ a 7 ∧ σ a 7 < 2147483648) (hX : X none (zpass a t n c σ)) : MS G zm_L_pass 1 [zr G a, zr G t, iZ n, iZ c] σ X := by
  obtain ⟨hN, hPo, -, hPc, -⟩ := id hT
  have hP0 := hPo (n / 4).toNat
  have hP1 := hPc (σ (t + 2) (n / 4).toNat).toNat
  have ha2 : a = 19 ∨ a = 24 := ha
  have ht2 : t = 32 ∨ t = 45 := ht
  have hk8 := zlk_8 (tu := σ a 6) (st := σ a 7) hP1
  have z8 : ∀ y, 0 ≤ zand c y ∧ zand c y < 8 := fun y => zand_8 hc
  have hm4 := zmir_4 (k := zlk σ t (σ (t + 2) (n / 4).toNat).toNat (σ a 6) (σ a 7)) (w := n % 4) (by omega)
  have hs1 := hP1.1
  refine ms_of (ls := [some (zr G a), some (zr G t), some (iZ n), some (iZ c), none, none, none, none, none]) zk_L_pass (Nat.le_of_ble_eq_true rfl) rfl ?_
  refine PW_iload_n zd_L_pass_0 rfl ?_
  refine PW_iconst zd_L_pass_1 ?_
  refine PW_irem zd_L_pass_2 (by omega) ?_
  refine PW_istore zd_L_pass_3 rfl (by decide) (ls2 := [_, _, _, _, _, _, _, _, _]) rfl ?_
  refine PW_iload_n zd_L_pass_5 rfl ?_
  refine PW_iload zd_L_pass_6 rfl ?_
  refine PW_isub zd_L_pass_8 ?_
  refine PW_istore zd_L_pass_9 rfl (by decide) (ls2 := [_, _, _, _, _, _, _, _, _]) rfl ?_
  refine PW_aload_n zd_L_pass_11 rfl ?_
  refine PW_getR zd_L_pass_12 zf_L_21 (zsL_0 ha) rfl ?_
  refine PW_iload_n zd_L_pass_15 rfl ?_
  refine PW_iaload zd_L_pass_16 (zsL_4 ha) (by omega) ?_
  refine PW_iconst zd_L_pass_17 ?_
  refine PW_iadd zd_L_pass_18 ?_
  refine PW_istore zd_L_pass_19 rfl (by decide) (ls2 := [_, _, _, _, _, _, _, _, _]) rfl ?_
  refine PW_aload_n zd_L_pass_21 rfl ?_
  refine PW_getR zd_L_pass_22 zf_L_82 (zsT_0 ht) rfl ?_
  refine PW_iload_n zd_L_pass_25 rfl ?_
  refine PW_iconst zd_L_pass_26 ?_
  refine PW_idiv zd_L_pass_27 (by omega) ?_
  refine PW_iaload zd_L_pass_28 (zsT_2 ht) (by omega) ?_
  refine PW_istore zd_L_pass_29 rfl (by decide) (ls2 := [_, _, _, _, _, _, _, _, _]) rfl ?_
  refine PW_iload zd_L_pass_31 rfl ?_
  refine PW_iconst zd_L_pass_33 ?_
  refine PW_icmp_ne zd_L_pass_34 (by omega) (fun h34 => ?_) (fun h34 => ?_)
  · refine PW_aload_n zd_L_pass_51 rfl ?_
    refine PW_iload zd_L_pass_52 rfl ?_
    refine PW_aload_n zd_L_pass_54 rfl ?_
    refine PW_getI zd_L_pass_55 zf_L_27 (zsL_0 ha) rfl ?_
    refine PW_aload_n zd_L_pass_58 rfl ?_
    refine PW_getI zd_L_pass_59 zf_L_31 (zsL_0 ha) rfl ?_
    refine PW_callV3i zd_L_pass_62 zl_L_85 zk_T_lookNow zv_T_lookNow (fr' := 0) (by omega) (zsT_0 ht) rfl rfl (Nat.le_of_ble_eq_true rfl) ?_
    refine ms_T_lookNow ht (by omega) hP1 (by omega) (by omega) ?_
    refine ⟨_, rfl, ?_⟩
    refine PW_istore zd_L_pass_65 rfl (by decide) (ls2 := [_, _, _, _, _, _, _, _, _]) rfl ?_
    refine PW_aload_n zd_L_pass_67 rfl ?_
    refine PW_getR zd_L_pass_68 zf_L_89 (zsT_0 ht) rfl ?_
    refine PW_iload zd_L_pass_71 rfl ?_
    refine PW_iaload zd_L_pass_73 (zsT_4 ht) (by omega) ?_
    rcases (show σ (t + 4) (σ (t + 2) (n / 4).toNat).toNat = 2 ∨ σ (t + 4) (σ (t + 2) (n / 4).toNat).toNat = 3 ∨ σ (t + 4) (σ (t + 2) (n / 4).toNat).toNat = 4 ∨ σ (t + 4) (σ (t + 2) (n / 4).toNat).toNat = 5 ∨ σ (t + 4) (σ (t + 2) (n / 4).toNat).toNat = 6 ∨ σ (t + 4) (σ (t + 2) (n / 4).toNat).toNat = 7 ∨ σ (t + 4) (σ (t + 2) (n / 4).toNat).toNat = 8 ∨ σ (t + 4) (σ (t + 2) (n / 4).toNat).toNat = 9 ∨ (σ (t + 4) (σ (t + 2) (n / 4).toNat).toNat < 2 ∨ 9 < σ (t + 4) (σ (t + 2) (n / 4).toNat).toNat) by omega) with hs | hs | hs | hs | hs | hs | hs | hs | hs
    · refine PW_tsin (tgt := 120) zd_L_pass_74 2 (by omega) (by decide) rfl (by decide) ?_
      refine PW_aload_n zd_L_pass_120 rfl ?_
      refine PW_aload_n zd_L_pass_121 rfl ?_
      refine PW_getR zd_L_pass_122 zf_L_46 (zsT_0 ht) rfl ?_
      refine PW_iload zd_L_pass_125 rfl ?_
      refine PW_iload zd_L_pass_127 rfl ?_
      refine PW_iload zd_L_pass_129 rfl ?_
      refine PW_callS2i zd_L_pass_131 zl_L_92 zk_L_turnedWay zv_L_turnedWay (fr' := 0) (by omega) (Nat.le_of_ble_eq_true rfl) ?_
      refine ms_L_turnedWay (by omega) (by omega) ?_
      refine ⟨_, rfl, ?_⟩
      refine PW_iadd zd_L_pass_134 ?_
      refine PW_iaload zd_L_pass_135 (zsT_1 ht) (by omega) ?_
      refine PW_iload_n zd_L_pass_136 rfl ?_
      refine PW_iload zd_L_pass_137 rfl ?_
      refine PW_callV3v zd_L_pass_139 zl_L_55 zk_L_send zv_L_send (fr' := 0) (by omega) (zsL_0 ha) rfl rfl (Nat.le_of_ble_eq_true rfl) ?_
      refine ms_L_send ha (hL) (hN _) (hc) ?_
      refine ⟨rfl, ?_⟩
      refine PW_goto zd_L_pass_142 ?_
      refine PW_vret zd_L_pass_292 rfl ?_
      exact zretσ hX (by rw [zpass]; first | (simp [zpassv, h34, hs]; done) | (simp [zpassv, h34, hs, h276]; done) | (rw [zpassv, if_neg h34, if_neg (by omega), if_neg (by omega), if_neg (by omega), if_neg (by omega), if_neg (by omega)]))
    · refine PW_tsin (tgt := 145) zd_L_pass_74 3 (by omega) (by decide) rfl (by decide) ?_
      refine PW_aload_n zd_L_pass_145 rfl ?_
      refine PW_aload_n zd_L_pass_146 rfl ?_
      refine PW_getR zd_L_pass_147 zf_L_46 (zsT_0 ht) rfl ?_
      refine PW_iload zd_L_pass_150 rfl ?_
      refine PW_iload zd_L_pass_152 rfl ?_
      refine PW_iload zd_L_pass_154 rfl ?_
      refine PW_callS2i zd_L_pass_156 zl_L_92 zk_L_turnedWay zv_L_turnedWay (fr' := 0) (by omega) (Nat.le_of_ble_eq_true rfl) ?_
      refine ms_L_turnedWay (by omega) (by omega) ?_
      refine ⟨_, rfl, ?_⟩
      refine PW_iadd zd_L_pass_159 ?_
      refine PW_iaload zd_L_pass_160 (zsT_1 ht) (by omega) ?_
      refine PW_iload_n zd_L_pass_161 rfl ?_
      refine PW_iload zd_L_pass_162 rfl ?_
      refine PW_callV3v zd_L_pass_164 zl_L_55 zk_L_send zv_L_send (fr' := 0) (by omega) (zsL_0 ha) rfl rfl (Nat.le_of_ble_eq_true rfl) ?_
      refine ms_L_send ha (hL) (hN _) (hc) ?_
      refine ⟨rfl, ?_⟩
      refine PW_aload_n zd_L_pass_167 rfl ?_
      refine PW_aload_n zd_L_pass_168 rfl ?_
      refine PW_getR zd_L_pass_169 zf_L_46 (zsT_0 ht) rfl ?_
      refine PW_iload_n zd_L_pass_172 rfl ?_
      refine PW_iaload zd_L_pass_173 (zsT_1 ht) (by omega) ?_
      try simp (disch := omega) only [zupd_same, zupd_na, zupd_nk, zsend_row, zsend_fld]
      refine PW_iload_n zd_L_pass_174 rfl ?_
      refine PW_iload zd_L_pass_175 rfl ?_
      refine PW_callV3v zd_L_pass_177 zl_L_55 zk_L_send zv_L_send (fr' := 0) (by omega) (zsL_0 ha) rfl rfl (Nat.le_of_ble_eq_true rfl) ?_
      refine ms_L_send ha (zsend_Ls hL (hN _) hc) (hN _) (hc) ?_
      refine ⟨rfl, ?_⟩
      refine PW_goto zd_L_pass_180 ?_
      refine PW_vret zd_L_pass_292 rfl ?_
      exact zretσ hX (by rw [zpass]; first | (simp [zpassv, h34, hs]; done) | (simp [zpassv, h34, hs, h276]; done) | (rw [zpassv, if_neg h34, if_neg (by omega), if_neg (by omega), if_neg (by omega), if_neg (by omega), if_neg (by omega)]))
    · refine PW_tsin (tgt := 183) zd_L_pass_74 4 (by omega) (by decide) rfl (by decide) ?_
      refine PW_aload_n zd_L_pass_183 rfl ?_
      refine PW_aload_n zd_L_pass_184 rfl ?_
      refine PW_getR zd_L_pass_185 zf_L_46 (zsT_0 ht) rfl ?_
      refine PW_iload_n zd_L_pass_188 rfl ?_
      refine PW_iaload zd_L_pass_189 (zsT_1 ht) (by omega) ?_
      refine PW_iload_n zd_L_pass_190 rfl ?_
      refine PW_iload zd_L_pass_191 rfl ?_
      refine PW_iand zd_L_pass_193 (by have := zlk_g (tu := σ a 6) (st := σ a 7) hP1 hs; omega) ?_
      refine PW_iload zd_L_pass_194 rfl ?_
      refine PW_callV3v zd_L_pass_196 zl_L_55 zk_L_send zv_L_send (fr' := 0) (by omega) (zsL_0 ha) rfl rfl (Nat.le_of_ble_eq_true rfl) ?_
      refine ms_L_send ha (hL) (hN _) (z8 _) ?_
      refine ⟨rfl, ?_⟩
      refine PW_goto zd_L_pass_199 ?_
      refine PW_vret zd_L_pass_292 rfl ?_
      exact zretσ hX (by rw [zpass]; first | (simp [zpassv, h34, hs]; done) | (simp [zpassv, h34, hs, h276]; done) | (rw [zpassv, if_neg h34, if_neg (by omega), if_neg (by omega), if_neg (by omega), if_neg (by omega), if_neg (by omega)]))
    · refine PW_tsin (tgt := 202) zd_L_pass_74 5 (by omega) (by decide) rfl (by decide) ?_
      refine PW_aload_n zd_L_pass_202 rfl ?_
      refine PW_aload_n zd_L_pass_203 rfl ?_
      refine PW_getR zd_L_pass_204 zf_L_46 (zsT_0 ht) rfl ?_
      refine PW_iload_n zd_L_pass_207 rfl ?_
      refine PW_iaload zd_L_pass_208 (zsT_1 ht) (by omega) ?_
      refine PW_iload_n zd_L_pass_209 rfl ?_
      refine PW_iconst zd_L_pass_210 ?_
      refine PW_iand zd_L_pass_211 (by omega) ?_
      refine PW_iload zd_L_pass_212 rfl ?_
      refine PW_callV3v zd_L_pass_214 zl_L_55 zk_L_send zv_L_send (fr' := 0) (by omega) (zsL_0 ha) rfl rfl (Nat.le_of_ble_eq_true rfl) ?_
      refine ms_L_send ha (hL) (hN _) (z8 _) ?_
      refine ⟨rfl, ?_⟩
      refine PW_aload_n zd_L_pass_217 rfl ?_
      refine PW_aload_n zd_L_pass_218 rfl ?_
      refine PW_getR zd_L_pass_219 zf_L_46 (zsT_0 ht) rfl ?_
      refine PW_iload zd_L_pass_222 rfl ?_
      refine PW_iload zd_L_pass_224 rfl ?_
      refine PW_iconst zd_L_pass_226 ?_
      refine PW_iadd zd_L_pass_227 ?_
      refine PW_iconst zd_L_pass_228 ?_
      refine PW_irem zd_L_pass_229 (by omega) ?_
      refine PW_iadd zd_L_pass_230 ?_
      refine PW_iaload zd_L_pass_231 (zsT_1 ht) (by omega) ?_
      try simp (disch := omega) only [zupd_same, zupd_na, zupd_nk, zsend_row, zsend_fld]
      refine PW_iload_n zd_L_pass_232 rfl ?_
      refine PW_iconst zd_L_pass_233 ?_
      refine PW_iand zd_L_pass_234 (by omega) ?_
      refine PW_iload zd_L_pass_235 rfl ?_
      refine PW_callV3v zd_L_pass_237 zl_L_55 zk_L_send zv_L_send (fr' := 0) (by omega) (zsL_0 ha) rfl rfl (Nat.le_of_ble_eq_true rfl) ?_
      refine ms_L_send ha (zsend_Ls hL (hN _) (z8 _)) (hN _) (z8 _) ?_
      refine ⟨rfl, ?_⟩
      refine PW_aload_n zd_L_pass_240 rfl ?_
      refine PW_aload_n zd_L_pass_241 rfl ?_
      refine PW_getR zd_L_pass_242 zf_L_46 (zsT_0 ht) rfl ?_
      refine PW_iload zd_L_pass_245 rfl ?_
      refine PW_iload zd_L_pass_247 rfl ?_
      refine PW_iconst zd_L_pass_249 ?_
      refine PW_iadd zd_L_pass_250 ?_
      refine PW_iconst zd_L_pass_251 ?_
      refine PW_irem zd_L_pass_252 (by omega) ?_
      refine PW_iadd zd_L_pass_253 ?_
      refine PW_iaload zd_L_pass_254 (zsT_1 ht) (by omega) ?_
      try simp (disch := omega) only [zupd_same, zupd_na, zupd_nk, zsend_row, zsend_fld]
      refine PW_iload_n zd_L_pass_255 rfl ?_
      refine PW_iconst zd_L_pass_256 ?_
      refine PW_iand zd_L_pass_257 (by omega) ?_
      refine PW_iload zd_L_pass_258 rfl ?_
      refine PW_callV3v zd_L_pass_260 zl_L_55 zk_L_send zv_L_send (fr' := 0) (by omega) (zsL_0 ha) rfl rfl (Nat.le_of_ble_eq_true rfl) ?_
      refine ms_L_send ha (zsend_Ls (zsend_Ls hL (hN _) (z8 _)) (hN _) (z8 _)) (hN _) (z8 _) ?_
      refine ⟨rfl, ?_⟩
      refine PW_goto zd_L_pass_263 ?_
      refine PW_vret zd_L_pass_292 rfl ?_
      exact zretσ hX (by rw [zpass]; first | (simp [zpassv, h34, hs]; done) | (simp [zpassv, h34, hs, h276]; done) | (rw [zpassv, if_neg h34, if_neg (by omega), if_neg (by omega), if_neg (by omega), if_neg (by omega), if_neg (by omega)]))
    · refine PW_tsin (tgt := 292) zd_L_pass_74 6 (by omega) (by decide) rfl (by decide) ?_
      refine PW_vret zd_L_pass_292 rfl ?_
      exact zretσ hX (by rw [zpass]; first | (simp [zpassv, h34, hs]; done) | (simp [zpassv, h34, hs, h276]; done) | (rw [zpassv, if_neg h34, if_neg (by omega), if_neg (by omega), if_neg (by omega), if_neg (by omega), if_neg (by omega)]))
    · refine PW_tsin (tgt := 292) zd_L_pass_74 7 (by omega) (by decide) rfl (by decide) ?_
      refine PW_vret zd_L_pass_292 rfl ?_
      exact zretσ hX (by rw [zpass]; first | (simp [zpassv, h34, hs]; done) | (simp [zpassv, h34, hs, h276]; done) | (rw [zpassv, if_neg h34, if_neg (by omega), if_neg (by omega), if_neg (by omega), if_neg (by omega), if_neg (by omega)]))
    · refine PW_tsin (tgt := 266) zd_L_pass_74 8 (by omega) (by decide) rfl (by decide) ?_
      refine PW_aload_n zd_L_pass_266 rfl ?_
      refine PW_aload_n zd_L_pass_267 rfl ?_
      refine PW_getR zd_L_pass_268 zf_L_46 (zsT_0 ht) rfl ?_
      refine PW_iload_n zd_L_pass_271 rfl ?_
      refine PW_iaload zd_L_pass_272 (zsT_1 ht) (by omega) ?_
      refine PW_iload zd_L_pass_273 rfl ?_
      refine PW_iconst zd_L_pass_275 ?_
      refine PW_icmp_ne zd_L_pass_276 (by omega) (fun h276 => ?_) (fun h276 => ?_)
      · refine PW_iconst zd_L_pass_283 ?_
        refine PW_iload zd_L_pass_284 rfl ?_
        refine PW_callV3v zd_L_pass_286 zl_L_55 zk_L_send zv_L_send (fr' := 0) (by omega) (zsL_0 ha) rfl rfl (Nat.le_of_ble_eq_true rfl) ?_
        refine ms_L_send ha (hL) (hN _) (by omega) ?_
        refine ⟨rfl, ?_⟩
        refine PW_goto zd_L_pass_289 ?_
        refine PW_vret zd_L_pass_292 rfl ?_
        exact zretσ hX (by rw [zpass]; first | (simp [zpassv, h34, hs]; done) | (simp [zpassv, h34, hs, h276]; done) | (rw [zpassv, if_neg h34, if_neg (by omega), if_neg (by omega), if_neg (by omega), if_neg (by omega), if_neg (by omega)]))
      · refine PW_iload_n zd_L_pass_279 rfl ?_
        refine PW_goto zd_L_pass_280 ?_
        refine PW_iload zd_L_pass_284 rfl ?_
        refine PW_callV3v zd_L_pass_286 zl_L_55 zk_L_send zv_L_send (fr' := 0) (by omega) (zsL_0 ha) rfl rfl (Nat.le_of_ble_eq_true rfl) ?_
        refine ms_L_send ha (hL) (hN _) (by omega) ?_
        refine ⟨rfl, ?_⟩
        refine PW_goto zd_L_pass_289 ?_
        refine PW_vret zd_L_pass_292 rfl ?_
        exact zretσ hX (by rw [zpass]; first | (simp [zpassv, h34, hs]; done) | (simp [zpassv, h34, hs, h276]; done) | (rw [zpassv, if_neg h34, if_neg (by omega), if_neg (by omega), if_neg (by omega), if_neg (by omega), if_neg (by omega)]))
    · refine PW_tsin (tgt := 120) zd_L_pass_74 9 (by omega) (by decide) rfl (by decide) ?_
      refine PW_aload_n zd_L_pass_120 rfl ?_
      refine PW_aload_n zd_L_pass_121 rfl ?_
      refine PW_getR zd_L_pass_122 zf_L_46 (zsT_0 ht) rfl ?_
      refine PW_iload zd_L_pass_125 rfl ?_
      refine PW_iload zd_L_pass_127 rfl ?_
      refine PW_iload zd_L_pass_129 rfl ?_
      refine PW_callS2i zd_L_pass_131 zl_L_92 zk_L_turnedWay zv_L_turnedWay (fr' := 0) (by omega) (Nat.le_of_ble_eq_true rfl) ?_
      refine ms_L_turnedWay (by omega) (by omega) ?_
      refine ⟨_, rfl, ?_⟩
      refine PW_iadd zd_L_pass_134 ?_
      refine PW_iaload zd_L_pass_135 (zsT_1 ht) (by omega) ?_
      refine PW_iload_n zd_L_pass_136 rfl ?_
      refine PW_iload zd_L_pass_137 rfl ?_
      refine PW_callV3v zd_L_pass_139 zl_L_55 zk_L_send zv_L_send (fr' := 0) (by omega) (zsL_0 ha) rfl rfl (Nat.le_of_ble_eq_true rfl) ?_
      refine ms_L_send ha (hL) (hN _) (hc) ?_
      refine ⟨rfl, ?_⟩
      refine PW_goto zd_L_pass_142 ?_
      refine PW_vret zd_L_pass_292 rfl ?_
      exact zretσ hX (by rw [zpass]; first | (simp [zpassv, h34, hs]; done) | (simp [zpassv, h34, hs, h276]; done) | (rw [zpassv, if_neg h34, if_neg (by omega), if_neg (by omega), if_neg (by omega), if_neg (by omega), if_neg (by omega)]))
    · refine PW_tsout (tgt := 292) zd_L_pass_74 (by omega) (by decide) ?_
      refine PW_vret zd_L_pass_292 rfl ?_
      exact zretσ hX (by rw [zpass]; first | (simp [zpassv, h34, hs]; done) | (simp [zpassv, h34, hs, h276]; done) | (rw [zpassv, if_neg h34, if_neg (by omega), if_neg (by omega), if_neg (by omega), if_neg (by omega), if_neg (by omega)]))
  · refine PW_aload_n zd_L_pass_37 rfl ?_
    refine PW_aload_n zd_L_pass_38 rfl ?_
    refine PW_getR zd_L_pass_39 zf_L_46 (zsT_0 ht) rfl ?_
    refine PW_iload_n zd_L_pass_42 rfl ?_
    refine PW_iaload zd_L_pass_43 (zsT_1 ht) (by omega) ?_
    refine PW_iload_n zd_L_pass_44 rfl ?_
    refine PW_iload zd_L_pass_45 rfl ?_
    refine PW_callV3v zd_L_pass_47 zl_L_55 zk_L_send zv_L_send (fr' := 0) (by omega) (zsL_0 ha) rfl rfl (Nat.le_of_ble_eq_true rfl) ?_
    refine ms_L_send ha (hL) (hN _) (hc) ?_
    refine ⟨rfl, ?_⟩
    refine PW_vret zd_L_pass_50 rfl ?_
    exact zretσ hX (by rw [zpass, zpassv, if_pos h34])
