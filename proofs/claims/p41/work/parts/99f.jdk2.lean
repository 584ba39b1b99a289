theorem zo_JD : ∀ ty : Nat → FieldType, (∀ k, k < 4 → parseFieldDescriptor (zF_JD k).2.2.1 = some (ty k)) → ∀ j, j < 4 → defaultValue (ty j) = vp_V [.null, iZ 0, iZ 0, iZ 0] j := zo_of (by decide +kernel)
theorem zo_JS : ∀ ty : Nat → FieldType, (∀ k, k < 4 → parseFieldDescriptor (zF_JS k).2.2.1 = some (ty k)) → ∀ j, j < 4 → defaultValue (ty j) = vp_V [.null, iZ 0, iZ 0, iZ 0] j := zo_of (by decide +kernel)
theorem xsfin {kf : Nat} {P : u_T → Prop} (h : P zF_JS) : ∀ (C : String) (T : u_T) (N : Nat), zcl[7]? = some (C, T, N) → (T kf).2.2.2 = true → P T := by
  intro C T N h1 _
  have h1 := Option.some.inj (show some (zR_JS, zF_JS, 4) = some (C, T, N) from h1)
  cases h1
  exact h
/-- a String at s of these letters -/
def xStr (cs : Nat → ClassId) (s : Nat) (t : List Int) (w : va_W) : Prop := ∃ (q : Nat) (g : Nat → Int), w = [xST s q, xBA cs q t.length g] ∧ (∀ j, j < t.length → g j = t.getD j 0) ∧ ∀ j, 0 ≤ g j ∧ g j < 128
section JDKr
variable {v : xEv} {D : va_G} {cs : Nat → ClassId} {X : xX}
set_option maxHeartbeats 1000000 in
theorem q_initB {i b : Nat} (hi : i < 23) (hX : ∀ w', xBld cs b (xTxt i) (xLen.getD i 0 + 16) w' → X none w') : QM v D cs zm_JB_init_a7421 11 1 (xLen.getD i 0 + 16) [.ref b, .ref (v.1 i)] [(b, .inr (8, [.null, iZ 0, iZ 0, iZ 0]))] X := by
  refine qm_of zk_JB_init_a7421 (Nat.le_of_ble_eq_true rfl) (ls := [some (.ref b), some (.ref (v.1 i)), none, none, none]) rfl ?_
  have hln := xLen_r i
  refine QW_aload_n zd_JB_init_a7421_0 rfl ?_
  refine QW_objI zd_JB_init_a7421_1 zol_JB_3 (by decide) (Nat.le_of_ble_eq_true rfl) ?_
  refine QW_aload_n zd_JB_init_a7421_4 rfl ?_
  refine QW_callK (wc := []) (wr := [(b, .inr (8, [.null, iZ 0, iZ 0, iZ 0]))]) (as := []) (mc' := 0) (ms' := 0) (X' := fun u w => u = some (iZ ((xLen.getD i 0 : Nat) : Int)) ∧ w = []) zd_JB_init_a7421_5 zl_JB_32 zk_JS_length zv_JS_length (fr' := 1) (by decide) hi rfl rfl rfl (Nat.le_of_ble_eq_true rfl) (List.Perm.refl _) ⟨by omega, by omega⟩ (q_lengthC hi ⟨rfl, rfl⟩) (fun u w h => ?_)
  obtain ⟨rfl, rfl⟩ := h
  refine QW_istore_n zd_JB_init_a7421_8 rfl (by decide) rfl ?_
  refine QW_iload_n zd_JB_init_a7421_9 rfl ?_
  refine QW_ldc zd_JB_init_a7421_10 zcst_JB_38 ?_
  refine QW_icmp_ge zd_JB_init_a7421_12 ⟨⟨by omega, by omega⟩, by omega, by omega⟩ (fun hz => by omega) (fun hz => ?_)
  refine QW_iload_n zd_JB_init_a7421_15 rfl ?_
  refine QW_bipush zd_JB_init_a7421_16 (by decide) ?_
  refine QW_iadd zd_JB_init_a7421_18 ?_
  refine QW_z (show _ = ((xLen.getD i 0 + 16 : Nat) : Int) by omega) ?_
  refine QW_goto zd_JB_init_a7421_19 ?_
  refine QW_istore_n zd_JB_init_a7421_24 rfl (by decide) rfl ?_
  refine QW_aload_n zd_JB_init_a7421_25 rfl ?_
  refine QW_callK (wc := []) (wr := [(b, .inr (8, [.null, iZ 0, iZ 0, iZ 0]))]) (as := []) (mc' := 0) (ms' := 0) (X' := fun u w => u = some (iZ 0) ∧ w = []) zd_JB_init_a7421_26 zl_JB_40 zk_JS_coder zv_JS_coder (fr' := 0) (by decide) hi rfl rfl rfl (Nat.le_of_ble_eq_true rfl) (List.Perm.refl _) ⟨by omega, by omega⟩ (q_coderC hi ⟨rfl, rfl⟩) (fun u w h => ?_)
  obtain ⟨rfl, rfl⟩ := h
  refine QW_istore zd_JB_init_a7421_29 rfl (by decide) rfl ?_
  refine QW_aload_n zd_JB_init_a7421_31 rfl ?_
  refine QW_iload zd_JB_init_a7421_32 rfl ?_
  refine QW_put zd_JB_init_a7421_34 zf_JB_22 (List.Perm.refl _) (xnfin rfl) (fty := .byte) (by decide +kernel) rfl rfl (Nat.le_of_ble_eq_true rfl) ?_
  refine QW_aload_n zd_JB_init_a7421_37 rfl ?_
  refine QW_iload zd_JB_init_a7421_38 rfl ?_
  refine QW_if_ne zd_JB_init_a7421_40 (by decide) (fun hz => absurd rfl hz) (fun hz => ?_)
  refine QW_iload_n zd_JB_init_a7421_43 rfl ?_
  refine QW_newa (i := 1) (N := xLen.getD i 0 + 16) zd_JB_init_a7421_44 (by decide) rfl zwd_496 rfl (by omega) ⟨by omega, by omega⟩ (fun q => ?_)
  refine QW_goto zd_JB_init_a7421_46 ?_
  refine QW_put zd_JB_init_a7421_53 zf_JB_15 (List.Perm.refl _) (xnfin rfl) (fty := .array .byte) (by decide +kernel) rfl rfl (Nat.le_of_ble_eq_true rfl) ?_
  refine QW_aload_n zd_JB_init_a7421_56 rfl ?_
  refine QW_aload_n zd_JB_init_a7421_57 rfl ?_
  have hB : xBld cs b [] (xLen.getD i 0 + 16) [xSB b q (([] : List Int).length : Int), xBA cs q (xLen.getD i 0 + 16) (fun _ => 0)] := ⟨q, fun _ => 0, rfl, fun j hj => absurd hj (Nat.not_lt_zero _), ⟨Nat.zero_le _, by omega, by omega⟩, fun _ => ⟨Int.le_refl 0, show (0 : Int) < 128 by decide⟩⟩
  refine QW_callO (wc := [xSB b q (([] : List Int).length : Int), xBA cs q (xLen.getD i 0 + 16) (fun _ => 0)]) (wr := []) (as := [.ref (v.1 i)]) (mc' := 0) (ms' := 0) (X' := fun u w => u = some (.ref b) ∧ xBld cs b (xTxt i) (xLen.getD i 0 + 16) w) zd_JB_init_a7421_58 zl_JB_43 zk_JB_append zk_JD_append_cf1ce zsm_JB_append zim_JB_append zse_JB_append zim_JD_append_cf1ce (fr' := 10) (by decide) List.mem_cons_self rfl rfl rfl (Nat.le_of_ble_eq_true rfl) (List.Perm.refl _) ⟨by omega, by omega⟩ (q_appendSbr hi hB (Or.inl ⟨by simp, rfl⟩) ⟨by show 0 + xLen.getD i 0 ≤ 9000; omega, by omega⟩ (fun w' hw => ⟨rfl, hw⟩)) (fun u w h => ?_)
  obtain ⟨rfl, hw⟩ := h
  refine QW_pop zd_JB_init_a7421_61 rfl ?_
  exact QW_vret zd_JB_init_a7421_62 rfl ⟨by omega, by omega⟩ (hX _ (by rwa [List.append_nil]))
set_option maxHeartbeats 1000000 in
theorem q_initD {i b : Nat} (hi : i < 23) (hX : ∀ w', xBld cs b (xTxt i) (xLen.getD i 0 + 16) w' → X none w') : QM v D cs zm_JD_init_a7421 12 1 (xLen.getD i 0 + 16) [.ref b, .ref (v.1 i)] [(b, .inr (8, [.null, iZ 0, iZ 0, iZ 0]))] X := by
  refine qm_of zk_JD_init_a7421 (Nat.le_of_ble_eq_true rfl) (ls := [some (.ref b), some (.ref (v.1 i))]) rfl ?_
  refine QW_aload_n zd_JD_init_a7421_0 rfl ?_
  refine QW_aload_n zd_JD_init_a7421_1 rfl ?_
  refine QW_callI (wc := [(b, .inr (8, [.null, iZ 0, iZ 0, iZ 0]))]) (wr := []) (as := [.ref (v.1 i)]) (mc' := 1) (ms' := xLen.getD i 0 + 16) (X' := fun u w => u = none ∧ xBld cs b (xTxt i) (xLen.getD i 0 + 16) w) zd_JD_init_a7421_2 zl_JD_7 zk_JB_init_a7421 rfl rfl zim_JB_init_a7421 (fr' := 11) (by decide) rfl rfl (Nat.le_of_ble_eq_true rfl) (List.Perm.refl _) ⟨by omega, by omega⟩ (q_initB hi (fun w' hw => ⟨rfl, hw⟩)) (fun u w h => ?_)
  obtain ⟨rfl, hw⟩ := h
  exact QW_vret zd_JD_init_a7421_5 rfl ⟨by omega, by omega⟩ (hX _ (by rwa [List.append_nil]))
set_option maxHeartbeats 1000000 in
theorem q_checkLength {n : Nat} (hn : n ≤ 60000) (hX : X none []) : QM v D cs zm_JA_checkLength 0 0 0 [iZ 0, iZ (n : Int)] [] X := by
  refine qm_of zk_JA_checkLength (Nat.le_of_ble_eq_true rfl) (ls := [some (iZ 0), some (iZ (n : Int))]) rfl ?_
  refine QW_iload_n zd_JA_checkLength_0 rfl ?_
  refine QW_iload_n zd_JA_checkLength_1 rfl ?_
  refine QW_icmp_ge zd_JA_checkLength_2 ⟨⟨by omega, by omega⟩, by omega, by omega⟩ (fun hz => ?_) (fun hz => by omega)
  exact QW_vret zd_JA_checkLength_37 rfl ⟨by omega, by omega⟩ hX
set_option maxHeartbeats 1000000 in
theorem q_copyRB {a m n : Nat} {f : Nat → Int} (h : n ≤ m ∧ m ≤ 60000) (hf : ∀ j, 0 ≤ f j ∧ f j < 128) (hX : ∀ q g, (∀ j, j < n → g j = f j) → (∀ j, 0 ≤ g j ∧ g j < 128) → X (some (.ref q)) [xBA cs q n g, xBA cs a m f]) : QM v D cs zm_JA_copyOfRangeByte 6 1 n [.ref a, iZ 0, iZ (n : Int)] [xBA cs a m f] X := by
  refine qm_of zk_JA_copyOfRangeByte (Nat.le_of_ble_eq_true rfl) (ls := [some (.ref a), some (iZ 0), some (iZ (n : Int)), none, none]) rfl ?_
  refine QW_iload_n zd_JA_copyOfRangeByte_0 rfl ?_
  refine QW_iload_n zd_JA_copyOfRangeByte_1 rfl ?_
  refine QW_callS (wc := []) (wr := [xBA cs a m f]) (as := [iZ 0, iZ (n : Int)]) (mc' := 0) (ms' := 0) (X' := fun x w => x = none ∧ w = []) zd_JA_copyOfRangeByte_2 zl_JA_343 zk_JA_checkLength zv_JA_checkLength (fr' := 0) (by decide) rfl rfl (Nat.le_of_ble_eq_true rfl) (List.Perm.refl _) ⟨by omega, by omega⟩ (q_checkLength (by omega) ⟨rfl, rfl⟩) (fun x w h => ?_)
  obtain ⟨rfl, rfl⟩ := h
  refine QW_iload_n zd_JA_copyOfRangeByte_5 rfl ?_
  refine QW_iload_n zd_JA_copyOfRangeByte_6 rfl ?_
  refine QW_isub zd_JA_copyOfRangeByte_7 ?_
  refine QW_z (show _ = (n : Int) by omega) ?_
  refine QW_istore_n zd_JA_copyOfRangeByte_8 rfl (by decide) rfl ?_
  refine QW_iload_n zd_JA_copyOfRangeByte_9 rfl ?_
  refine QW_newa (i := 1) (N := n) zd_JA_copyOfRangeByte_10 (by decide) rfl zwd_496 rfl (by omega) ⟨by omega, by omega⟩ (fun q => ?_)
  refine QW_astore zd_JA_copyOfRangeByte_12 rfl (by decide) rfl ?_
  refine QW_aload_n zd_JA_copyOfRangeByte_14 rfl ?_
  refine QW_iload_n zd_JA_copyOfRangeByte_15 rfl ?_
  refine QW_aload zd_JA_copyOfRangeByte_16 rfl ?_
  refine QW_iconst zd_JA_copyOfRangeByte_18 ?_
  refine QW_aload_n zd_JA_copyOfRangeByte_19 rfl ?_
  refine QW_blen zd_JA_copyOfRangeByte_20 List.mem_cons_self ?_
  refine QW_iload_n zd_JA_copyOfRangeByte_21 rfl ?_
  refine QW_isub zd_JA_copyOfRangeByte_22 ?_
  refine QW_iload_n zd_JA_copyOfRangeByte_23 rfl ?_
  refine QW_mmin zd_JA_copyOfRangeByte_24 zlmin_JA_304 ⟨⟨by omega, by omega⟩, by omega, by omega⟩ (Nat.le_of_ble_eq_true rfl) (by decide) ⟨by omega, by omega⟩ ?_
  refine QW_z (show _ = (n : Int) by split <;> omega) ?_
  refine QW_copyB zd_JA_copyOfRangeByte_27 zlcpy_JA_150 (List.Perm.swap _ _ _) List.mem_cons_self ⟨⟨by decide, by decide, by omega⟩, by omega, by omega, by omega, by omega⟩ (fun j => (xfitb (hf j)).1) (Nat.le_of_ble_eq_true rfl) (by decide) ?_
  refine QW_aload zd_JA_copyOfRangeByte_30 rfl ?_
  refine QW_aret zd_JA_copyOfRangeByte_32 (Or.inr ⟨_, rfl⟩) ⟨by omega, by omega⟩ (hX q (zcpyF f (fun _ => 0) 0 0 (n : Int).toNat) (fun j hj => ?_) (xcpy_r hf (fun _ => by decide)))
  unfold zcpyF
  rw [if_pos (by omega)]
  congr 1
  omega
set_option maxHeartbeats 1000000 in
theorem q_copyR {a m n : Nat} {f : Nat → Int} (h : n ≤ m ∧ m ≤ 60000) (hf : ∀ j, 0 ≤ f j ∧ f j < 128) (hX : ∀ q g, (∀ j, j < n → g j = f j) → (∀ j, 0 ≤ g j ∧ g j < 128) → X (some (.ref q)) [xBA cs q n g, xBA cs a m f]) : QM v D cs zm_JA_copyOfRange 7 1 n [.ref a, iZ 0, iZ (n : Int)] [xBA cs a m f] X := by
  refine qm_of zk_JA_copyOfRange (Nat.le_of_ble_eq_true rfl) (ls := [some (.ref a), some (iZ 0), some (iZ (n : Int))]) rfl ?_
  by_cases hnm : n = m
  · subst hnm
    refine QW_iload_n zd_JA_copyOfRange_0 rfl ?_
    refine QW_if_ne zd_JA_copyOfRange_1 (by decide) (fun hz => absurd rfl hz) (fun hz => ?_)
    refine QW_iload_n zd_JA_copyOfRange_4 rfl ?_
    refine QW_aload_n zd_JA_copyOfRange_5 rfl ?_
    refine QW_blen zd_JA_copyOfRange_6 List.mem_cons_self ?_
    refine QW_icmp_eq zd_JA_copyOfRange_7 ⟨⟨by omega, by omega⟩, by omega, by omega⟩ (fun hz => ?_) (fun hz => absurd rfl hz)
    refine QW_aload_n zd_JA_copyOfRange_17 rfl ?_
    refine QW_clone zd_JA_copyOfRange_18 zclo_lk List.mem_cons_self (fun j => (xfitb (hf j)).1) (Nat.le_of_ble_eq_true rfl) (by decide) ⟨by omega, by omega⟩ (fun q => ?_)
    refine QW_castB zd_JA_copyOfRange_21 zwd_674 (List.mem_cons_of_mem _ List.mem_cons_self) ?_
    refine QW_perm (List.Perm.swap _ _ _) ?_
    exact QW_aret zd_JA_copyOfRange_24 (Or.inr ⟨_, rfl⟩) ⟨by omega, by omega⟩ (hX q f (fun _ _ => rfl) hf)
  · have hlt : n < m := by omega
    refine QW_iload_n zd_JA_copyOfRange_0 rfl ?_
    refine QW_if_ne zd_JA_copyOfRange_1 (by decide) (fun hz => absurd rfl hz) (fun hz => ?_)
    refine QW_iload_n zd_JA_copyOfRange_4 rfl ?_
    refine QW_aload_n zd_JA_copyOfRange_5 rfl ?_
    refine QW_blen zd_JA_copyOfRange_6 List.mem_cons_self ?_
    refine QW_icmp_eq zd_JA_copyOfRange_7 ⟨⟨by omega, by omega⟩, by omega, by omega⟩ (fun hz => by omega) (fun hz => ?_)
    refine QW_aload_n zd_JA_copyOfRange_10 rfl ?_
    refine QW_iload_n zd_JA_copyOfRange_11 rfl ?_
    refine QW_iload_n zd_JA_copyOfRange_12 rfl ?_
    refine QW_callS (wc := [xBA cs a m f]) (wr := []) (as := [.ref a, iZ 0, iZ (n : Int)]) (mc' := 1) (ms' := n) (X' := fun u w => ∃ q g, u = some (.ref q) ∧ w = [xBA cs q n g, xBA cs a m f] ∧ (∀ j, j < n → g j = f j) ∧ ∀ j, 0 ≤ g j ∧ g j < 128) zd_JA_copyOfRange_13 zl_JA_339 zk_JA_copyOfRangeByte zv_JA_copyOfRangeByte (fr' := 6) (by decide) rfl rfl (Nat.le_of_ble_eq_true rfl) (List.Perm.refl _) ⟨by omega, by omega⟩ (q_copyRB h hf (fun q g h1 h2 => ⟨q, g, rfl, rfl, h1, h2⟩)) (fun u w h => ?_)
    obtain ⟨q, g, rfl, rfl, h1, h2⟩ := h
    exact QW_aret zd_JA_copyOfRange_16 (Or.inr ⟨_, rfl⟩) ⟨by omega, by omega⟩ (hX q g h1 h2)
set_option maxHeartbeats 1000000 in
theorem q_initS2 {b m s : Nat} {t : List Int} {w : va_W} (hB : xBld cs b t m w) (hX : ∀ w', xStr cs s t w' → X none w') : QM v D cs zm_JS_init_db425 8 1 t.length [.ref s, .ref b, .null] (w ++ [(s, .inr (7, [.null, iZ 0, iZ 0, iZ 0]))]) X := by
  refine qm_of zk_JS_init_db425 (Nat.le_of_ble_eq_true rfl) (ls := [some (.ref s), some (.ref b), some .null, none, none]) rfl ?_
  obtain ⟨da, f, rfl, hf0, hm0, hf1⟩ := hB
  refine QW_aload_n zd_JS_init_db425_0 rfl ?_
  refine QW_objI zd_JS_init_db425_1 zol_JS_1 (by decide) (Nat.le_of_ble_eq_true rfl) ?_
  refine QW_aload_n zd_JS_init_db425_4 rfl ?_
  refine QW_callU (wc := [xSB b da (t.length : Int)]) (wr := [xBA cs da m f, (s, .inr (7, [.null, iZ 0, iZ 0, iZ 0]))]) (as := []) (mc' := 0) (ms' := 0) (X' := fun u w => u = some (.ref da) ∧ w = [xSB b da (t.length : Int)]) zd_JS_init_db425_5 zl_JS_552 zk_JB_getValue zsm_JB_getValue zse_JB_getValue zim_JB_getValue (fr' := 0) (by decide) List.mem_cons_self rfl rfl rfl (Nat.le_of_ble_eq_true rfl) (List.Perm.refl _) ⟨by omega, by omega⟩ (q_getValue ⟨rfl, rfl⟩) (fun u w h => ?_)
  obtain ⟨rfl, rfl⟩ := h
  refine QW_astore_n zd_JS_init_db425_8 rfl (by decide) rfl ?_
  refine QW_aload_n zd_JS_init_db425_9 rfl ?_
  refine QW_callO (wc := [xSB b da (t.length : Int)]) (wr := [xBA cs da m f, (s, .inr (7, [.null, iZ 0, iZ 0, iZ 0]))]) (as := []) (mc' := 0) (ms' := 0) (X' := fun u w => u = some (iZ (t.length : Int)) ∧ w = [xSB b da (t.length : Int)]) zd_JS_init_db425_10 zl_JS_549 zk_JB_length zk_JD_length zsm_JB_length zim_JB_length zse_JB_length zim_JD_length (fr' := 1) (by decide) List.mem_cons_self rfl rfl rfl (Nat.le_of_ble_eq_true rfl) (List.Perm.refl _) ⟨by omega, by omega⟩ (q_lengthD ⟨rfl, rfl⟩) (fun u w h => ?_)
  obtain ⟨rfl, rfl⟩ := h
  refine QW_istore zd_JS_init_db425_13 rfl (by decide) rfl ?_
  refine QW_aload_n zd_JS_init_db425_15 rfl ?_
  refine QW_callU (wc := [xSB b da (t.length : Int)]) (wr := [xBA cs da m f, (s, .inr (7, [.null, iZ 0, iZ 0, iZ 0]))]) (as := []) (mc' := 0) (ms' := 0) (X' := fun u w => u = some (iZ 1) ∧ w = [xSB b da (t.length : Int)]) zd_JS_init_db425_16 zl_JS_1047 zk_JB_isLatin1 zsm_JB_isLatin1 zse_JB_isLatin1 zim_JB_isLatin1 (fr' := 0) (by decide) List.mem_cons_self rfl rfl rfl (Nat.le_of_ble_eq_true rfl) (List.Perm.refl _) ⟨by omega, by omega⟩ (q_isLatin1B ⟨rfl, rfl⟩) (fun u w h => ?_)
  obtain ⟨rfl, rfl⟩ := h
  refine QW_if_eq zd_JS_init_db425_19 (by decide) (fun hz => absurd hz (by decide)) (fun hz => ?_)
  refine QW_aload_n zd_JS_init_db425_22 rfl ?_
  refine QW_iconst zd_JS_init_db425_23 ?_
  refine QW_perm (ws' := [(s, .inr (7, [.null, iZ 0, iZ 0, iZ 0])), xSB b da (t.length : Int), xBA cs da m f]) (by exact (List.perm_append_comm (l₁ := [xSB b da (t.length : Int), xBA cs da m f]) (l₂ := [(s, .inr (7, [.null, iZ 0, iZ 0, iZ 0]))]))) ?_
  refine QW_put zd_JS_init_db425_24 zf_JS_15 (List.Perm.refl _) (xsfin ⟨rfl, rfl⟩) (fty := .byte) (by decide +kernel) rfl rfl (Nat.le_of_ble_eq_true rfl) ?_
  refine QW_aload_n zd_JS_init_db425_27 rfl ?_
  refine QW_aload_n zd_JS_init_db425_28 rfl ?_
  refine QW_iconst zd_JS_init_db425_29 ?_
  refine QW_iload zd_JS_init_db425_30 rfl ?_
  refine QW_callS (wc := [xBA cs da m f]) (wr := [(s, .inr (7, [.null, iZ 0, iZ 0, iZ 0])), xSB b da (t.length : Int)]) (as := [.ref da, iZ 0, iZ (t.length : Int)]) (mc' := 1) (ms' := t.length) (X' := fun u w => ∃ q g, u = some (.ref q) ∧ w = [xBA cs q t.length g, xBA cs da m f] ∧ (∀ j, j < t.length → g j = f j) ∧ ∀ j, 0 ≤ g j ∧ g j < 128) zd_JS_init_db425_32 zl_JS_54 zk_JA_copyOfRange zv_JA_copyOfRange (fr' := 7) (by decide) rfl rfl (Nat.le_of_ble_eq_true rfl) (by exact (List.perm_append_comm (l₁ := [(s, .inr (7, [.null, iZ 0, iZ 0, iZ 0])), xSB b da (t.length : Int)]) (l₂ := [xBA cs da m f]))) ⟨by omega, by omega⟩ (q_copyR ⟨by omega, by omega⟩ hf1 (fun q g h1 h2 => ⟨q, g, rfl, rfl, h1, h2⟩)) (fun u w h => ?_)
  obtain ⟨q, g, rfl, rfl, g1, g2⟩ := h
  refine QW_perm (ws' := [(s, .inr (7, [.null, iZ 0, iZ 0, iZ 0])), xBA cs q t.length g, xBA cs da m f, xSB b da (t.length : Int)]) ?_ ?_
  · exact (List.perm_append_comm (l₁ := [xBA cs q t.length g, xBA cs da m f]) (l₂ := [(s, .inr (7, [.null, iZ 0, iZ 0, iZ 0])), xSB b da (t.length : Int)])).trans (List.Perm.cons _ ((List.Perm.swap _ _ _).trans (List.Perm.cons _ (List.Perm.swap _ _ _))))
  refine QW_put zd_JS_init_db425_35 zf_JS_9 (List.Perm.refl _) (xsfin ⟨rfl, rfl⟩) (fty := .array .byte) (by decide +kernel) rfl rfl (Nat.le_of_ble_eq_true rfl) ?_
  refine QW_drop (wa := [xST s q, xBA cs q t.length g]) (wb := [xBA cs da m f, xSB b da (t.length : Int)]) (List.Perm.refl _) ?_
  refine QW_goto zd_JS_init_db425_38 ?_
  exact QW_vret zd_JS_init_db425_97 rfl ⟨by omega, by omega⟩ (hX _ ⟨q, g, rfl, fun j hj => (g1 j hj).trans (hf0 j hj), g2⟩)
set_option maxHeartbeats 1000000 in
theorem q_initS {b m s : Nat} {t : List Int} {w : va_W} (hB : xBld cs b t m w) (hX : ∀ w', xStr cs s t w' → X none w') : QM v D cs zm_JS_init 9 1 t.length [.ref s, .ref b] (w ++ [(s, .inr (7, [.null, iZ 0, iZ 0, iZ 0]))]) X := by
  refine qm_of zk_JS_init (Nat.le_of_ble_eq_true rfl) (ls := [some (.ref s), some (.ref b)]) rfl ?_
  refine QW_aload_n zd_JS_init_0 rfl ?_
  refine QW_aload_n zd_JS_init_1 rfl ?_
  refine QW_null zd_JS_init_2 ?_
  refine QW_callI (wc := w ++ [(s, .inr (7, [.null, iZ 0, iZ 0, iZ 0]))]) (wr := []) (as := [.ref b, .null]) (mc' := 1) (ms' := t.length) (X' := fun u w => u = none ∧ xStr cs s t w) zd_JS_init_3 zl_JS_489 zk_JS_init_db425 rfl rfl zim_JS_init_db425 (fr' := 8) (by decide) rfl rfl (Nat.le_of_ble_eq_true rfl) (by rw [List.append_nil]) ⟨by omega, by omega⟩ (q_initS2 hB (fun w' hw => ⟨rfl, hw⟩)) (fun u w h => ?_)
  obtain ⟨rfl, hw⟩ := h
  exact QW_vret zd_JS_init_6 rfl ⟨by omega, by omega⟩ (hX _ (by rwa [List.append_nil]))
set_option maxHeartbeats 1000000 in
theorem q_toString {b m : Nat} {t : List Int} {w : va_W} (hB : xBld cs b t m w) (hX : ∀ s w', xStr cs s t w' → X (some (.ref s)) w') : QM v D cs zm_JD_toString 10 2 (4 + t.length) [.ref b] w X := by
  refine qm_of zk_JD_toString (Nat.le_of_ble_eq_true rfl) (ls := [some (.ref b)]) rfl ?_
  refine QW_new (ci := 7) (f0 := [.null, iZ 0, iZ 0, iZ 0]) zd_JD_toString_0 rfl zwd_816 zwd_817 zwd_11 zo_JS ⟨by omega, by omega⟩ (fun s => ?_)
  refine QW_dup zd_JD_toString_3 rfl ?_
  refine QW_aload_n zd_JD_toString_4 rfl ?_
  refine QW_callI (wc := w ++ [(s, .inr (7, [.null, iZ 0, iZ 0, iZ 0]))]) (wr := []) (as := [.ref b]) (mc' := 1) (ms' := t.length) (X' := fun u w => u = none ∧ xStr cs s t w) zd_JD_toString_5 zl_JD_137 zk_JS_init rfl rfl zim_JS_init (fr' := 9) (by decide) rfl rfl (Nat.le_of_ble_eq_true rfl) (by rw [List.append_nil]) ⟨by omega, by omega⟩ (q_initS hB (fun w' hw => ⟨rfl, hw⟩)) (fun u w h => ?_)
  obtain ⟨rfl, hw⟩ := h
  exact QW_aret zd_JD_toString_8 (Or.inl ⟨_, rfl⟩) ⟨by omega, by omega⟩ (hX s _ (by rwa [List.append_nil]))
end JDKr
