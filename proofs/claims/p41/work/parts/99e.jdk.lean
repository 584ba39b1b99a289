abbrev xSB (b da : Nat) (c : Int) : Nat × va_E := (b, .inr (8, [.ref da, iZ 0, iZ 0, iZ c]))
abbrev xBA (cs : Nat → ClassId) (a n : Nat) (f : Nat → Int) : Nat × va_E := (a, .inl (cs 1, zarr 1 n f))
abbrev xST (q va : Nat) : Nat × va_E := (q, .inr (7, [.ref va, iZ 0, iZ 0, iZ 0]))
theorem xLen_r (i : Nat) : xLen.getD i 0 ≤ 200 := by
  by_cases h : i < 23
  · exact (show ∀ j : Fin 23, xLen.getD j.val 0 ≤ 200 by decide) ⟨i, h⟩
  · have : xLen[i]? = none := List.getElem?_eq_none (by show 23 ≤ i; omega)
    simp [List.getD, this]
theorem xBy_r (i j : Nat) : 0 ≤ xBy i j ∧ xBy i j < 128 := by
  have key : ∀ l ∈ xByt, ∀ x ∈ l, 0 ≤ x.toInt ∧ x.toInt < 128 := by decide +kernel
  unfold xBy
  by_cases h : i < xByt.length
  · have e : xByt.getD i [] = xByt[i] := by simp [List.getD, h]
    rw [e]
    by_cases h2 : j < (xByt[i]).length
    · have e2 : (xByt[i]).getD j 0 = (xByt[i])[j] := by simp [List.getD, h2]
      rw [e2]
      exact key _ (List.getElem_mem h) _ (List.getElem_mem h2)
    · have e2 : (xByt[i]).getD j 0 = 0 := by simp [List.getD, List.getElem?_eq_none (Nat.le_of_not_lt h2)]
      rw [e2]; exact ⟨by decide, by decide⟩
  · have e : xByt.getD i [] = [] := by simp [List.getD, List.getElem?_eq_none (Nat.le_of_not_lt h)]
    rw [e]; simp [List.getD]
theorem xfitb {z : Int} (h : 0 ≤ z ∧ z < 128) : fits .byte (iZ z) = true ∧ vp_nar .byte (Int32.ofInt z) = Int32.ofInt z ∧ (Int32.ofInt z).toInt8.toInt32 = Int32.ofInt z := by
  obtain ⟨n, rfl⟩ := Int.eq_ofNat_of_zero_le h.1
  exact (show ∀ k : Fin 128, fits .byte (iZ ((k.val : Nat) : Int)) = true ∧ vp_nar .byte (Int32.ofInt ((k.val : Nat) : Int)) = Int32.ofInt ((k.val : Nat) : Int) ∧ (Int32.ofInt ((k.val : Nat) : Int)).toInt8.toInt32 = Int32.ofInt ((k.val : Nat) : Int) by decide +kernel) ⟨n, by omega⟩
theorem xchr {z : Int} (h : 0 ≤ z ∧ z < 128) : ((Int32.ofInt z).toUInt32 % 65536).toInt32 = Int32.ofInt z ∧ narrow .char (iZ z) = iZ z := by
  obtain ⟨n, rfl⟩ := Int.eq_ofNat_of_zero_le h.1
  exact (show ∀ k : Fin 128, ((Int32.ofInt ((k.val : Nat) : Int)).toUInt32 % 65536).toInt32 = Int32.ofInt ((k.val : Nat) : Int) ∧ narrow .char (iZ ((k.val : Nat) : Int)) = iZ ((k.val : Nat) : Int) by decide +kernel) ⟨n, by omega⟩
theorem xnfin {kf : Nat} {P : u_T → Prop} (h0 : (zF_JD kf).2.2.2 = false) : ∀ (C : String) (T : u_T) (N : Nat), zcl[8]? = some (C, T, N) → (T kf).2.2.2 = true → P T := by
  intro C T N h hf
  have h := Option.some.inj (show some (zR_JD, zF_JD, 4) = some (C, T, N) from h)
  cases h
  rw [h0] at hf
  cases hf
section JDKq
variable {v : xEv} {D : va_G} {cs : Nat → ClassId} {X : xX}
set_option maxHeartbeats 1000000 in
theorem q_coderC {i : Nat} (hi : i < 23) (hX : X (some (iZ 0)) []) : QM v D cs zm_JS_coder 0 0 0 [.ref (v.1 i)] [] X := by
  refine qm_of zk_JS_coder (Nat.le_of_ble_eq_true rfl) (ls := [some (.ref (v.1 i))]) rfl ?_
  refine QW_compact zd_JS_coder_0 zsf_38 ?_
  refine QW_if_eq zd_JS_coder_3 (by decide) (fun hz => absurd hz (by decide)) (fun hz => ?_)
  refine QW_aload_n zd_JS_coder_6 rfl ?_
  refine QW_coderC hi zd_JS_coder_7 zsf_15 ?_
  refine QW_goto zd_JS_coder_10 ?_
  exact QW_bret zd_JS_coder_14 rfl rfl ⟨Nat.le_refl _, Nat.le_refl _⟩ hX
set_option maxHeartbeats 1000000 in
theorem q_lengthC {i : Nat} (hi : i < 23) (hX : X (some (iZ ((xLen.getD i 0 : Nat) : Int))) []) : QM v D cs zm_JS_length 1 0 0 [.ref (v.1 i)] [] X := by
  refine qm_of zk_JS_length (Nat.le_of_ble_eq_true rfl) (ls := [some (.ref (v.1 i))]) rfl ?_
  have hln := xLen_r i
  refine QW_aload_n zd_JS_length_0 rfl ?_
  refine QW_valueC hi zd_JS_length_1 zsf_9 ?_
  refine QW_tlenC hi zd_JS_length_4 ?_
  refine QW_aload_n zd_JS_length_5 rfl ?_
  refine QW_callK (wc := []) (wr := []) (as := []) (mc' := 0) (ms' := 0) (X' := fun u w => u = some (iZ 0) ∧ w = []) zd_JS_length_6 zl_JS_335 zk_JS_coder zv_JS_coder (fr' := 0) (by decide) hi rfl rfl rfl (Nat.le_of_ble_eq_true rfl) (List.Perm.refl _) ⟨by omega, by omega⟩ (q_coderC hi ⟨rfl, rfl⟩) (fun u w h => ?_)
  obtain ⟨rfl, rfl⟩ := h
  refine QW_ishrC 1 zd_JS_length_9 ⟨by omega, by decide, by decide⟩ rfl ?_
  exact QW_iret zd_JS_length_10 rfl ⟨by omega, by omega⟩ (by rw [Int.ediv_one]; exact hX)
set_option maxHeartbeats 1000000 in
theorem q_coderM {q va : Nat} (hX : X (some (iZ 0)) [xST q va]) : QM v D cs zm_JS_coder 0 0 0 [.ref q] [xST q va] X := by
  refine qm_of zk_JS_coder (Nat.le_of_ble_eq_true rfl) (ls := [some (.ref q)]) rfl ?_
  refine QW_compact zd_JS_coder_0 zsf_38 ?_
  refine QW_if_eq zd_JS_coder_3 (by decide) (fun hz => absurd hz (by decide)) (fun hz => ?_)
  refine QW_aload_n zd_JS_coder_6 rfl ?_
  refine QW_get zd_JS_coder_7 zf_JS_15 List.mem_cons_self rfl ?_
  refine QW_goto zd_JS_coder_10 ?_
  exact QW_bret zd_JS_coder_14 rfl rfl ⟨Nat.le_refl _, Nat.le_refl _⟩ hX
set_option maxHeartbeats 1000000 in
theorem q_isLatin1M {q va : Nat} (hX : X (some (iZ 1)) [xST q va]) : QM v D cs zm_JS_isLatin1 0 0 0 [.ref q] [xST q va] X := by
  refine qm_of zk_JS_isLatin1 (Nat.le_of_ble_eq_true rfl) (ls := [some (.ref q)]) rfl ?_
  refine QW_compact zd_JS_isLatin1_0 zsf_38 ?_
  refine QW_if_eq zd_JS_isLatin1_3 (by decide) (fun hz => absurd hz (by decide)) (fun hz => ?_)
  refine QW_aload_n zd_JS_isLatin1_6 rfl ?_
  refine QW_get zd_JS_isLatin1_7 zf_JS_15 List.mem_cons_self rfl ?_
  refine QW_if_ne zd_JS_isLatin1_10 (by decide) (fun hz => absurd rfl hz) (fun hz => ?_)
  refine QW_iconst zd_JS_isLatin1_13 ?_
  refine QW_goto zd_JS_isLatin1_14 ?_
  exact QW_zret zd_JS_isLatin1_18 rfl (Or.inr rfl) ⟨Nat.le_refl _, Nat.le_refl _⟩ hX
set_option maxHeartbeats 1000000 in
theorem q_lengthM {q va n : Nat} {f : Nat → Int} (hn : n ≤ 60000) (hX : X (some (iZ (n : Int))) [xST q va, xBA cs va n f]) : QM v D cs zm_JS_length 1 0 0 [.ref q] [xST q va, xBA cs va n f] X := by
  refine qm_of zk_JS_length (Nat.le_of_ble_eq_true rfl) (ls := [some (.ref q)]) rfl ?_
  refine QW_aload_n zd_JS_length_0 rfl ?_
  refine QW_get zd_JS_length_1 zf_JS_9 List.mem_cons_self rfl ?_
  refine QW_blen zd_JS_length_4 (List.mem_cons_of_mem _ List.mem_cons_self) ?_
  refine QW_aload_n zd_JS_length_5 rfl ?_
  refine QW_callV (wc := [xST q va]) (wr := [xBA cs va n f]) (as := []) (mc' := 0) (ms' := 0) (X' := fun u w => u = some (iZ 0) ∧ w = [xST q va]) zd_JS_length_6 zl_JS_335 zk_JS_coder zv_JS_coder (fr' := 0) (by decide) List.mem_cons_self rfl rfl rfl rfl (Nat.le_of_ble_eq_true rfl) (List.Perm.refl _) ⟨by omega, by omega⟩ (q_coderM ⟨rfl, rfl⟩) (fun u w h => ?_)
  obtain ⟨rfl, rfl⟩ := h
  refine QW_ishrC 1 zd_JS_length_9 ⟨by omega, by decide, by decide⟩ rfl ?_
  exact QW_iret zd_JS_length_10 rfl ⟨by omega, by omega⟩ (by rw [Int.ediv_one]; exact hX)
set_option maxHeartbeats 1000000 in
theorem q_PcheckIndex {i n : Int} {u : Value} (hu : u.category = 1) (hi : 0 ≤ i ∧ i < n) (hn : n < 2147483648) (hX : X (some (iZ i)) []) : QM v D cs zm_JP_checkIndex 0 0 0 [iZ i, iZ n, u] [] X := by
  refine qm_of zk_JP_checkIndex ?_ (ls := [some (iZ i), some (iZ n), some u]) ?_ ?_
  rotate_left 2
  refine QW_iload_n zd_JP_checkIndex_0 rfl ?_
  refine QW_if_lt zd_JP_checkIndex_1 (by omega) (fun hz => by omega) (fun hz => ?_)
  refine QW_iload_n zd_JP_checkIndex_4 rfl ?_
  refine QW_iload_n zd_JP_checkIndex_5 rfl ?_
  refine QW_icmp_lt zd_JP_checkIndex_6 ⟨by omega, by omega⟩ (fun hz => ?_) (fun hz => by omega)
  refine QW_iload_n zd_JP_checkIndex_16 rfl ?_
  exact QW_iret zd_JP_checkIndex_17 rfl ⟨Nat.le_refl _, Nat.le_refl _⟩ hX
  · cases u <;> first | exact Nat.le_of_ble_eq_true rfl | (simp [Value.category] at hu)
  · cases u <;> first | rfl | (simp [Value.category] at hu)
set_option maxHeartbeats 1000000 in
theorem q_ScheckIndex {i n : Int} (hi : 0 ≤ i ∧ i < n) (hn : n < 2147483648) (hX : X none []) : QM v D cs zm_JS_checkIndex 1 0 0 [iZ i, iZ n] [] X := by
  refine qm_of zk_JS_checkIndex (Nat.le_of_ble_eq_true rfl) (ls := [some (iZ i), some (iZ n)]) rfl ?_
  refine QW_iload_n zd_JS_checkIndex_0 rfl ?_
  refine QW_iload_n zd_JS_checkIndex_1 rfl ?_
  refine QW_formatter zd_JS_checkIndex_2 zsf_1053 (fun u hu => ?_)
  refine QW_callS (wc := []) (wr := []) (as := [iZ i, iZ n, u]) (mc' := 0) (ms' := 0) (X' := fun x w => x = some (iZ i) ∧ w = []) zd_JS_checkIndex_5 zl_JS_1059 zk_JP_checkIndex zv_JP_checkIndex (fr' := 0) (by decide) rfl rfl (Nat.le_of_ble_eq_true rfl) (List.Perm.refl _) ⟨by omega, by omega⟩ (q_PcheckIndex hu hi hn ⟨rfl, rfl⟩) (fun x w h => ?_)
  obtain ⟨rfl, rfl⟩ := h
  refine QW_pop zd_JS_checkIndex_8 rfl ?_
  exact QW_vret zd_JS_checkIndex_9 rfl ⟨by omega, by omega⟩ hX
set_option maxHeartbeats 1000000 in
theorem q_LcharAt {va n : Nat} {f : Nat → Int} {i : Int} (hn : n ≤ 60000) (hi : 0 ≤ i ∧ i < n) (hf : 0 ≤ f i.toNat ∧ f i.toNat < 128) (hX : X (some (iZ (f i.toNat))) [xBA cs va n f]) : QM v D cs zm_JL_charAt 2 0 0 [.ref va, iZ i] [xBA cs va n f] X := by
  refine qm_of zk_JL_charAt (Nat.le_of_ble_eq_true rfl) (ls := [some (.ref va), some (iZ i)]) rfl ?_
  refine QW_iload_n zd_JL_charAt_0 rfl ?_
  refine QW_aload_n zd_JL_charAt_1 rfl ?_
  refine QW_blen zd_JL_charAt_2 List.mem_cons_self ?_
  refine QW_callS (wc := []) (wr := [xBA cs va n f]) (as := [iZ i, iZ (n : Int)]) (mc' := 0) (ms' := 0) (X' := fun x w => x = none ∧ w = []) zd_JL_charAt_3 zl_JL_9 zk_JS_checkIndex zv_JS_checkIndex (fr' := 1) (by decide) rfl rfl (Nat.le_of_ble_eq_true rfl) (List.Perm.refl _) ⟨by omega, by omega⟩ (q_ScheckIndex hi (by omega) ⟨rfl, rfl⟩) (fun x w h => ?_)
  obtain ⟨rfl, rfl⟩ := h
  refine QW_aload_n zd_JL_charAt_6 rfl ?_
  refine QW_iload_n zd_JL_charAt_7 rfl ?_
  refine QW_bald zd_JL_charAt_8 List.mem_cons_self hi (by omega) ?_
  refine QW_sipush zd_JL_charAt_9 (by decide) ?_
  refine QW_iandm255 zd_JL_charAt_12 ?_
  refine QW_z (show _ = f i.toNat by omega) ?_
  refine QW_i2c zd_JL_charAt_13 (xchr hf).1 ?_
  exact QW_cret zd_JL_charAt_14 rfl (xchr hf).2 ⟨by omega, by omega⟩ hX
set_option maxHeartbeats 1000000 in
theorem q_charAtM {q va n : Nat} {f : Nat → Int} {i : Int} (hn : n ≤ 60000) (hi : 0 ≤ i ∧ i < n) (hf : 0 ≤ f i.toNat ∧ f i.toNat < 128) (hX : X (some (iZ (f i.toNat))) [xST q va, xBA cs va n f]) : QM v D cs zm_JS_charAt 3 0 0 [.ref q, iZ i] [xST q va, xBA cs va n f] X := by
  refine qm_of zk_JS_charAt (Nat.le_of_ble_eq_true rfl) (ls := [some (.ref q), some (iZ i)]) rfl ?_
  refine QW_aload_n zd_JS_charAt_0 rfl ?_
  refine QW_callV (wc := [xST q va]) (wr := [xBA cs va n f]) (as := []) (mc' := 0) (ms' := 0) (X' := fun u w => u = some (iZ 1) ∧ w = [xST q va]) zd_JS_charAt_1 zl_JS_492 zk_JS_isLatin1 zv_JS_isLatin1 (fr' := 0) (by decide) List.mem_cons_self rfl rfl rfl rfl (Nat.le_of_ble_eq_true rfl) (List.Perm.refl _) ⟨by omega, by omega⟩ (q_isLatin1M ⟨rfl, rfl⟩) (fun u w h => ?_)
  obtain ⟨rfl, rfl⟩ := h
  refine QW_if_eq zd_JS_charAt_4 (by decide) (fun hz => absurd hz (by decide)) (fun hz => ?_)
  refine QW_aload_n zd_JS_charAt_7 rfl ?_
  refine QW_get zd_JS_charAt_8 zf_JS_9 List.mem_cons_self rfl ?_
  refine QW_iload_n zd_JS_charAt_11 rfl ?_
  refine QW_callS (wc := [xBA cs va n f]) (wr := [xST q va]) (as := [.ref va, iZ i]) (mc' := 0) (ms' := 0) (X' := fun u w => u = some (iZ (f i.toNat)) ∧ w = [xBA cs va n f]) zd_JS_charAt_12 zl_JS_495 zk_JL_charAt zv_JL_charAt (fr' := 2) (by decide) rfl rfl (Nat.le_of_ble_eq_true rfl) (List.Perm.swap _ _ _) ⟨by omega, by omega⟩ (q_LcharAt hn hi hf ⟨rfl, rfl⟩) (fun u w h => ?_)
  obtain ⟨rfl, rfl⟩ := h
  refine QW_perm (List.Perm.swap _ _ _) ?_
  exact QW_cret zd_JS_charAt_15 rfl (xchr hf).2 ⟨by omega, by omega⟩ hX
set_option maxHeartbeats 1000000 in
theorem q_isLatin1B {b da : Nat} {c : Int} (hX : X (some (iZ 1)) [xSB b da c]) : QM v D cs zm_JB_isLatin1 0 0 0 [.ref b] [xSB b da c] X := by
  refine qm_of zk_JB_isLatin1 (Nat.le_of_ble_eq_true rfl) (ls := [some (.ref b)]) rfl ?_
  refine QW_compact zd_JB_isLatin1_0 zfl_JB_18 ?_
  refine QW_if_eq zd_JB_isLatin1_3 (by decide) (fun hz => absurd hz (by decide)) (fun hz => ?_)
  refine QW_aload_n zd_JB_isLatin1_6 rfl ?_
  refine QW_get zd_JB_isLatin1_7 zf_JB_22 List.mem_cons_self rfl ?_
  refine QW_if_ne zd_JB_isLatin1_10 (by decide) (fun hz => absurd rfl hz) (fun hz => ?_)
  refine QW_iconst zd_JB_isLatin1_13 ?_
  refine QW_goto zd_JB_isLatin1_14 ?_
  exact QW_zret zd_JB_isLatin1_18 rfl (Or.inr rfl) ⟨Nat.le_refl _, Nat.le_refl _⟩ hX
set_option maxHeartbeats 1000000 in
theorem q_getValue {b da : Nat} {c : Int} (hX : X (some (.ref da)) [xSB b da c]) : QM v D cs zm_JB_getValue 0 0 0 [.ref b] [xSB b da c] X := by
  refine qm_of zk_JB_getValue (Nat.le_of_ble_eq_true rfl) (ls := [some (.ref b)]) rfl ?_
  refine QW_aload_n zd_JB_getValue_0 rfl ?_
  refine QW_get zd_JB_getValue_1 zf_JB_15 List.mem_cons_self rfl ?_
  exact QW_aret zd_JB_getValue_4 (Or.inr ⟨_, rfl⟩) ⟨Nat.le_refl _, Nat.le_refl _⟩ hX
set_option maxHeartbeats 1000000 in
theorem q_lengthB {b da : Nat} {c : Int} (hX : X (some (iZ c)) [xSB b da c]) : QM v D cs zm_JB_length 0 0 0 [.ref b] [xSB b da c] X := by
  refine qm_of zk_JB_length (Nat.le_of_ble_eq_true rfl) (ls := [some (.ref b)]) rfl ?_
  refine QW_aload_n zd_JB_length_0 rfl ?_
  refine QW_get zd_JB_length_1 zf_JB_79 List.mem_cons_self rfl ?_
  exact QW_iret zd_JB_length_4 rfl ⟨Nat.le_refl _, Nat.le_refl _⟩ hX
set_option maxHeartbeats 1000000 in
theorem q_lengthD {b da : Nat} {c : Int} (hX : X (some (iZ c)) [xSB b da c]) : QM v D cs zm_JD_length 1 0 0 [.ref b] [xSB b da c] X := by
  refine qm_of zk_JD_length (Nat.le_of_ble_eq_true rfl) (ls := [some (.ref b)]) rfl ?_
  refine QW_aload_n zd_JD_length_0 rfl ?_
  refine QW_callSU (wc := [xSB b da c]) (wr := []) (as := []) (mc' := 0) (ms' := 0) (X' := fun u w => u = some (iZ c) ∧ w = [xSB b da c]) zd_JD_length_1 zl_JD_343 zk_JB_length (by decide) zsm_JB_length zwd_641 zim_JB_length (fr' := 0) (by decide) List.mem_cons_self rfl rfl rfl (Nat.le_of_ble_eq_true rfl) (List.Perm.refl _) ⟨by omega, by omega⟩ (q_lengthB ⟨rfl, rfl⟩) (fun u w h => ?_)
  obtain ⟨rfl, rfl⟩ := h
  exact QW_iret zd_JD_length_4 rfl ⟨by omega, by omega⟩ hX
set_option maxHeartbeats 1000000 in
theorem q_newLength {a g p : Int} (h : (0 < a ∧ a < 60000) ∧ (0 ≤ g ∧ g < 60000) ∧ 0 ≤ p ∧ p < 200000) (hX : X (some (iZ (a + if g < p then p else g))) []) : QM v D cs zm_JV_newLength 1 0 0 [iZ a, iZ g, iZ p] [] X := by
  refine qm_of zk_JV_newLength (Nat.le_of_ble_eq_true rfl) (ls := [some (iZ a), some (iZ g), some (iZ p), none]) rfl ?_
  have hm : 0 ≤ (if g < p then p else g) ∧ (if g < p then p else g) < 200000 := by split <;> omega
  refine QW_iload_n zd_JV_newLength_0 rfl ?_
  refine QW_iload_n zd_JV_newLength_1 rfl ?_
  refine QW_iload_n zd_JV_newLength_2 rfl ?_
  refine QW_mmax zd_JV_newLength_3 zlmax_JV_194 ⟨⟨by omega, by omega⟩, by omega, by omega⟩ (Nat.le_of_ble_eq_true rfl) (by decide) ⟨Nat.le_refl _, Nat.le_refl _⟩ ?_
  refine QW_iadd zd_JV_newLength_6 ?_
  refine QW_istore_n zd_JV_newLength_7 rfl (by decide) rfl ?_
  refine QW_iconst zd_JV_newLength_8 ?_
  refine QW_iload_n zd_JV_newLength_9 rfl ?_
  refine QW_icmp_ge zd_JV_newLength_10 ⟨⟨by omega, by omega⟩, by omega, by omega⟩ (fun hz => by omega) (fun hz => ?_)
  refine QW_iload_n zd_JV_newLength_13 rfl ?_
  refine QW_ldc zd_JV_newLength_14 zcst_JV_200 ?_
  refine QW_icmp_gt zd_JV_newLength_16 ⟨⟨by omega, by omega⟩, by omega, by omega⟩ (fun hz => by omega) (fun hz => ?_)
  refine QW_iload_n zd_JV_newLength_19 rfl ?_
  exact QW_iret zd_JV_newLength_20 rfl ⟨Nat.le_refl _, Nat.le_refl _⟩ hX
def xCap (m k : Nat) : Nat := m + if k - m < m + 2 then m + 2 else k - m
theorem xCap_r {m k : Nat} : m + 2 ≤ xCap m k ∧ k ≤ xCap m k := by unfold xCap; split <;> omega
set_option maxHeartbeats 1000000 in
theorem q_newCapacity {b da m : Nat} {f : Nat → Int} {c : Int} {k : Nat} (h : m < k ∧ k < 30000 ∧ 0 < m) (hX : X (some (iZ ((xCap m k : Nat) : Int))) [xSB b da c, xBA cs da m f]) : QM v D cs zm_JB_newCapacity 2 0 0 [.ref b, iZ (k : Int)] [xSB b da c, xBA cs da m f] X := by
  refine qm_of zk_JB_newCapacity (Nat.le_of_ble_eq_true rfl) (ls := [some (.ref b), some (iZ (k : Int)), none, none, none, none]) rfl ?_
  have e : (m : Int) + (if (k : Int) - m < m + 2 then (m : Int) + 2 else (k : Int) - m) = ((xCap m k : Nat) : Int) := by unfold xCap; split <;> split <;> omega
  have hr : xCap m k < 200000 := by unfold xCap; split <;> omega
  refine QW_aload_n zd_JB_newCapacity_0 rfl ?_
  refine QW_get zd_JB_newCapacity_1 zf_JB_15 List.mem_cons_self rfl ?_
  refine QW_blen zd_JB_newCapacity_4 (List.mem_cons_of_mem _ List.mem_cons_self) ?_
  refine QW_istore_n zd_JB_newCapacity_5 rfl (by decide) rfl ?_
  refine QW_iload_n zd_JB_newCapacity_6 rfl ?_
  refine QW_aload_n zd_JB_newCapacity_7 rfl ?_
  refine QW_get zd_JB_newCapacity_8 zf_JB_22 List.mem_cons_self rfl ?_
  refine QW_ishlC 1 zd_JB_newCapacity_11 (by decide) rfl ?_
  refine QW_z (show _ = (k : Int) by omega) ?_
  refine QW_istore_n zd_JB_newCapacity_12 rfl (by decide) rfl ?_
  refine QW_iload_n zd_JB_newCapacity_13 rfl ?_
  refine QW_iload_n zd_JB_newCapacity_14 rfl ?_
  refine QW_isub zd_JB_newCapacity_15 ?_
  refine QW_istore zd_JB_newCapacity_16 rfl (by decide) rfl ?_
  refine QW_iload_n zd_JB_newCapacity_18 rfl ?_
  refine QW_iload zd_JB_newCapacity_19 rfl ?_
  refine QW_iload_n zd_JB_newCapacity_21 rfl ?_
  refine QW_iconst zd_JB_newCapacity_22 ?_
  refine QW_aload_n zd_JB_newCapacity_23 rfl ?_
  refine QW_get zd_JB_newCapacity_24 zf_JB_22 List.mem_cons_self rfl ?_
  refine QW_ishlC 1 zd_JB_newCapacity_27 (by decide) rfl ?_
  refine QW_z (show _ = (2 : Int) by decide) ?_
  refine QW_iadd zd_JB_newCapacity_28 ?_
  refine QW_callS (wc := []) (wr := [xSB b da c, xBA cs da m f]) (as := [iZ (m : Int), iZ ((k : Int) - m), iZ ((m : Int) + 2)]) (mc' := 0) (ms' := 0) (X' := fun u w => u = some (iZ ((xCap m k : Nat) : Int)) ∧ w = []) zd_JB_newCapacity_29 zl_JB_114 zk_JV_newLength zv_JV_newLength (fr' := 1) (by decide) rfl rfl (Nat.le_of_ble_eq_true rfl) (List.Perm.refl _) ⟨by omega, by omega⟩ (q_newLength ⟨⟨by omega, by omega⟩, ⟨by omega, by omega⟩, by omega, by omega⟩ ⟨by rw [e], rfl⟩) (fun u w h => ?_)
  obtain ⟨rfl, rfl⟩ := h
  refine QW_istore zd_JB_newCapacity_32 rfl (by decide) rfl ?_
  refine QW_iload zd_JB_newCapacity_34 rfl ?_
  refine QW_ldc zd_JB_newCapacity_36 zcst_JB_39 ?_
  refine QW_icmp_ne zd_JB_newCapacity_38 ⟨⟨by omega, by omega⟩, by omega, by omega⟩ (fun hz => ?_) (fun hz => by omega)
  refine QW_iload zd_JB_newCapacity_51 rfl ?_
  refine QW_aload_n zd_JB_newCapacity_53 rfl ?_
  refine QW_get zd_JB_newCapacity_54 zf_JB_22 List.mem_cons_self rfl ?_
  refine QW_ishrC 1 zd_JB_newCapacity_57 ⟨⟨by omega, by omega⟩, by decide, by decide⟩ rfl ?_
  exact QW_iret zd_JB_newCapacity_58 rfl ⟨by omega, by omega⟩ (by rw [Int.ediv_one]; exact hX)
set_option maxHeartbeats 1000000 in
theorem q_copyOf {a m N : Nat} {f : Nat → Int} (h : m < N ∧ N ≤ 60000) (hf : ∀ j, 0 ≤ f j ∧ f j < 128) (hX : ∀ q, X (some (.ref q)) [xBA cs q N (zcpyF f (fun _ => 0) 0 0 m), xBA cs a m f]) : QM v D cs zm_JA_copyOf 6 1 N [.ref a, iZ (N : Int)] [xBA cs a m f] X := by
  refine qm_of zk_JA_copyOf (Nat.le_of_ble_eq_true rfl) (ls := [some (.ref a), some (iZ (N : Int)), none]) rfl ?_
  refine QW_iload_n zd_JA_copyOf_0 rfl ?_
  refine QW_aload_n zd_JA_copyOf_1 rfl ?_
  refine QW_blen zd_JA_copyOf_2 List.mem_cons_self ?_
  refine QW_icmp_ne zd_JA_copyOf_3 ⟨⟨by omega, by omega⟩, by omega, by omega⟩ (fun hz => ?_) (fun hz => by omega)
  refine QW_iload_n zd_JA_copyOf_14 rfl ?_
  refine QW_newa (i := 1) (N := N) zd_JA_copyOf_15 (by decide) rfl zwd_496 rfl h.2 ⟨by omega, by omega⟩ (fun q => ?_)
  refine QW_astore_n zd_JA_copyOf_17 rfl (by decide) rfl ?_
  refine QW_aload_n zd_JA_copyOf_18 rfl ?_
  refine QW_iconst zd_JA_copyOf_19 ?_
  refine QW_aload_n zd_JA_copyOf_20 rfl ?_
  refine QW_iconst zd_JA_copyOf_21 ?_
  refine QW_aload_n zd_JA_copyOf_22 rfl ?_
  refine QW_blen zd_JA_copyOf_23 List.mem_cons_self ?_
  refine QW_iload_n zd_JA_copyOf_24 rfl ?_
  refine QW_mmin zd_JA_copyOf_25 zlmin_JA_304 ⟨⟨by omega, by omega⟩, by omega, by omega⟩ (Nat.le_of_ble_eq_true rfl) (by decide) ⟨by omega, by omega⟩ ?_
  refine QW_z (show _ = (m : Int) from if_neg (by omega)) ?_
  refine QW_copyB zd_JA_copyOf_28 zlcpy_JA_150 (List.Perm.swap _ _ _) List.mem_cons_self ⟨⟨by decide, by decide, by omega⟩, by omega, by omega, by omega, by omega⟩ (fun j => (xfitb (hf j)).1) (Nat.le_of_ble_eq_true rfl) (by decide) ?_
  refine QW_aload_n zd_JA_copyOf_31 rfl ?_
  exact QW_aret zd_JA_copyOf_32 (Or.inr ⟨_, rfl⟩) ⟨by omega, by omega⟩ (by have := hX q; rwa [show ((m : Int)).toNat = m from Int.toNat_natCast m])
set_option maxHeartbeats 1000000 in
theorem q_ensure0 {mc ms b da m : Nat} {f : Nat → Int} {c : Int} {k : Nat} (h : k ≤ m ∧ m ≤ 60000) (hX : X none [xSB b da c, xBA cs da m f]) : QM v D cs zm_JB_ensureCapacityInternal 7 mc ms [.ref b, iZ (k : Int)] [xSB b da c, xBA cs da m f] X := by
  refine qm_of zk_JB_ensureCapacityInternal (Nat.le_of_ble_eq_true rfl) (ls := [some (.ref b), some (iZ (k : Int)), none]) rfl ?_
  refine QW_aload_n zd_JB_ensureCapacityInternal_0 rfl ?_
  refine QW_get zd_JB_ensureCapacityInternal_1 zf_JB_15 List.mem_cons_self rfl ?_
  refine QW_blen zd_JB_ensureCapacityInternal_4 (List.mem_cons_of_mem _ List.mem_cons_self) ?_
  refine QW_aload_n zd_JB_ensureCapacityInternal_5 rfl ?_
  refine QW_get zd_JB_ensureCapacityInternal_6 zf_JB_22 List.mem_cons_self rfl ?_
  refine QW_ishrC 1 zd_JB_ensureCapacityInternal_9 ⟨⟨by omega, by omega⟩, by decide, by decide⟩ rfl ?_
  refine QW_z (Int.ediv_one (m : Int)) ?_
  refine QW_istore_n zd_JB_ensureCapacityInternal_10 rfl (by decide) rfl ?_
  refine QW_iload_n zd_JB_ensureCapacityInternal_11 rfl ?_
  refine QW_iload_n zd_JB_ensureCapacityInternal_12 rfl ?_
  refine QW_isub zd_JB_ensureCapacityInternal_13 ?_
  refine QW_if_le zd_JB_ensureCapacityInternal_14 (by omega) (fun hz => ?_) (fun hz => by omega)
  exact QW_vret zd_JB_ensureCapacityInternal_38 rfl ⟨by omega, by omega⟩ hX
set_option maxHeartbeats 1000000 in
theorem q_ensure1 {mc ms b da m : Nat} {f : Nat → Int} {c : Int} {k : Nat} (h : m < k ∧ k < 20000 ∧ 0 < m) (hcm : 1 ≤ mc ∧ xCap m k ≤ ms) (hf : ∀ j, 0 ≤ f j ∧ f j < 128) (hX : ∀ q, X none [xSB b q c, xBA cs q (xCap m k) (zcpyF f (fun _ => 0) 0 0 m)]) : QM v D cs zm_JB_ensureCapacityInternal 7 mc ms [.ref b, iZ (k : Int)] [xSB b da c, xBA cs da m f] X := by
  refine qm_of zk_JB_ensureCapacityInternal (Nat.le_of_ble_eq_true rfl) (ls := [some (.ref b), some (iZ (k : Int)), none]) rfl ?_
  have hr := xCap_r (m := m) (k := k)
  have hr2 : xCap m k ≤ 60000 := by unfold xCap; split <;> omega
  refine QW_aload_n zd_JB_ensureCapacityInternal_0 rfl ?_
  refine QW_get zd_JB_ensureCapacityInternal_1 zf_JB_15 List.mem_cons_self rfl ?_
  refine QW_blen zd_JB_ensureCapacityInternal_4 (List.mem_cons_of_mem _ List.mem_cons_self) ?_
  refine QW_aload_n zd_JB_ensureCapacityInternal_5 rfl ?_
  refine QW_get zd_JB_ensureCapacityInternal_6 zf_JB_22 List.mem_cons_self rfl ?_
  refine QW_ishrC 1 zd_JB_ensureCapacityInternal_9 ⟨⟨by omega, by omega⟩, by decide, by decide⟩ rfl ?_
  refine QW_z (Int.ediv_one (m : Int)) ?_
  refine QW_istore_n zd_JB_ensureCapacityInternal_10 rfl (by decide) rfl ?_
  refine QW_iload_n zd_JB_ensureCapacityInternal_11 rfl ?_
  refine QW_iload_n zd_JB_ensureCapacityInternal_12 rfl ?_
  refine QW_isub zd_JB_ensureCapacityInternal_13 ?_
  refine QW_if_le zd_JB_ensureCapacityInternal_14 (by omega) (fun hz => by omega) (fun hz => ?_)
  refine QW_aload_n zd_JB_ensureCapacityInternal_17 rfl ?_
  refine QW_aload_n zd_JB_ensureCapacityInternal_18 rfl ?_
  refine QW_get zd_JB_ensureCapacityInternal_19 zf_JB_15 List.mem_cons_self rfl ?_
  refine QW_aload_n zd_JB_ensureCapacityInternal_22 rfl ?_
  refine QW_iload_n zd_JB_ensureCapacityInternal_23 rfl ?_
  refine QW_callU (wc := [xSB b da c, xBA cs da m f]) (wr := []) (as := [iZ (k : Int)]) (mc' := 0) (ms' := 0) (X' := fun u w => u = some (iZ ((xCap m k : Nat) : Int)) ∧ w = [xSB b da c, xBA cs da m f]) zd_JB_ensureCapacityInternal_24 zl_JB_104 zk_JB_newCapacity zsm_JB_newCapacity (zinP 1 rfl) zim_JB_newCapacity (fr' := 2) (by decide) List.mem_cons_self rfl rfl rfl (Nat.le_of_ble_eq_true rfl) (List.Perm.refl _) ⟨by omega, by omega⟩ (q_newCapacity ⟨by omega, by omega, by omega⟩ ⟨rfl, rfl⟩) (fun u w h => ?_)
  obtain ⟨rfl, rfl⟩ := h
  refine QW_aload_n zd_JB_ensureCapacityInternal_27 rfl ?_
  refine QW_get zd_JB_ensureCapacityInternal_28 zf_JB_22 List.mem_cons_self rfl ?_
  refine QW_ishlC 1 zd_JB_ensureCapacityInternal_31 (by decide) rfl ?_
  refine QW_z (Int.mul_one ((xCap m k : Nat) : Int)) ?_
  refine QW_callS (wc := [xBA cs da m f]) (wr := [xSB b da c]) (as := [.ref da, iZ ((xCap m k : Nat) : Int)]) (mc' := 1) (ms' := xCap m k) (X' := fun u w => ∃ q, u = some (.ref q) ∧ w = [xBA cs q (xCap m k) (zcpyF f (fun _ => 0) 0 0 m), xBA cs da m f]) zd_JB_ensureCapacityInternal_32 zl_JB_108 zk_JA_copyOf zv_JA_copyOf (fr' := 6) (by decide) rfl rfl (Nat.le_of_ble_eq_true rfl) (List.Perm.swap _ _ _) ⟨by omega, by omega⟩ (q_copyOf ⟨by omega, hr2⟩ hf (fun q => ⟨q, rfl, rfl⟩)) (fun u w h => ?_)
  obtain ⟨q, rfl, rfl⟩ := h
  refine QW_perm (ws' := [xSB b da c, xBA cs q (xCap m k) (zcpyF f (fun _ => 0) 0 0 m), xBA cs da m f]) (by exact (List.perm_append_comm (l₁ := [xBA cs q (xCap m k) (zcpyF f (fun _ => 0) 0 0 m), xBA cs da m f]) (l₂ := [xSB b da c]))) ?_
  refine QW_put zd_JB_ensureCapacityInternal_35 zf_JB_15 (List.Perm.refl _) (xnfin rfl) (fty := .array .byte) (by decide +kernel) rfl rfl (Nat.le_of_ble_eq_true rfl) ?_
  refine QW_drop (wa := [xSB b q c, xBA cs q (xCap m k) (zcpyF f (fun _ => 0) 0 0 m)]) (wb := [xBA cs da m f]) (List.Perm.refl _) ?_
  exact QW_vret zd_JB_ensureCapacityInternal_38 rfl ⟨by omega, by omega⟩ (hX q)
set_option maxHeartbeats 1000000 in
theorem q_getBytes {i a m : Nat} {g : Nat → Int} {p : Int} (hi : i < 23) (h : 0 ≤ p ∧ p + ((xLen.getD i 0 : Nat) : Int) ≤ m ∧ m ≤ 60000) (hX : X none [xBA cs a m (zcpyF (xBy i) g 0 p.toNat (xLen.getD i 0))]) : QM v D cs zm_JS_getBytes 6 0 0 [.ref (v.1 i), .ref a, iZ p, iZ 0] [xBA cs a m g] X := by
  refine qm_of zk_JS_getBytes (Nat.le_of_ble_eq_true rfl) (ls := [some (.ref (v.1 i)), some (.ref a), some (iZ p), some (iZ 0)]) rfl ?_
  have hln := xLen_r i
  refine QW_aload_n zd_JS_getBytes_0 rfl ?_
  refine QW_callK (wc := []) (wr := [xBA cs a m g]) (as := []) (mc' := 0) (ms' := 0) (X' := fun u w => u = some (iZ 0) ∧ w = []) zd_JS_getBytes_1 zl_JS_335 zk_JS_coder zv_JS_coder (fr' := 0) (by decide) hi rfl rfl rfl (Nat.le_of_ble_eq_true rfl) (List.Perm.refl _) ⟨by omega, by omega⟩ (q_coderC hi ⟨rfl, rfl⟩) (fun u w h => ?_)
  obtain ⟨rfl, rfl⟩ := h
  refine QW_iload_n zd_JS_getBytes_4 rfl ?_
  refine QW_icmp_ne zd_JS_getBytes_5 (by decide) (fun hz => absurd rfl hz) (fun hz => ?_)
  refine QW_aload_n zd_JS_getBytes_8 rfl ?_
  refine QW_valueC hi zd_JS_getBytes_9 zsf_9 ?_
  refine QW_iconst zd_JS_getBytes_12 ?_
  refine QW_aload_n zd_JS_getBytes_13 rfl ?_
  refine QW_iload_n zd_JS_getBytes_14 rfl ?_
  refine QW_iload_n zd_JS_getBytes_15 rfl ?_
  refine QW_ishlC 1 zd_JS_getBytes_16 (by decide) rfl ?_
  refine QW_z (Int.mul_one p) ?_
  refine QW_aload_n zd_JS_getBytes_17 rfl ?_
  refine QW_valueC hi zd_JS_getBytes_18 zsf_9 ?_
  refine QW_tlenC hi zd_JS_getBytes_21 ?_
  refine QW_copyC hi zd_JS_getBytes_22 zlcpy_JS_212 (List.Perm.refl _) rfl hln ⟨by omega, by omega, by omega⟩ (fun j _ => (xfitb (xBy_r i j)).1) (Nat.le_of_ble_eq_true rfl) (by decide) ?_
  refine QW_goto zd_JS_getBytes_25 ?_
  exact QW_vret zd_JS_getBytes_43 rfl ⟨by omega, by omega⟩ hX
set_option maxHeartbeats 1000000 in
theorem q_inflateIf {i b da : Nat} {c : Int} (hi : i < 23) (hX : X none [xSB b da c]) : QM v D cs zm_JB_inflateIfNeededFor 1 0 0 [.ref b, .ref (v.1 i)] [xSB b da c] X := by
  refine qm_of zk_JB_inflateIfNeededFor (Nat.le_of_ble_eq_true rfl) (ls := [some (.ref b), some (.ref (v.1 i))]) rfl ?_
  refine QW_compact zd_JB_inflateIfNeededFor_0 zfl_JB_18 ?_
  refine QW_if_eq zd_JB_inflateIfNeededFor_3 (by decide) (fun hz => absurd hz (by decide)) (fun hz => ?_)
  refine QW_aload_n zd_JB_inflateIfNeededFor_6 rfl ?_
  refine QW_get zd_JB_inflateIfNeededFor_7 zf_JB_22 List.mem_cons_self rfl ?_
  refine QW_aload_n zd_JB_inflateIfNeededFor_10 rfl ?_
  refine QW_callK (wc := []) (wr := [xSB b da c]) (as := []) (mc' := 0) (ms' := 0) (X' := fun u w => u = some (iZ 0) ∧ w = []) zd_JB_inflateIfNeededFor_11 zl_JB_40 zk_JS_coder zv_JS_coder (fr' := 0) (by decide) hi rfl rfl rfl (Nat.le_of_ble_eq_true rfl) (List.Perm.refl _) ⟨by omega, by omega⟩ (q_coderC hi ⟨rfl, rfl⟩) (fun u w h => ?_)
  obtain ⟨rfl, rfl⟩ := h
  refine QW_icmp_eq zd_JB_inflateIfNeededFor_14 (by decide) (fun hz => ?_) (fun hz => absurd rfl hz)
  exact QW_vret zd_JB_inflateIfNeededFor_21 rfl ⟨by omega, by omega⟩ hX
set_option maxHeartbeats 1000000 in
theorem q_putStringAt {i b da m : Nat} {g : Nat → Int} {c p : Int} (hi : i < 23) (h : 0 ≤ p ∧ p + ((xLen.getD i 0 : Nat) : Int) ≤ m ∧ m ≤ 60000) (hX : X none [xSB b da c, xBA cs da m (zcpyF (xBy i) g 0 p.toNat (xLen.getD i 0))]) : QM v D cs zm_JB_putStringAt 7 0 0 [.ref b, iZ p, .ref (v.1 i)] [xSB b da c, xBA cs da m g] X := by
  refine qm_of zk_JB_putStringAt (Nat.le_of_ble_eq_true rfl) (ls := [some (.ref b), some (iZ p), some (.ref (v.1 i))]) rfl ?_
  refine QW_aload_n zd_JB_putStringAt_0 rfl ?_
  refine QW_aload_n zd_JB_putStringAt_1 rfl ?_
  refine QW_callU (wc := [xSB b da c]) (wr := [xBA cs da m g]) (as := [.ref (v.1 i)]) (mc' := 0) (ms' := 0) (X' := fun u w => u = none ∧ w = [xSB b da c]) zd_JB_putStringAt_2 zl_JB_397 zk_JB_inflateIfNeededFor zsm_JB_inflateIfNeededFor (zinP 3 rfl) zim_JB_inflateIfNeededFor (fr' := 1) (by decide) List.mem_cons_self rfl rfl rfl (Nat.le_of_ble_eq_true rfl) (List.Perm.refl _) ⟨by omega, by omega⟩ (q_inflateIf hi ⟨rfl, rfl⟩) (fun u w h => ?_)
  obtain ⟨rfl, rfl⟩ := h
  refine QW_aload_n zd_JB_putStringAt_5 rfl ?_
  refine QW_aload_n zd_JB_putStringAt_6 rfl ?_
  refine QW_get zd_JB_putStringAt_7 zf_JB_15 List.mem_cons_self rfl ?_
  refine QW_iload_n zd_JB_putStringAt_10 rfl ?_
  refine QW_aload_n zd_JB_putStringAt_11 rfl ?_
  refine QW_get zd_JB_putStringAt_12 zf_JB_22 List.mem_cons_self rfl ?_
  refine QW_callK (wc := [xBA cs da m g]) (wr := [xSB b da c]) (as := [.ref da, iZ p, iZ 0]) (mc' := 0) (ms' := 0) (X' := fun u w => u = none ∧ w = [xBA cs da m (zcpyF (xBy i) g 0 p.toNat (xLen.getD i 0))]) zd_JB_putStringAt_15 zl_JB_399 zk_JS_getBytes zv_JS_getBytes (fr' := 6) (by decide) hi rfl rfl rfl (Nat.le_of_ble_eq_true rfl) (List.Perm.swap _ _ _) ⟨by omega, by omega⟩ (q_getBytes hi h ⟨rfl, rfl⟩) (fun u w h => ?_)
  obtain ⟨rfl, rfl⟩ := h
  refine QW_perm (List.Perm.swap _ _ _) ?_
  exact QW_vret zd_JB_putStringAt_18 rfl ⟨by omega, by omega⟩ hX
/-- a builder at b that holds the letters t, of so much room -/
def xBld (cs : Nat → ClassId) (b : Nat) (t : List Int) (m : Nat) (w : va_W) : Prop := ∃ (da : Nat) (f : Nat → Int), w = [xSB b da (t.length : Int), xBA cs da m f] ∧ (∀ j, j < t.length → f j = t.getD j 0) ∧ (t.length ≤ m ∧ 0 < m ∧ m ≤ 9000) ∧ ∀ j, 0 ≤ f j ∧ f j < 128
/-- room behind k letters -/
def xRm (m k m' mc ms : Nat) : Prop := (k ≤ m ∧ m' = m) ∨ (m < k ∧ m' = xCap m k ∧ 1 ≤ mc ∧ m' ≤ ms)
theorem xcpy_r {f g : Nat → Int} {s d n : Nat} (hf : ∀ j, 0 ≤ f j ∧ f j < 128) (hg : ∀ j, 0 ≤ g j ∧ g j < 128) : ∀ j, 0 ≤ zcpyF f g s d n j ∧ zcpyF f g s d n j < 128 := fun j => by
  unfold zcpyF
  split
  · exact hf _
  · exact hg _
theorem xRm_le {m k m' mc ms : Nat} (h : xRm m k m' mc ms) : m ≤ m' := by
  rcases h with ⟨-, rfl⟩ | ⟨-, rfl, -⟩
  · exact Nat.le_refl _
  · have := (xCap_r (m := m) (k := k)).1; omega
/-- the letters of a constant -/
def xTxt (i : Nat) : List Int := (xByt.getD i []).map (·.toInt)
theorem xTxt_len : ∀ i, i < 23 → (xTxt i).length = xLen.getD i 0 := fun i h => (show ∀ j : Fin 23, (xTxt j.val).length = xLen.getD j.val 0 by decide +kernel) ⟨i, h⟩
theorem xTxt_at (i j : Nat) : (xTxt i).getD j 0 = xBy i j := by
  unfold xTxt xBy
  simp only [List.getD, List.getElem?_map]
  cases (Option.getD xByt[i]? [])[j]? <;> rfl
/-- room is made, and the first letters stay -/
theorem q_ensure {mc ms b da m m' k : Nat} {f : Nat → Int} {c : Int} (hR : xRm m k m' mc ms) (h : k < 20000 ∧ 0 < m ∧ m ≤ 9000) (hf : ∀ j, 0 ≤ f j ∧ f j < 128) (hX : ∀ q g, (∀ j, j < m → g j = f j) → (∀ j, 0 ≤ g j ∧ g j < 128) → k ≤ m' → X none [xSB b q c, xBA cs q m' g]) : QM v D cs zm_JB_ensureCapacityInternal 7 mc ms [.ref b, iZ (k : Int)] [xSB b da c, xBA cs da m f] X := by
  rcases hR with ⟨h1, rfl⟩ | ⟨h1, rfl, h2, h3⟩
  · exact q_ensure0 ⟨h1, by omega⟩ (hX da f (fun _ _ => rfl) hf h1)
  · refine q_ensure1 ⟨h1, by omega, by omega⟩ ⟨h2, h3⟩ hf (fun q => hX q _ (fun j hj => ?_) (xcpy_r hf (fun _ => by decide)) xCap_r.2)
    unfold zcpyF
    rw [if_pos (by omega)]
    congr 1
    omega
set_option maxHeartbeats 1000000 in
theorem q_appendS {i b m m' mc ms : Nat} {t : List Int} {w : va_W} (hi : i < 23) (hB : xBld cs b t m w) (hR : xRm m (t.length + xLen.getD i 0) m' mc ms) (hm : t.length + xLen.getD i 0 ≤ 9000 ∧ m' ≤ 9000) (hX : ∀ w', xBld cs b (t ++ xTxt i) m' w' → X (some (.ref b)) w') : QM v D cs zm_JB_append 8 mc ms [.ref b, .ref (v.1 i)] w X := by
  refine qm_of zk_JB_append (Nat.le_of_ble_eq_true rfl) (ls := [some (.ref b), some (.ref (v.1 i)), none]) rfl ?_
  obtain ⟨da, f, rfl, hf0, hm0, hf1⟩ := hB
  have hln := xLen_r i
  refine QW_aload_n zd_JB_append_0 rfl ?_
  refine QW_ifnonnull (tgt := 9) ⟨zd_JB_append_1.1, by decide, rfl⟩ ?_
  refine QW_aload_n zd_JB_append_9 rfl ?_
  refine QW_callK (wc := []) (wr := [xSB b da (t.length : Int), xBA cs da m f]) (as := []) (mc' := 0) (ms' := 0) (X' := fun u w => u = some (iZ ((xLen.getD i 0 : Nat) : Int)) ∧ w = []) zd_JB_append_10 zl_JB_32 zk_JS_length zv_JS_length (fr' := 1) (by decide) hi rfl rfl rfl (Nat.le_of_ble_eq_true rfl) (List.Perm.refl _) ⟨by omega, by omega⟩ (q_lengthC hi ⟨rfl, rfl⟩) (fun u w h => ?_)
  obtain ⟨rfl, rfl⟩ := h
  refine QW_istore_n zd_JB_append_13 rfl (by decide) rfl ?_
  refine QW_aload_n zd_JB_append_14 rfl ?_
  refine QW_aload_n zd_JB_append_15 rfl ?_
  refine QW_get zd_JB_append_16 zf_JB_79 List.mem_cons_self rfl ?_
  refine QW_iload_n zd_JB_append_19 rfl ?_
  refine QW_iadd zd_JB_append_20 ?_
  refine QW_z (show _ = ((t.length + xLen.getD i 0 : Nat) : Int) by omega) ?_
  refine QW_callU (wc := [xSB b da (t.length : Int), xBA cs da m f]) (wr := []) (as := [iZ (((t.length + xLen.getD i 0 : Nat) : Int))]) (mc' := mc) (ms' := ms) (X' := fun u w => ∃ q g, u = none ∧ w = [xSB b q (t.length : Int), xBA cs q m' g] ∧ (∀ j, j < m → g j = f j) ∧ (∀ j, 0 ≤ g j ∧ g j < 128) ∧ t.length + xLen.getD i 0 ≤ m') zd_JB_append_21 zl_JB_100 zk_JB_ensureCapacityInternal zsm_JB_ensureCapacityInternal (zinP 0 rfl) zim_JB_ensureCapacityInternal (fr' := 7) (by decide) List.mem_cons_self rfl rfl rfl (Nat.le_of_ble_eq_true rfl) (List.Perm.refl _) ⟨by omega, by omega⟩ (q_ensure hR (by omega) hf1 (fun q g h1 h2 h3 => ⟨q, g, rfl, rfl, h1, h2, h3⟩)) (fun u w h => ?_)
  obtain ⟨q, g, rfl, rfl, g1, g2, g3⟩ := h
  refine QW_aload_n zd_JB_append_24 rfl ?_
  refine QW_aload_n zd_JB_append_25 rfl ?_
  refine QW_get zd_JB_append_26 zf_JB_79 List.mem_cons_self rfl ?_
  refine QW_aload_n zd_JB_append_29 rfl ?_
  refine QW_callU (wc := [xSB b q (t.length : Int), xBA cs q m' g]) (wr := []) (as := [iZ (t.length : Int), .ref (v.1 i)]) (mc' := 0) (ms' := 0) (X' := fun u w => u = none ∧ w = [xSB b q (t.length : Int), xBA cs q m' (zcpyF (xBy i) g 0 (t.length : Int).toNat (xLen.getD i 0))]) zd_JB_append_30 zl_JB_208 zk_JB_putStringAt zsm_JB_putStringAt (zinP 2 rfl) zim_JB_putStringAt (fr' := 7) (by decide) List.mem_cons_self rfl rfl rfl (Nat.le_of_ble_eq_true rfl) (List.Perm.refl _) ⟨by omega, by omega⟩ (q_putStringAt hi ⟨by omega, by omega, by omega⟩ ⟨rfl, rfl⟩) (fun u w h => ?_)
  obtain ⟨rfl, rfl⟩ := h
  refine QW_aload_n zd_JB_append_33 rfl ?_
  refine QW_dup zd_JB_append_34 rfl ?_
  refine QW_get zd_JB_append_35 zf_JB_79 List.mem_cons_self rfl ?_
  refine QW_iload_n zd_JB_append_38 rfl ?_
  refine QW_iadd zd_JB_append_39 ?_
  refine QW_put zd_JB_append_40 zf_JB_79 (List.Perm.refl _) (xnfin rfl) (fty := .int) (by decide +kernel) rfl rfl (Nat.le_of_ble_eq_true rfl) ?_
  refine QW_aload_n zd_JB_append_43 rfl ?_
  refine QW_aret zd_JB_append_44 (Or.inl ⟨_, rfl⟩) ⟨by omega, by omega⟩ (hX _ ⟨q, zcpyF (xBy i) g 0 (t.length : Int).toNat (xLen.getD i 0), ?_, ?_, ?_, xcpy_r (xBy_r i) g2⟩)
  · rw [List.length_append, xTxt_len i hi, Int.natCast_add]
    rfl
  · intro j hj
    rw [List.length_append, xTxt_len i hi] at hj
    rw [Int.toNat_natCast]
    unfold zcpyF
    by_cases q9 : j < t.length
    · rw [if_neg (by omega), g1 j (by omega), hf0 j q9]
      simp [List.getD, List.getElem?_append_left q9]
    · rw [if_pos (by omega), ← xTxt_at]
      simp only [List.getD]
      rw [List.getElem?_append_right (by omega), Nat.zero_add]
  · rw [List.length_append, xTxt_len i hi]
    have := xRm_le hR
    omega
set_option maxHeartbeats 1000000 in
theorem q_appendSD {i b m m' mc ms : Nat} {t : List Int} {w : va_W} (hi : i < 23) (hB : xBld cs b t m w) (hR : xRm m (t.length + xLen.getD i 0) m' mc ms) (hm : t.length + xLen.getD i 0 ≤ 9000 ∧ m' ≤ 9000) (hX : ∀ w', xBld cs b (t ++ xTxt i) m' w' → X (some (.ref b)) w') : QM v D cs zm_JD_append 9 mc ms [.ref b, .ref (v.1 i)] w X := by
  refine qm_of zk_JD_append (Nat.le_of_ble_eq_true rfl) (ls := [some (.ref b), some (.ref (v.1 i))]) rfl ?_
  have hB0 := hB
  obtain ⟨da, f, rfl, -⟩ := hB
  refine QW_aload_n zd_JD_append_0 rfl ?_
  refine QW_aload_n zd_JD_append_1 rfl ?_
  refine QW_callSU (wc := [xSB b da (t.length : Int), xBA cs da m f]) (wr := []) (as := [.ref (v.1 i)]) (mc' := mc) (ms' := ms) (X' := fun u w => u = some (.ref b) ∧ xBld cs b (t ++ xTxt i) m' w) zd_JD_append_2 zl_JD_29 zk_JB_append (by decide) zsm_JB_append zwd_641 zim_JB_append (fr' := 8) (by decide) List.mem_cons_self rfl rfl rfl (Nat.le_of_ble_eq_true rfl) (List.Perm.refl _) ⟨by omega, by omega⟩ (q_appendS hi hB0 hR hm (fun w' hw => ⟨rfl, hw⟩)) (fun u w h => ?_)
  obtain ⟨rfl, hw⟩ := h
  refine QW_pop zd_JD_append_5 rfl ?_
  refine QW_aload_n zd_JD_append_6 rfl ?_
  exact QW_aret zd_JD_append_7 (Or.inl ⟨_, rfl⟩) ⟨by omega, by omega⟩ (hX _ (by rwa [List.append_nil]))
set_option maxHeartbeats 1000000 in
theorem q_appendSbr {i b m m' mc ms : Nat} {t : List Int} {w : va_W} (hi : i < 23) (hB : xBld cs b t m w) (hR : xRm m (t.length + xLen.getD i 0) m' mc ms) (hm : t.length + xLen.getD i 0 ≤ 9000 ∧ m' ≤ 9000) (hX : ∀ w', xBld cs b (t ++ xTxt i) m' w' → X (some (.ref b)) w') : QM v D cs zm_JD_append_cf1ce 10 mc ms [.ref b, .ref (v.1 i)] w X := by
  refine qm_of zk_JD_append_cf1ce (Nat.le_of_ble_eq_true rfl) (ls := [some (.ref b), some (.ref (v.1 i))]) rfl ?_
  have hB0 := hB
  obtain ⟨da, f, rfl, -⟩ := hB
  refine QW_aload_n zd_JD_append_cf1ce_0 rfl ?_
  refine QW_aload_n zd_JD_append_cf1ce_1 rfl ?_
  refine QW_callV (wc := [xSB b da (t.length : Int), xBA cs da m f]) (wr := []) (as := [.ref (v.1 i)]) (mc' := mc) (ms' := ms) (X' := fun u w => u = some (.ref b) ∧ xBld cs b (t ++ xTxt i) m' w) zd_JD_append_cf1ce_2 zl_JD_23 zk_JD_append ⟨zim_JD_append, zse_JD_append⟩ (fr' := 9) (by decide) List.mem_cons_self rfl rfl rfl rfl (Nat.le_of_ble_eq_true rfl) (List.Perm.refl _) ⟨by omega, by omega⟩ (q_appendSD hi hB0 hR hm (fun w' hw => ⟨rfl, hw⟩)) (fun u w h => ?_)
  obtain ⟨rfl, hw⟩ := h
  exact QW_aret zd_JD_append_cf1ce_5 (Or.inl ⟨_, rfl⟩) ⟨by omega, by omega⟩ (hX _ (by rwa [List.append_nil]))
set_option maxHeartbeats 1000000 in
theorem q_canEncode {c : Int} (h : 0 ≤ c ∧ c < 128) (hX : X (some (iZ 1)) []) : QM v D cs zm_JL_canEncode 0 0 0 [iZ c] [] X := by
  refine qm_of zk_JL_canEncode (Nat.le_of_ble_eq_true rfl) (ls := [some (iZ c)]) rfl ?_
  refine QW_iload_n zd_JL_canEncode_0 rfl ?_
  refine QW_sipush zd_JL_canEncode_1 (by decide) ?_
  refine QW_icmp_gt zd_JL_canEncode_4 ⟨⟨by omega, by omega⟩, by omega, by omega⟩ (fun hz => by omega) (fun hz => ?_)
  refine QW_iconst zd_JL_canEncode_7 ?_
  refine QW_goto zd_JL_canEncode_8 ?_
  exact QW_zret zd_JL_canEncode_12 rfl (Or.inr rfl) ⟨Nat.le_refl _, Nat.le_refl _⟩ hX
set_option maxHeartbeats 1000000 in
theorem q_appendC {b m m' mc ms : Nat} {c : Int} {t : List Int} {w : va_W} (hc : 0 ≤ c ∧ c < 128) (hB : xBld cs b t m w) (hR : xRm m (t.length + 1) m' mc ms) (hm : t.length + 1 ≤ 9000 ∧ m' ≤ 9000) (hX : ∀ w', xBld cs b (t ++ [c]) m' w' → X (some (.ref b)) w') : QM v D cs zm_JB_append_3fe6f 8 mc ms [.ref b, iZ c] w X := by
  refine qm_of zk_JB_append_3fe6f (Nat.le_of_ble_eq_true rfl) (ls := [some (.ref b), some (iZ c)]) rfl ?_
  obtain ⟨da, f, rfl, hf0, hm0, hf1⟩ := hB
  refine QW_aload_n zd_JB_append_3fe6f_0 rfl ?_
  refine QW_aload_n zd_JB_append_3fe6f_1 rfl ?_
  refine QW_get zd_JB_append_3fe6f_2 zf_JB_79 List.mem_cons_self rfl ?_
  refine QW_iconst zd_JB_append_3fe6f_5 ?_
  refine QW_iadd zd_JB_append_3fe6f_6 ?_
  refine QW_z (show _ = ((t.length + 1 : Nat) : Int) by omega) ?_
  refine QW_callU (wc := [xSB b da (t.length : Int), xBA cs da m f]) (wr := []) (as := [iZ (((t.length + 1 : Nat) : Int))]) (mc' := mc) (ms' := ms) (X' := fun u w => ∃ q g, u = none ∧ w = [xSB b q (t.length : Int), xBA cs q m' g] ∧ (∀ j, j < m → g j = f j) ∧ (∀ j, 0 ≤ g j ∧ g j < 128) ∧ t.length + 1 ≤ m') zd_JB_append_3fe6f_7 zl_JB_100 zk_JB_ensureCapacityInternal zsm_JB_ensureCapacityInternal (zinP 0 rfl) zim_JB_ensureCapacityInternal (fr' := 7) (by decide) List.mem_cons_self rfl rfl rfl (Nat.le_of_ble_eq_true rfl) (List.Perm.refl _) ⟨by omega, by omega⟩ (q_ensure hR (by omega) hf1 (fun q g h1 h2 h3 => ⟨q, g, rfl, rfl, h1, h2, h3⟩)) (fun u w h => ?_)
  obtain ⟨q, g, rfl, rfl, g1, g2, g3⟩ := h
  refine QW_aload_n zd_JB_append_3fe6f_10 rfl ?_
  refine QW_callU (wc := [xSB b q (t.length : Int)]) (wr := [xBA cs q m' g]) (as := []) (mc' := 0) (ms' := 0) (X' := fun u w => u = some (iZ 1) ∧ w = [xSB b q (t.length : Int)]) zd_JB_append_3fe6f_11 zl_JB_83 zk_JB_isLatin1 zsm_JB_isLatin1 zse_JB_isLatin1 zim_JB_isLatin1 (fr' := 0) (by decide) List.mem_cons_self rfl rfl rfl (Nat.le_of_ble_eq_true rfl) (List.Perm.refl _) ⟨by omega, by omega⟩ (q_isLatin1B ⟨rfl, rfl⟩) (fun u w h => ?_)
  obtain ⟨rfl, rfl⟩ := h
  refine QW_if_eq zd_JB_append_3fe6f_14 (by decide) (fun hz => absurd hz (by decide)) (fun hz => ?_)
  refine QW_iload_n zd_JB_append_3fe6f_17 rfl ?_
  refine QW_callS (wc := []) (wr := [xSB b q (t.length : Int), xBA cs q m' g]) (as := [iZ c]) (mc' := 0) (ms' := 0) (X' := fun u w => u = some (iZ 1) ∧ w = []) zd_JB_append_3fe6f_18 zl_JB_191 zk_JL_canEncode zv_JL_canEncode (fr' := 0) (by decide) rfl rfl (Nat.le_of_ble_eq_true rfl) (List.Perm.refl _) ⟨by omega, by omega⟩ (q_canEncode hc ⟨rfl, rfl⟩) (fun u w h => ?_)
  obtain ⟨rfl, rfl⟩ := h
  refine QW_if_eq zd_JB_append_3fe6f_21 (by decide) (fun hz => absurd hz (by decide)) (fun hz => ?_)
  refine QW_aload_n zd_JB_append_3fe6f_24 rfl ?_
  refine QW_get zd_JB_append_3fe6f_25 zf_JB_15 List.mem_cons_self rfl ?_
  refine QW_aload_n zd_JB_append_3fe6f_28 rfl ?_
  refine QW_dup zd_JB_append_3fe6f_29 rfl ?_
  refine QW_get zd_JB_append_3fe6f_30 zf_JB_79 List.mem_cons_self rfl ?_
  refine QW_dup_x1 zd_JB_append_3fe6f_33 rfl rfl ?_
  refine QW_iconst zd_JB_append_3fe6f_34 ?_
  refine QW_iadd zd_JB_append_3fe6f_35 ?_
  refine QW_put zd_JB_append_3fe6f_36 zf_JB_79 (List.Perm.refl _) (xnfin rfl) (fty := .int) (by decide +kernel) rfl rfl (Nat.le_of_ble_eq_true rfl) ?_
  refine QW_iload_n zd_JB_append_3fe6f_39 rfl ?_
  refine QW_i2b zd_JB_append_3fe6f_40 (xfitb hc).2.2 ?_
  refine QW_bast zd_JB_append_3fe6f_41 (List.Perm.swap _ _ _) ⟨by omega, by omega⟩ (by omega) (xfitb hc).2.1 ?_
  refine QW_perm (List.Perm.swap _ _ _) ?_
  refine QW_goto zd_JB_append_3fe6f_42 ?_
  refine QW_aload_n zd_JB_append_3fe6f_75 rfl ?_
  refine QW_aret zd_JB_append_3fe6f_76 (Or.inl ⟨_, rfl⟩) ⟨by omega, by omega⟩ (hX _ ⟨q, zaU g (t.length : Int).toNat c, ?_, ?_, ?_, ?_⟩)
  · rw [List.length_append, Int.natCast_add]
    rfl
  · intro j hj
    rw [List.length_append] at hj
    have hj' : j < t.length + 1 := hj
    by_cases q9 : j < t.length
    · rw [zaU_n (by omega), g1 j (by omega), hf0 j q9]
      simp [List.getD, List.getElem?_append_left q9]
    · obtain rfl : j = t.length := by omega
      rw [show (t.length : Int).toNat = t.length by omega, zaU_s]
      simp [List.getD]
  · rw [List.length_append]
    have h9 : t.length + 1 ≤ m' := g3
    exact ⟨h9, by omega, by omega⟩
  · intro j
    by_cases q9 : j = t.length
    · subst q9
      rw [show (t.length : Int).toNat = t.length by omega, zaU_s]
      exact hc
    · rw [zaU_n (by omega)]
      exact g2 j
set_option maxHeartbeats 1000000 in
theorem q_appendCD {b m m' mc ms : Nat} {c : Int} {t : List Int} {w : va_W} (hc : 0 ≤ c ∧ c < 128) (hB : xBld cs b t m w) (hR : xRm m (t.length + 1) m' mc ms) (hm : t.length + 1 ≤ 9000 ∧ m' ≤ 9000) (hX : ∀ w', xBld cs b (t ++ [c]) m' w' → X (some (.ref b)) w') : QM v D cs zm_JD_append_cf468 9 mc ms [.ref b, iZ c] w X := by
  refine qm_of zk_JD_append_cf468 (Nat.le_of_ble_eq_true rfl) (ls := [some (.ref b), some (iZ c)]) rfl ?_
  have hB0 := hB
  obtain ⟨da, f, rfl, -⟩ := hB
  refine QW_aload_n zd_JD_append_cf468_0 rfl ?_
  refine QW_iload_n zd_JD_append_cf468_1 rfl ?_
  refine QW_callSU (wc := [xSB b da (t.length : Int), xBA cs da m f]) (wr := []) (as := [iZ c]) (mc' := mc) (ms' := ms) (X' := fun u w => u = some (.ref b) ∧ xBld cs b (t ++ [c]) m' w) zd_JD_append_cf468_2 zl_JD_50 zk_JB_append_3fe6f (by decide) zsm_JB_append_3fe6f zwd_641 zim_JB_append_3fe6f (fr' := 8) (by decide) List.mem_cons_self rfl rfl rfl (Nat.le_of_ble_eq_true rfl) (List.Perm.refl _) ⟨by omega, by omega⟩ (q_appendC hc hB0 hR hm (fun w' hw => ⟨rfl, hw⟩)) (fun u w h => ?_)
  obtain ⟨rfl, hw⟩ := h
  refine QW_pop zd_JD_append_cf468_5 rfl ?_
  refine QW_aload_n zd_JD_append_cf468_6 rfl ?_
  exact QW_aret zd_JD_append_cf468_7 (Or.inl ⟨_, rfl⟩) ⟨by omega, by omega⟩ (hX _ (by rwa [List.append_nil]))
set_option maxHeartbeats 1000000 in
theorem q_stringSize {x : Int} (h : 0 ≤ x ∧ x < 10) (hX : X (some (iZ 1)) []) : QM v D cs zm_JI_stringSize 0 0 0 [iZ x] [] X := by
  refine qm_of zk_JI_stringSize (Nat.le_of_ble_eq_true rfl) (ls := [some (iZ x), none, none, none]) rfl ?_
  refine QW_iconst zd_JI_stringSize_0 ?_
  refine QW_istore_n zd_JI_stringSize_1 rfl (by decide) rfl ?_
  refine QW_iload_n zd_JI_stringSize_2 rfl ?_
  refine QW_if_lt zd_JI_stringSize_3 (by omega) (fun hz => by omega) (fun hz => ?_)
  refine QW_iconst zd_JI_stringSize_6 ?_
  refine QW_istore_n zd_JI_stringSize_7 rfl (by decide) rfl ?_
  refine QW_iload_n zd_JI_stringSize_8 rfl ?_
  refine QW_ineg zd_JI_stringSize_9 ?_
  refine QW_istore_n zd_JI_stringSize_10 rfl (by decide) rfl ?_
  refine QW_bipush zd_JI_stringSize_11 (by decide) ?_
  refine QW_istore_n zd_JI_stringSize_13 rfl (by decide) rfl ?_
  refine QW_iconst zd_JI_stringSize_14 ?_
  refine QW_istore_n zd_JI_stringSize_15 rfl (by decide) rfl ?_
  refine QW_iload_n zd_JI_stringSize_16 rfl ?_
  refine QW_bipush zd_JI_stringSize_17 (by decide) ?_
  refine QW_icmp_ge zd_JI_stringSize_19 (by decide) (fun hz => absurd hz (by decide)) (fun hz => ?_)
  refine QW_iload_n zd_JI_stringSize_22 rfl ?_
  refine QW_iload_n zd_JI_stringSize_23 rfl ?_
  refine QW_icmp_le zd_JI_stringSize_24 ⟨⟨by omega, by omega⟩, by omega, by omega⟩ (fun hz => by omega) (fun hz => ?_)
  refine QW_iload_n zd_JI_stringSize_27 rfl ?_
  refine QW_iload_n zd_JI_stringSize_28 rfl ?_
  refine QW_iadd zd_JI_stringSize_29 ?_
  exact QW_iret zd_JI_stringSize_30 rfl ⟨Nat.le_refl _, Nat.le_refl _⟩ (by simpa using hX)
set_option maxHeartbeats 1000000 in
theorem q_getChars {x p : Int} {a m : Nat} {g : Nat → Int} (h : 0 ≤ x ∧ x < 10) (hp : 1 ≤ p ∧ p ≤ m ∧ m ≤ 60000) (hX : X (some (iZ (p - 1))) [xBA cs a m (zaU g (p - 1).toNat (48 + x))]) : QM v D cs zm_JI_getChars 0 0 0 [iZ x, iZ p, .ref a] [xBA cs a m g] X := by
  refine qm_of zk_JI_getChars (Nat.le_of_ble_eq_true rfl) (ls := [some (iZ x), some (iZ p), some (.ref a), none, none, none, none]) rfl ?_
  have hb : 0 ≤ 48 + x ∧ 48 + x < 128 := by omega
  refine QW_iload_n zd_JI_getChars_0 rfl ?_
  refine QW_istore zd_JI_getChars_1 rfl (by decide) rfl ?_
  refine QW_iload_n zd_JI_getChars_3 rfl ?_
  refine QW_if_ge zd_JI_getChars_4 (by omega) (fun hz => ?_) (fun hz => by omega)
  refine QW_iconst zd_JI_getChars_11 ?_
  refine QW_istore zd_JI_getChars_12 rfl (by decide) rfl ?_
  refine QW_iload zd_JI_getChars_14 rfl ?_
  refine QW_if_ne zd_JI_getChars_16 (by decide) (fun hz => absurd rfl hz) (fun hz => ?_)
  refine QW_iload_n zd_JI_getChars_19 rfl ?_
  refine QW_ineg zd_JI_getChars_20 ?_
  refine QW_istore_n zd_JI_getChars_21 rfl (by decide) rfl ?_
  refine QW_iload_n zd_JI_getChars_22 rfl ?_
  refine QW_bipush zd_JI_getChars_23 (by decide) ?_
  refine QW_icmp_gt zd_JI_getChars_25 ⟨⟨by omega, by omega⟩, by omega, by omega⟩ (fun hz => ?_) (fun hz => by omega)
  refine QW_aload_n zd_JI_getChars_72 rfl ?_
  refine QW_iinc zd_JI_getChars_73 rfl rfl (by decide) rfl ?_
  refine QW_sub (ls' := [some (iZ (-x)), none, some (.ref a), none, none, some (iZ (p - 1)), some (iZ 0)]) ⟨rfl, rfl, by show iZ _ = iZ _; congr 1, rfl, trivial⟩ ?_
  refine QW_iload zd_JI_getChars_76 rfl ?_
  refine QW_digits zd_JI_getChars_78 zfl_JI_83 ?_
  refine QW_iload_n zd_JI_getChars_81 rfl ?_
  refine QW_ineg zd_JI_getChars_82 ?_
  refine QW_z (show _ = x by omega) ?_
  refine QW_digit zd_JI_getChars_83 h ?_
  refine QW_bast zd_JI_getChars_84 (List.Perm.refl _) ⟨by omega, by omega⟩ (by omega) (xfitb hb).2.1 ?_
  refine QW_iload_n zd_JI_getChars_85 rfl ?_
  refine QW_bipush zd_JI_getChars_86 (by decide) ?_
  refine QW_icmp_ge zd_JI_getChars_88 ⟨⟨by omega, by omega⟩, by omega, by omega⟩ (fun hz => ?_) (fun hz => by omega)
  refine QW_iload zd_JI_getChars_104 rfl ?_
  refine QW_if_eq zd_JI_getChars_106 (by decide) (fun hz => ?_) (fun hz => absurd rfl hz)
  refine QW_iload zd_JI_getChars_118 rfl ?_
  exact QW_iret zd_JI_getChars_120 rfl ⟨Nat.le_refl _, Nat.le_refl _⟩ hX
set_option maxHeartbeats 1000000 in
theorem q_appendI {b m m' mc ms : Nat} {x : Int} {t : List Int} {w : va_W} (hx : 0 ≤ x ∧ x < 10) (hB : xBld cs b t m w) (hR : xRm m (t.length + 1) m' mc ms) (hm : t.length + 1 ≤ 9000 ∧ m' ≤ 9000) (hX : ∀ w', xBld cs b (t ++ [48 + x]) m' w' → X (some (.ref b)) w') : QM v D cs zm_JB_append_c97b9 8 mc ms [.ref b, iZ x] w X := by
  refine qm_of zk_JB_append_c97b9 (Nat.le_of_ble_eq_true rfl) (ls := [some (.ref b), some (iZ x), none, none]) rfl ?_
  obtain ⟨da, f, rfl, hf0, hm0, hf1⟩ := hB
  refine QW_aload_n zd_JB_append_c97b9_0 rfl ?_
  refine QW_get zd_JB_append_c97b9_1 zf_JB_79 List.mem_cons_self rfl ?_
  refine QW_istore_n zd_JB_append_c97b9_4 rfl (by decide) rfl ?_
  refine QW_iload_n zd_JB_append_c97b9_5 rfl ?_
  refine QW_iload_n zd_JB_append_c97b9_6 rfl ?_
  refine QW_callS (wc := []) (wr := [xSB b da (t.length : Int), xBA cs da m f]) (as := [iZ x]) (mc' := 0) (ms' := 0) (X' := fun u w => u = some (iZ 1) ∧ w = []) zd_JB_append_c97b9_7 zl_JB_245 zk_JI_stringSize zv_JI_stringSize (fr' := 0) (by decide) rfl rfl (Nat.le_of_ble_eq_true rfl) (List.Perm.refl _) ⟨by omega, by omega⟩ (q_stringSize hx ⟨rfl, rfl⟩) (fun u w h => ?_)
  obtain ⟨rfl, rfl⟩ := h
  refine QW_iadd zd_JB_append_c97b9_10 ?_
  refine QW_z (show _ = ((t.length + 1 : Nat) : Int) by omega) ?_
  refine QW_istore_n zd_JB_append_c97b9_11 rfl (by decide) rfl ?_
  refine QW_aload_n zd_JB_append_c97b9_12 rfl ?_
  refine QW_iload_n zd_JB_append_c97b9_13 rfl ?_
  refine QW_callU (wc := [xSB b da (t.length : Int), xBA cs da m f]) (wr := []) (as := [iZ (((t.length + 1 : Nat) : Int))]) (mc' := mc) (ms' := ms) (X' := fun u w => ∃ q g, u = none ∧ w = [xSB b q (t.length : Int), xBA cs q m' g] ∧ (∀ j, j < m → g j = f j) ∧ (∀ j, 0 ≤ g j ∧ g j < 128) ∧ t.length + 1 ≤ m') zd_JB_append_c97b9_14 zl_JB_100 zk_JB_ensureCapacityInternal zsm_JB_ensureCapacityInternal (zinP 0 rfl) zim_JB_ensureCapacityInternal (fr' := 7) (by decide) List.mem_cons_self rfl rfl rfl (Nat.le_of_ble_eq_true rfl) (List.Perm.refl _) ⟨by omega, by omega⟩ (q_ensure hR (by omega) hf1 (fun q g h1 h2 h3 => ⟨q, g, rfl, rfl, h1, h2, h3⟩)) (fun u w h => ?_)
  obtain ⟨q, g, rfl, rfl, g1, g2, g3⟩ := h
  refine QW_aload_n zd_JB_append_c97b9_17 rfl ?_
  refine QW_callU (wc := [xSB b q (t.length : Int)]) (wr := [xBA cs q m' g]) (as := []) (mc' := 0) (ms' := 0) (X' := fun u w => u = some (iZ 1) ∧ w = [xSB b q (t.length : Int)]) zd_JB_append_c97b9_18 zl_JB_83 zk_JB_isLatin1 zsm_JB_isLatin1 zse_JB_isLatin1 zim_JB_isLatin1 (fr' := 0) (by decide) List.mem_cons_self rfl rfl rfl (Nat.le_of_ble_eq_true rfl) (List.Perm.refl _) ⟨by omega, by omega⟩ (q_isLatin1B ⟨rfl, rfl⟩) (fun u w h => ?_)
  obtain ⟨rfl, rfl⟩ := h
  refine QW_if_eq zd_JB_append_c97b9_21 (by decide) (fun hz => absurd hz (by decide)) (fun hz => ?_)
  refine QW_iload_n zd_JB_append_c97b9_24 rfl ?_
  refine QW_iload_n zd_JB_append_c97b9_25 rfl ?_
  refine QW_aload_n zd_JB_append_c97b9_26 rfl ?_
  refine QW_get zd_JB_append_c97b9_27 zf_JB_15 List.mem_cons_self rfl ?_
  refine QW_callS (wc := [xBA cs q m' g]) (wr := [xSB b q (t.length : Int)]) (as := [iZ x, iZ ((t.length + 1 : Nat) : Int), .ref q]) (mc' := 0) (ms' := 0) (X' := fun u w => u = some (iZ (((t.length + 1 : Nat) : Int) - 1)) ∧ w = [xBA cs q m' (zaU g (((t.length + 1 : Nat) : Int) - 1).toNat (48 + x))]) zd_JB_append_c97b9_30 zl_JB_248 zk_JI_getChars zv_JI_getChars (fr' := 0) (by decide) rfl rfl (Nat.le_of_ble_eq_true rfl) (List.Perm.swap _ _ _) ⟨by omega, by omega⟩ (q_getChars hx ⟨by omega, by omega, by omega⟩ ⟨rfl, rfl⟩) (fun u w h => ?_)
  obtain ⟨rfl, rfl⟩ := h
  refine QW_perm (List.Perm.swap _ _ _) ?_
  refine QW_pop zd_JB_append_c97b9_33 rfl ?_
  refine QW_goto zd_JB_append_c97b9_34 ?_
  refine QW_aload_n zd_JB_append_c97b9_48 rfl ?_
  refine QW_iload_n zd_JB_append_c97b9_49 rfl ?_
  refine QW_put zd_JB_append_c97b9_50 zf_JB_79 (List.Perm.refl _) (xnfin rfl) (fty := .int) (by decide +kernel) rfl rfl (Nat.le_of_ble_eq_true rfl) ?_
  refine QW_aload_n zd_JB_append_c97b9_53 rfl ?_
  refine QW_aret zd_JB_append_c97b9_54 (Or.inl ⟨_, rfl⟩) ⟨by omega, by omega⟩ (hX _ ⟨q, zaU g (((t.length + 1 : Nat) : Int) - 1).toNat (48 + x), ?_, ?_, ?_, ?_⟩)
  · rw [List.length_append, Int.natCast_add]
    rfl
  · intro j hj
    rw [List.length_append] at hj
    have hj' : j < t.length + 1 := hj
    by_cases q9 : j < t.length
    · rw [zaU_n (by omega), g1 j (by omega), hf0 j q9]
      simp [List.getD, List.getElem?_append_left q9]
    · obtain rfl : j = t.length := by omega
      rw [show (((t.length + 1 : Nat) : Int) - 1).toNat = t.length by omega, zaU_s]
      simp [List.getD]
  · rw [List.length_append]
    have h9 : t.length + 1 ≤ m' := g3
    exact ⟨h9, by omega, by omega⟩
  · intro j
    by_cases q9 : j = t.length
    · subst q9
      rw [show (((t.length + 1 : Nat) : Int) - 1).toNat = t.length by omega, zaU_s]
      exact ⟨by omega, by omega⟩
    · rw [zaU_n (by omega)]
      exact g2 j
set_option maxHeartbeats 1000000 in
theorem q_appendID {b m m' mc ms : Nat} {x : Int} {t : List Int} {w : va_W} (hx : 0 ≤ x ∧ x < 10) (hB : xBld cs b t m w) (hR : xRm m (t.length + 1) m' mc ms) (hm : t.length + 1 ≤ 9000 ∧ m' ≤ 9000) (hX : ∀ w', xBld cs b (t ++ [48 + x]) m' w' → X (some (.ref b)) w') : QM v D cs zm_JD_append_bf812 9 mc ms [.ref b, iZ x] w X := by
  refine qm_of zk_JD_append_bf812 (Nat.le_of_ble_eq_true rfl) (ls := [some (.ref b), some (iZ x)]) rfl ?_
  have hB0 := hB
  obtain ⟨da, f, rfl, -⟩ := hB
  refine QW_aload_n zd_JD_append_bf812_0 rfl ?_
  refine QW_iload_n zd_JD_append_bf812_1 rfl ?_
  refine QW_callSU (wc := [xSB b da (t.length : Int), xBA cs da m f]) (wr := []) (as := [iZ x]) (mc' := mc) (ms' := ms) (X' := fun u w => u = some (.ref b) ∧ xBld cs b (t ++ [48 + x]) m' w) zd_JD_append_bf812_2 zl_JD_53 zk_JB_append_c97b9 (by decide) zsm_JB_append_c97b9 zwd_641 zim_JB_append_c97b9 (fr' := 8) (by decide) List.mem_cons_self rfl rfl rfl (Nat.le_of_ble_eq_true rfl) (List.Perm.refl _) ⟨by omega, by omega⟩ (q_appendI hx hB0 hR hm (fun w' hw => ⟨rfl, hw⟩)) (fun u w h => ?_)
  obtain ⟨rfl, hw⟩ := h
  refine QW_pop zd_JD_append_bf812_5 rfl ?_
  refine QW_aload_n zd_JD_append_bf812_6 rfl ?_
  exact QW_aret zd_JD_append_bf812_7 (Or.inl ⟨_, rfl⟩) ⟨by omega, by omega⟩ (hX _ (by rwa [List.append_nil]))
end JDKq
