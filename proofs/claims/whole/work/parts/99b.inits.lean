theorem zFP_L {own : String} {idx ci k : Nat} {ds : String} (h : zFP own idx ci k ds) : zFL own idx ci k ds := by
  obtain ⟨C, T, N, h1, h2, h3, h4, -⟩ := h
  exact ⟨C, T, N, h1, h2, h3, h4⟩
theorem zo_of {T : u_T} {N : Nat} {f0 : List Value} (h : ∀ j : Fin N, (parseFieldDescriptor (T j.val).2.2.1).map defaultValue = some (vp_V f0 j.val)) : ∀ ty : Nat → FieldType, (∀ k, k < N → parseFieldDescriptor (T k).2.2.1 = some (ty k)) → ∀ j, j < N → defaultValue (ty j) = vp_V f0 j := by
  intro ty ht j hj
  have := h ⟨j, hj⟩
  rw [ht j hj] at this
  exact Option.some.inj this
theorem NX_w {D : va_G} {cs : Nat → ClassId} {M : zMi} {fr mc ms : Nat} {XF : va_W → Prop} {a pc : Nat} {st : List Value} {ws ws' : va_W} {cells slots : Nat} (h : ws' = ws) (k : NW D cs M fr mc ms XF a pc st ws' cells slots) : NW D cs M fr mc ms XF a pc st ws cells slots := h ▸ k
theorem NX_put {D : va_G} {cs : Nat → ClassId} {M : zMi} {fr mc ms : Nat} {XF : va_W → Prop} {a pc pc' : Nat} {st : List Value} {rest : va_W} {cells slots : Nat} {idx ci kf : Nat} {fs fs' : List Value} {ds : String} {fty : FieldType} {v : Value} (d : decode M.2.1 pc = .ok (.putfield idx, 3) ∧ pc + 3 = pc') (f : zFL M.1.cls idx ci kf ds) (hdecl : ∀ (C : String) (T : u_T) (N : Nat), zcl[ci]? = some (C, T, N) → (T kf).1 = M.1.cls) (hd : parseFieldDescriptor ds = some fty) (hn : narrow fty v = v) (hfit : fits fty v = true) (hl0 : kf < fs.length) (hs : fs.set kf v = fs')
    (k : NW D cs M fr mc ms XF a pc' st ((a, .inr (ci, fs')) :: rest) cells slots) : NW D cs M fr mc ms XF a pc (v :: .ref a :: st) ((a, .inr (ci, fs)) :: rest) cells slots := by
  subst hs
  exact NW_put (q0 := 0) d f rfl hdecl hd hn hfit hl0 k
def zX_S (cs : Nat → ClassId) (a : Nat) (ws : va_W) : Prop := ∃ q1 q2 : Nat, ws = [(a, .inr (3, [.ref q1, .ref q2, iZ 0])), (q1, .inl (cs 0, zarr 0 16 (fun _ => 0))), (q2, .inl (cs 0, zarr 0 16 (fun _ => 0)))]
def zf0_S : List Value := [.null, .null, iZ 0]
theorem zo_S : ∀ ty : Nat → FieldType, (∀ k, k < 3 → parseFieldDescriptor (zF_S k).2.2.1 = some (ty k)) → ∀ j, j < 3 → defaultValue (ty j) = vp_V zf0_S j := zo_of (by decide +kernel)
theorem zinit_S {D : va_G} {cs : Nat → ClassId} : NM D cs zm_S_init 1 2 32 3 zf0_S (zX_S cs) := by
  refine nm_of zk_S_init rfl rfl rfl (fun a => ?_)
  refine NX_w (ws' := [(a, .inr (3, [.null, .null, iZ 0]))]) rfl ?_
  refine NW_aload zd_S_init_0 ?_
  refine NW_objI zd_S_init_1 (zin2 7 (by decide +kernel) rfl) (by decide) (by decide) ?_
  refine NW_aload zd_S_init_4 ?_
  refine NW_bipush zd_S_init_5 (by decide) ?_
  refine NW_newa (i := 0) (N := 16) zd_S_init_7 (by decide) rfl (zin1 61 (by decide +kernel) rfl) (by decide) (by decide) (by decide) (fun q1 => ?_)
  refine NX_w (ws' := [(a, .inr (3, [.null, .null, iZ 0])), (q1, .inl (cs 0, zarr 0 16 (fun _ => 0)))]) rfl ?_
  refine NX_put (fs' := [.ref q1, .null, iZ 0]) zd_S_init_9 zf_S_9 (fun C T N h => by have h := Option.some.inj (show some (zR_S, zF_S, 3) = some (C, T, N) from h); cases h; rfl) (fty := .array .int) (by decide +kernel) rfl rfl (Nat.le_of_ble_eq_true rfl) rfl ?_
  refine NW_aload zd_S_init_12 ?_
  refine NW_bipush zd_S_init_13 (by decide) ?_
  refine NW_newa (i := 0) (N := 16) zd_S_init_15 (by decide) rfl (zin1 61 (by decide +kernel) rfl) (by decide) (by decide) (by decide) (fun q2 => ?_)
  refine NX_w (ws' := [(a, .inr (3, [.ref q1, .null, iZ 0])), (q1, .inl (cs 0, zarr 0 16 (fun _ => 0))), (q2, .inl (cs 0, zarr 0 16 (fun _ => 0)))]) rfl ?_
  refine NX_put (fs' := [.ref q1, .ref q2, iZ 0]) zd_S_init_17 zf_S_15 (fun C T N h => by have h := Option.some.inj (show some (zR_S, zF_S, 3) = some (C, T, N) from h); cases h; rfl) (fty := .array .int) (by decide +kernel) rfl rfl (Nat.le_of_ble_eq_true rfl) rfl ?_
  exact NW_ret zd_S_init_20.1 ⟨q1, q2, rfl⟩
def zX_L (cs : Nat → ClassId) (a : Nat) (ws : va_W) : Prop := ∃ q1 q2 q3 q4 : Nat, ws = [(a, .inr (1, [.ref q1, .ref q2, iZ 0, iZ 0, .ref q3, .ref q4, iZ 0, iZ 0])), (q1, .inl (cs 0, zarr 0 576 (fun _ => 0))), (q2, .inl (cs 0, zarr 0 8 (fun _ => 0))), (q3, .inl (cs 0, zarr 0 1728 (fun _ => 0))), (q4, .inl (cs 0, zarr 0 576 (fun _ => 0)))]
def zf0_L : List Value := [.null, .null, iZ 0, iZ 0, .null, .null, iZ 0, iZ 0]
theorem zo_L : ∀ ty : Nat → FieldType, (∀ k, k < 8 → parseFieldDescriptor (zF_L k).2.2.1 = some (ty k)) → ∀ j, j < 8 → defaultValue (ty j) = vp_V zf0_L j := zo_of (by decide +kernel)
theorem zinit_L {D : va_G} {cs : Nat → ClassId} : NM D cs zm_L_init 1 4 2888 1 zf0_L (zX_L cs) := by
  refine nm_of zk_L_init rfl rfl rfl (fun a => ?_)
  refine NX_w (ws' := [(a, .inr (1, [.null, .null, iZ 0, iZ 0, .null, .null, iZ 0, iZ 0]))]) rfl ?_
  refine NW_aload zd_L_init_0 ?_
  refine NW_objI zd_L_init_1 (zin1 183 (by decide +kernel) rfl) (by decide) (by decide) ?_
  refine NW_aload zd_L_init_4 ?_
  refine NW_sipush zd_L_init_5 (by decide) ?_
  refine NW_newa (i := 0) (N := 576) zd_L_init_8 (by decide) rfl (zin1 61 (by decide +kernel) rfl) (by decide) (by decide) (by decide) (fun q1 => ?_)
  refine NX_w (ws' := [(a, .inr (1, [.null, .null, iZ 0, iZ 0, .null, .null, iZ 0, iZ 0])), (q1, .inl (cs 0, zarr 0 576 (fun _ => 0)))]) rfl ?_
  refine NX_put (fs' := [.ref q1, .null, iZ 0, iZ 0, .null, .null, iZ 0, iZ 0]) zd_L_init_10 zf_L_9 (fun C T N h => by have h := Option.some.inj (show some (zR_L, zF_L, 8) = some (C, T, N) from h); cases h; rfl) (fty := .array .int) (by decide +kernel) rfl rfl (Nat.le_of_ble_eq_true rfl) rfl ?_
  refine NW_aload zd_L_init_13 ?_
  refine NW_bipush zd_L_init_14 (by decide) ?_
  refine NW_newa (i := 0) (N := 8) zd_L_init_16 (by decide) rfl (zin1 61 (by decide +kernel) rfl) (by decide) (by decide) (by decide) (fun q2 => ?_)
  refine NX_w (ws' := [(a, .inr (1, [.ref q1, .null, iZ 0, iZ 0, .null, .null, iZ 0, iZ 0])), (q1, .inl (cs 0, zarr 0 576 (fun _ => 0))), (q2, .inl (cs 0, zarr 0 8 (fun _ => 0)))]) rfl ?_
  refine NX_put (fs' := [.ref q1, .ref q2, iZ 0, iZ 0, .null, .null, iZ 0, iZ 0]) zd_L_init_18 zf_L_15 (fun C T N h => by have h := Option.some.inj (show some (zR_L, zF_L, 8) = some (C, T, N) from h); cases h; rfl) (fty := .array .int) (by decide +kernel) rfl rfl (Nat.le_of_ble_eq_true rfl) rfl ?_
  refine NW_aload zd_L_init_21 ?_
  refine NW_sipush zd_L_init_22 (by decide) ?_
  refine NW_newa (i := 0) (N := 1728) zd_L_init_25 (by decide) rfl (zin1 61 (by decide +kernel) rfl) (by decide) (by decide) (by decide) (fun q3 => ?_)
  refine NX_w (ws' := [(a, .inr (1, [.ref q1, .ref q2, iZ 0, iZ 0, .null, .null, iZ 0, iZ 0])), (q1, .inl (cs 0, zarr 0 576 (fun _ => 0))), (q2, .inl (cs 0, zarr 0 8 (fun _ => 0))), (q3, .inl (cs 0, zarr 0 1728 (fun _ => 0)))]) rfl ?_
  refine NX_put (fs' := [.ref q1, .ref q2, iZ 0, iZ 0, .ref q3, .null, iZ 0, iZ 0]) zd_L_init_27 zf_L_18 (fun C T N h => by have h := Option.some.inj (show some (zR_L, zF_L, 8) = some (C, T, N) from h); cases h; rfl) (fty := .array .int) (by decide +kernel) rfl rfl (Nat.le_of_ble_eq_true rfl) rfl ?_
  refine NW_aload zd_L_init_30 ?_
  refine NW_sipush zd_L_init_31 (by decide) ?_
  refine NW_newa (i := 0) (N := 576) zd_L_init_34 (by decide) rfl (zin1 61 (by decide +kernel) rfl) (by decide) (by decide) (by decide) (fun q4 => ?_)
  refine NX_w (ws' := [(a, .inr (1, [.ref q1, .ref q2, iZ 0, iZ 0, .ref q3, .null, iZ 0, iZ 0])), (q1, .inl (cs 0, zarr 0 576 (fun _ => 0))), (q2, .inl (cs 0, zarr 0 8 (fun _ => 0))), (q3, .inl (cs 0, zarr 0 1728 (fun _ => 0))), (q4, .inl (cs 0, zarr 0 576 (fun _ => 0)))]) rfl ?_
  refine NX_put (fs' := [.ref q1, .ref q2, iZ 0, iZ 0, .ref q3, .ref q4, iZ 0, iZ 0]) zd_L_init_36 zf_L_21 (fun C T N h => by have h := Option.some.inj (show some (zR_L, zF_L, 8) = some (C, T, N) from h); cases h; rfl) (fty := .array .int) (by decide +kernel) rfl rfl (Nat.le_of_ble_eq_true rfl) rfl ?_
  exact NW_ret zd_L_init_39.1 ⟨q1, q2, q3, q4, rfl⟩
def zX_T (cs : Nat → ClassId) (a : Nat) (ws : va_W) : Prop := ∃ q1 q2 q3 q4 q5 q6 q7 q8 q9 q10 q11 q12 : Nat, ws = [(a, .inr (4, [iZ 0, iZ 0, .ref q1, .ref q2, iZ 0, .ref q3, .ref q4, .ref q5, .ref q6, .ref q7, .ref q8, .ref q9, .ref q10, .ref q11, iZ 0, .ref q12])), (q1, .inl (cs 0, zarr 0 576 (fun _ => 0))), (q2, .inl (cs 0, zarr 0 144 (fun _ => 0))), (q3, .inl (cs 0, zarr 0 60 (fun _ => 0))), (q4, .inl (cs 0, zarr 0 60 (fun _ => 0))), (q5, .inl (cs 0, zarr 0 60 (fun _ => 0))), (q6, .inl (cs 0, zarr 0 60 (fun _ => 0))), (q7, .inl (cs 0, zarr 0 60 (fun _ => 0))), (q8, .inl (cs 0, zarr 0 4 (fun _ => 0))), (q9, .inl (cs 0, zarr 0 32 (fun _ => 0))), (q10, .inl (cs 0, zarr 0 8 (fun _ => 0))), (q11, .inl (cs 0, zarr 0 533 (fun _ => 0))), (q12, .inl (cs 0, zarr 0 6 (fun _ => 0)))]
def zf0_T : List Value := [iZ 0, iZ 0, .null, .null, iZ 0, .null, .null, .null, .null, .null, .null, .null, .null, .null, iZ 0, .null]
theorem zo_T : ∀ ty : Nat → FieldType, (∀ k, k < 16 → parseFieldDescriptor (zF_T k).2.2.1 = some (ty k)) → ∀ j, j < 16 → defaultValue (ty j) = vp_V zf0_T j := zo_of (by decide +kernel)
theorem zinit_T {D : va_G} {cs : Nat → ClassId} : NM D cs zm_T_init 1 12 1603 4 zf0_T (zX_T cs) := by
  refine nm_of zk_T_init rfl rfl rfl (fun a => ?_)
  refine NX_w (ws' := [(a, .inr (4, [iZ 0, iZ 0, .null, .null, iZ 0, .null, .null, .null, .null, .null, .null, .null, .null, .null, iZ 0, .null]))]) rfl ?_
  refine NW_aload zd_T_init_0 ?_
  refine NW_objI zd_T_init_1 (zin1 67 (by decide +kernel) rfl) (by decide) (by decide) ?_
  refine NW_aload zd_T_init_4 ?_
  refine NW_sipush zd_T_init_5 (by decide) ?_
  refine NW_newa (i := 0) (N := 576) zd_T_init_8 (by decide) rfl (zin1 61 (by decide +kernel) rfl) (by decide) (by decide) (by decide) (fun q1 => ?_)
  refine NX_w (ws' := [(a, .inr (4, [iZ 0, iZ 0, .null, .null, iZ 0, .null, .null, .null, .null, .null, .null, .null, .null, .null, iZ 0, .null])), (q1, .inl (cs 0, zarr 0 576 (fun _ => 0)))]) rfl ?_
  refine NX_put (fs' := [iZ 0, iZ 0, .ref q1, .null, iZ 0, .null, .null, .null, .null, .null, .null, .null, .null, .null, iZ 0, .null]) zd_T_init_10 zf_T_9 (fun C T N h => by have h := Option.some.inj (show some (zR_T, zF_T, 16) = some (C, T, N) from h); cases h; rfl) (fty := .array .int) (by decide +kernel) rfl rfl (Nat.le_of_ble_eq_true rfl) rfl ?_
  refine NW_aload zd_T_init_13 ?_
  refine NW_sipush zd_T_init_14 (by decide) ?_
  refine NW_newa (i := 0) (N := 144) zd_T_init_17 (by decide) rfl (zin1 61 (by decide +kernel) rfl) (by decide) (by decide) (by decide) (fun q2 => ?_)
  refine NX_w (ws' := [(a, .inr (4, [iZ 0, iZ 0, .ref q1, .null, iZ 0, .null, .null, .null, .null, .null, .null, .null, .null, .null, iZ 0, .null])), (q1, .inl (cs 0, zarr 0 576 (fun _ => 0))), (q2, .inl (cs 0, zarr 0 144 (fun _ => 0)))]) rfl ?_
  refine NX_put (fs' := [iZ 0, iZ 0, .ref q1, .ref q2, iZ 0, .null, .null, .null, .null, .null, .null, .null, .null, .null, iZ 0, .null]) zd_T_init_19 zf_T_15 (fun C T N h => by have h := Option.some.inj (show some (zR_T, zF_T, 16) = some (C, T, N) from h); cases h; rfl) (fty := .array .int) (by decide +kernel) rfl rfl (Nat.le_of_ble_eq_true rfl) rfl ?_
  refine NW_aload zd_T_init_22 ?_
  refine NW_bipush zd_T_init_23 (by decide) ?_
  refine NW_newa (i := 0) (N := 60) zd_T_init_25 (by decide) rfl (zin1 61 (by decide +kernel) rfl) (by decide) (by decide) (by decide) (fun q3 => ?_)
  refine NX_w (ws' := [(a, .inr (4, [iZ 0, iZ 0, .ref q1, .ref q2, iZ 0, .null, .null, .null, .null, .null, .null, .null, .null, .null, iZ 0, .null])), (q1, .inl (cs 0, zarr 0 576 (fun _ => 0))), (q2, .inl (cs 0, zarr 0 144 (fun _ => 0))), (q3, .inl (cs 0, zarr 0 60 (fun _ => 0)))]) rfl ?_
  refine NX_put (fs' := [iZ 0, iZ 0, .ref q1, .ref q2, iZ 0, .ref q3, .null, .null, .null, .null, .null, .null, .null, .null, iZ 0, .null]) zd_T_init_27 zf_T_18 (fun C T N h => by have h := Option.some.inj (show some (zR_T, zF_T, 16) = some (C, T, N) from h); cases h; rfl) (fty := .array .int) (by decide +kernel) rfl rfl (Nat.le_of_ble_eq_true rfl) rfl ?_
  refine NW_aload zd_T_init_30 ?_
  refine NW_bipush zd_T_init_31 (by decide) ?_
  refine NW_newa (i := 0) (N := 60) zd_T_init_33 (by decide) rfl (zin1 61 (by decide +kernel) rfl) (by decide) (by decide) (by decide) (fun q4 => ?_)
  refine NX_w (ws' := [(a, .inr (4, [iZ 0, iZ 0, .ref q1, .ref q2, iZ 0, .ref q3, .null, .null, .null, .null, .null, .null, .null, .null, iZ 0, .null])), (q1, .inl (cs 0, zarr 0 576 (fun _ => 0))), (q2, .inl (cs 0, zarr 0 144 (fun _ => 0))), (q3, .inl (cs 0, zarr 0 60 (fun _ => 0))), (q4, .inl (cs 0, zarr 0 60 (fun _ => 0)))]) rfl ?_
  refine NX_put (fs' := [iZ 0, iZ 0, .ref q1, .ref q2, iZ 0, .ref q3, .ref q4, .null, .null, .null, .null, .null, .null, .null, iZ 0, .null]) zd_T_init_35 zf_T_21 (fun C T N h => by have h := Option.some.inj (show some (zR_T, zF_T, 16) = some (C, T, N) from h); cases h; rfl) (fty := .array .int) (by decide +kernel) rfl rfl (Nat.le_of_ble_eq_true rfl) rfl ?_
  refine NW_aload zd_T_init_38 ?_
  refine NW_bipush zd_T_init_39 (by decide) ?_
  refine NW_newa (i := 0) (N := 60) zd_T_init_41 (by decide) rfl (zin1 61 (by decide +kernel) rfl) (by decide) (by decide) (by decide) (fun q5 => ?_)
  refine NX_w (ws' := [(a, .inr (4, [iZ 0, iZ 0, .ref q1, .ref q2, iZ 0, .ref q3, .ref q4, .null, .null, .null, .null, .null, .null, .null, iZ 0, .null])), (q1, .inl (cs 0, zarr 0 576 (fun _ => 0))), (q2, .inl (cs 0, zarr 0 144 (fun _ => 0))), (q3, .inl (cs 0, zarr 0 60 (fun _ => 0))), (q4, .inl (cs 0, zarr 0 60 (fun _ => 0))), (q5, .inl (cs 0, zarr 0 60 (fun _ => 0)))]) rfl ?_
  refine NX_put (fs' := [iZ 0, iZ 0, .ref q1, .ref q2, iZ 0, .ref q3, .ref q4, .ref q5, .null, .null, .null, .null, .null, .null, iZ 0, .null]) zd_T_init_43 zf_T_24 (fun C T N h => by have h := Option.some.inj (show some (zR_T, zF_T, 16) = some (C, T, N) from h); cases h; rfl) (fty := .array .int) (by decide +kernel) rfl rfl (Nat.le_of_ble_eq_true rfl) rfl ?_
  refine NW_aload zd_T_init_46 ?_
  refine NW_bipush zd_T_init_47 (by decide) ?_
  refine NW_newa (i := 0) (N := 60) zd_T_init_49 (by decide) rfl (zin1 61 (by decide +kernel) rfl) (by decide) (by decide) (by decide) (fun q6 => ?_)
  refine NX_w (ws' := [(a, .inr (4, [iZ 0, iZ 0, .ref q1, .ref q2, iZ 0, .ref q3, .ref q4, .ref q5, .null, .null, .null, .null, .null, .null, iZ 0, .null])), (q1, .inl (cs 0, zarr 0 576 (fun _ => 0))), (q2, .inl (cs 0, zarr 0 144 (fun _ => 0))), (q3, .inl (cs 0, zarr 0 60 (fun _ => 0))), (q4, .inl (cs 0, zarr 0 60 (fun _ => 0))), (q5, .inl (cs 0, zarr 0 60 (fun _ => 0))), (q6, .inl (cs 0, zarr 0 60 (fun _ => 0)))]) rfl ?_
  refine NX_put (fs' := [iZ 0, iZ 0, .ref q1, .ref q2, iZ 0, .ref q3, .ref q4, .ref q5, .ref q6, .null, .null, .null, .null, .null, iZ 0, .null]) zd_T_init_51 zf_T_27 (fun C T N h => by have h := Option.some.inj (show some (zR_T, zF_T, 16) = some (C, T, N) from h); cases h; rfl) (fty := .array .int) (by decide +kernel) rfl rfl (Nat.le_of_ble_eq_true rfl) rfl ?_
  refine NW_aload zd_T_init_54 ?_
  refine NW_bipush zd_T_init_55 (by decide) ?_
  refine NW_newa (i := 0) (N := 60) zd_T_init_57 (by decide) rfl (zin1 61 (by decide +kernel) rfl) (by decide) (by decide) (by decide) (fun q7 => ?_)
  refine NX_w (ws' := [(a, .inr (4, [iZ 0, iZ 0, .ref q1, .ref q2, iZ 0, .ref q3, .ref q4, .ref q5, .ref q6, .null, .null, .null, .null, .null, iZ 0, .null])), (q1, .inl (cs 0, zarr 0 576 (fun _ => 0))), (q2, .inl (cs 0, zarr 0 144 (fun _ => 0))), (q3, .inl (cs 0, zarr 0 60 (fun _ => 0))), (q4, .inl (cs 0, zarr 0 60 (fun _ => 0))), (q5, .inl (cs 0, zarr 0 60 (fun _ => 0))), (q6, .inl (cs 0, zarr 0 60 (fun _ => 0))), (q7, .inl (cs 0, zarr 0 60 (fun _ => 0)))]) rfl ?_
  refine NX_put (fs' := [iZ 0, iZ 0, .ref q1, .ref q2, iZ 0, .ref q3, .ref q4, .ref q5, .ref q6, .ref q7, .null, .null, .null, .null, iZ 0, .null]) zd_T_init_59 zf_T_30 (fun C T N h => by have h := Option.some.inj (show some (zR_T, zF_T, 16) = some (C, T, N) from h); cases h; rfl) (fty := .array .int) (by decide +kernel) rfl rfl (Nat.le_of_ble_eq_true rfl) rfl ?_
  refine NW_aload zd_T_init_62 ?_
  refine NW_iconst zd_T_init_63 ?_
  refine NW_newa (i := 0) (N := 4) zd_T_init_64 (by decide) rfl (zin1 61 (by decide +kernel) rfl) (by decide) (by decide) (by decide) (fun q8 => ?_)
  refine NX_w (ws' := [(a, .inr (4, [iZ 0, iZ 0, .ref q1, .ref q2, iZ 0, .ref q3, .ref q4, .ref q5, .ref q6, .ref q7, .null, .null, .null, .null, iZ 0, .null])), (q1, .inl (cs 0, zarr 0 576 (fun _ => 0))), (q2, .inl (cs 0, zarr 0 144 (fun _ => 0))), (q3, .inl (cs 0, zarr 0 60 (fun _ => 0))), (q4, .inl (cs 0, zarr 0 60 (fun _ => 0))), (q5, .inl (cs 0, zarr 0 60 (fun _ => 0))), (q6, .inl (cs 0, zarr 0 60 (fun _ => 0))), (q7, .inl (cs 0, zarr 0 60 (fun _ => 0))), (q8, .inl (cs 0, zarr 0 4 (fun _ => 0)))]) rfl ?_
  refine NX_put (fs' := [iZ 0, iZ 0, .ref q1, .ref q2, iZ 0, .ref q3, .ref q4, .ref q5, .ref q6, .ref q7, .ref q8, .null, .null, .null, iZ 0, .null]) zd_T_init_66 zf_T_33 (fun C T N h => by have h := Option.some.inj (show some (zR_T, zF_T, 16) = some (C, T, N) from h); cases h; rfl) (fty := .array .int) (by decide +kernel) rfl rfl (Nat.le_of_ble_eq_true rfl) rfl ?_
  refine NW_aload zd_T_init_69 ?_
  refine NW_bipush zd_T_init_70 (by decide) ?_
  refine NW_newa (i := 0) (N := 32) zd_T_init_72 (by decide) rfl (zin1 61 (by decide +kernel) rfl) (by decide) (by decide) (by decide) (fun q9 => ?_)
  refine NX_w (ws' := [(a, .inr (4, [iZ 0, iZ 0, .ref q1, .ref q2, iZ 0, .ref q3, .ref q4, .ref q5, .ref q6, .ref q7, .ref q8, .null, .null, .null, iZ 0, .null])), (q1, .inl (cs 0, zarr 0 576 (fun _ => 0))), (q2, .inl (cs 0, zarr 0 144 (fun _ => 0))), (q3, .inl (cs 0, zarr 0 60 (fun _ => 0))), (q4, .inl (cs 0, zarr 0 60 (fun _ => 0))), (q5, .inl (cs 0, zarr 0 60 (fun _ => 0))), (q6, .inl (cs 0, zarr 0 60 (fun _ => 0))), (q7, .inl (cs 0, zarr 0 60 (fun _ => 0))), (q8, .inl (cs 0, zarr 0 4 (fun _ => 0))), (q9, .inl (cs 0, zarr 0 32 (fun _ => 0)))]) rfl ?_
  refine NX_put (fs' := [iZ 0, iZ 0, .ref q1, .ref q2, iZ 0, .ref q3, .ref q4, .ref q5, .ref q6, .ref q7, .ref q8, .ref q9, .null, .null, iZ 0, .null]) zd_T_init_74 zf_T_36 (fun C T N h => by have h := Option.some.inj (show some (zR_T, zF_T, 16) = some (C, T, N) from h); cases h; rfl) (fty := .array .int) (by decide +kernel) rfl rfl (Nat.le_of_ble_eq_true rfl) rfl ?_
  refine NW_aload zd_T_init_77 ?_
  refine NW_bipush zd_T_init_78 (by decide) ?_
  refine NW_newa (i := 0) (N := 8) zd_T_init_80 (by decide) rfl (zin1 61 (by decide +kernel) rfl) (by decide) (by decide) (by decide) (fun q10 => ?_)
  refine NX_w (ws' := [(a, .inr (4, [iZ 0, iZ 0, .ref q1, .ref q2, iZ 0, .ref q3, .ref q4, .ref q5, .ref q6, .ref q7, .ref q8, .ref q9, .null, .null, iZ 0, .null])), (q1, .inl (cs 0, zarr 0 576 (fun _ => 0))), (q2, .inl (cs 0, zarr 0 144 (fun _ => 0))), (q3, .inl (cs 0, zarr 0 60 (fun _ => 0))), (q4, .inl (cs 0, zarr 0 60 (fun _ => 0))), (q5, .inl (cs 0, zarr 0 60 (fun _ => 0))), (q6, .inl (cs 0, zarr 0 60 (fun _ => 0))), (q7, .inl (cs 0, zarr 0 60 (fun _ => 0))), (q8, .inl (cs 0, zarr 0 4 (fun _ => 0))), (q9, .inl (cs 0, zarr 0 32 (fun _ => 0))), (q10, .inl (cs 0, zarr 0 8 (fun _ => 0)))]) rfl ?_
  refine NX_put (fs' := [iZ 0, iZ 0, .ref q1, .ref q2, iZ 0, .ref q3, .ref q4, .ref q5, .ref q6, .ref q7, .ref q8, .ref q9, .ref q10, .null, iZ 0, .null]) zd_T_init_82 zf_T_39 (fun C T N h => by have h := Option.some.inj (show some (zR_T, zF_T, 16) = some (C, T, N) from h); cases h; rfl) (fty := .array .int) (by decide +kernel) rfl rfl (Nat.le_of_ble_eq_true rfl) rfl ?_
  refine NW_aload zd_T_init_85 ?_
  refine NW_sipush zd_T_init_86 (by decide) ?_
  refine NW_newa (i := 0) (N := 533) zd_T_init_89 (by decide) rfl (zin1 61 (by decide +kernel) rfl) (by decide) (by decide) (by decide) (fun q11 => ?_)
  refine NX_w (ws' := [(a, .inr (4, [iZ 0, iZ 0, .ref q1, .ref q2, iZ 0, .ref q3, .ref q4, .ref q5, .ref q6, .ref q7, .ref q8, .ref q9, .ref q10, .null, iZ 0, .null])), (q1, .inl (cs 0, zarr 0 576 (fun _ => 0))), (q2, .inl (cs 0, zarr 0 144 (fun _ => 0))), (q3, .inl (cs 0, zarr 0 60 (fun _ => 0))), (q4, .inl (cs 0, zarr 0 60 (fun _ => 0))), (q5, .inl (cs 0, zarr 0 60 (fun _ => 0))), (q6, .inl (cs 0, zarr 0 60 (fun _ => 0))), (q7, .inl (cs 0, zarr 0 60 (fun _ => 0))), (q8, .inl (cs 0, zarr 0 4 (fun _ => 0))), (q9, .inl (cs 0, zarr 0 32 (fun _ => 0))), (q10, .inl (cs 0, zarr 0 8 (fun _ => 0))), (q11, .inl (cs 0, zarr 0 533 (fun _ => 0)))]) rfl ?_
  refine NX_put (fs' := [iZ 0, iZ 0, .ref q1, .ref q2, iZ 0, .ref q3, .ref q4, .ref q5, .ref q6, .ref q7, .ref q8, .ref q9, .ref q10, .ref q11, iZ 0, .null]) zd_T_init_91 zf_T_42 (fun C T N h => by have h := Option.some.inj (show some (zR_T, zF_T, 16) = some (C, T, N) from h); cases h; rfl) (fty := .array .int) (by decide +kernel) rfl rfl (Nat.le_of_ble_eq_true rfl) rfl ?_
  refine NW_aload zd_T_init_94 ?_
  refine NW_bipush zd_T_init_95 (by decide) ?_
  refine NW_newa (i := 0) (N := 6) zd_T_init_97 (by decide) rfl (zin1 61 (by decide +kernel) rfl) (by decide) (by decide) (by decide) (fun q12 => ?_)
  refine NX_w (ws' := [(a, .inr (4, [iZ 0, iZ 0, .ref q1, .ref q2, iZ 0, .ref q3, .ref q4, .ref q5, .ref q6, .ref q7, .ref q8, .ref q9, .ref q10, .ref q11, iZ 0, .null])), (q1, .inl (cs 0, zarr 0 576 (fun _ => 0))), (q2, .inl (cs 0, zarr 0 144 (fun _ => 0))), (q3, .inl (cs 0, zarr 0 60 (fun _ => 0))), (q4, .inl (cs 0, zarr 0 60 (fun _ => 0))), (q5, .inl (cs 0, zarr 0 60 (fun _ => 0))), (q6, .inl (cs 0, zarr 0 60 (fun _ => 0))), (q7, .inl (cs 0, zarr 0 60 (fun _ => 0))), (q8, .inl (cs 0, zarr 0 4 (fun _ => 0))), (q9, .inl (cs 0, zarr 0 32 (fun _ => 0))), (q10, .inl (cs 0, zarr 0 8 (fun _ => 0))), (q11, .inl (cs 0, zarr 0 533 (fun _ => 0))), (q12, .inl (cs 0, zarr 0 6 (fun _ => 0)))]) rfl ?_
  refine NX_put (fs' := [iZ 0, iZ 0, .ref q1, .ref q2, iZ 0, .ref q3, .ref q4, .ref q5, .ref q6, .ref q7, .ref q8, .ref q9, .ref q10, .ref q11, iZ 0, .ref q12]) zd_T_init_99 zf_T_45 (fun C T N h => by have h := Option.some.inj (show some (zR_T, zF_T, 16) = some (C, T, N) from h); cases h; rfl) (fty := .array .int) (by decide +kernel) rfl rfl (Nat.le_of_ble_eq_true rfl) rfl ?_
  exact NW_ret zd_T_init_102.1 ⟨q1, q2, q3, q4, q5, q6, q7, q8, q9, q10, q11, q12, rfl⟩
def zX_K (cs : Nat → ClassId) (a : Nat) (ws : va_W) : Prop := ∃ q1 q2 q3 q4 q5 : Nat, ws = [(a, .inr (5, [.ref q1, .ref q2, .ref q3, .ref q4, iZ 0, .ref q5])), (q1, .inl (cs 0, zarr 0 1601 (fun _ => 0))), (q2, .inl (cs 0, zarr 0 1601 (fun _ => 0))), (q3, .inl (cs 0, zarr 0 1601 (fun _ => 0))), (q4, .inl (cs 0, zarr 0 1601 (fun _ => 0))), (q5, .inl (cs 0, zarr 0 0 (fun _ => 0)))]
def zf0_K : List Value := [.null, .null, .null, .null, iZ 0, .null]
theorem zo_K : ∀ ty : Nat → FieldType, (∀ k, k < 6 → parseFieldDescriptor (zF_K k).2.2.1 = some (ty k)) → ∀ j, j < 6 → defaultValue (ty j) = vp_V zf0_K j := zo_of (by decide +kernel)
theorem zinit_K {D : va_G} {cs : Nat → ClassId} : NM D cs zm_K_init 1 5 6404 5 zf0_K (zX_K cs) := by
  refine nm_of zk_K_init rfl rfl rfl (fun a => ?_)
  refine NX_w (ws' := [(a, .inr (5, [.null, .null, .null, .null, iZ 0, .null]))]) rfl ?_
  refine NW_aload zd_K_init_0 ?_
  refine NW_objI zd_K_init_1 (zin1 36 (by decide +kernel) rfl) (by decide) (by decide) ?_
  refine NW_aload zd_K_init_4 ?_
  refine NW_sipush zd_K_init_5 (by decide) ?_
  refine NW_newa (i := 0) (N := 1601) zd_K_init_8 (by decide) rfl (zin1 61 (by decide +kernel) rfl) (by decide) (by decide) (by decide) (fun q1 => ?_)
  refine NX_w (ws' := [(a, .inr (5, [.null, .null, .null, .null, iZ 0, .null])), (q1, .inl (cs 0, zarr 0 1601 (fun _ => 0)))]) rfl ?_
  refine NX_put (fs' := [.ref q1, .null, .null, .null, iZ 0, .null]) zd_K_init_10 zf_K_9 (fun C T N h => by have h := Option.some.inj (show some (zR_K, zF_K, 6) = some (C, T, N) from h); cases h; rfl) (fty := .array .int) (by decide +kernel) rfl rfl (Nat.le_of_ble_eq_true rfl) rfl ?_
  refine NW_aload zd_K_init_13 ?_
  refine NW_sipush zd_K_init_14 (by decide) ?_
  refine NW_newa (i := 0) (N := 1601) zd_K_init_17 (by decide) rfl (zin1 61 (by decide +kernel) rfl) (by decide) (by decide) (by decide) (fun q2 => ?_)
  refine NX_w (ws' := [(a, .inr (5, [.ref q1, .null, .null, .null, iZ 0, .null])), (q1, .inl (cs 0, zarr 0 1601 (fun _ => 0))), (q2, .inl (cs 0, zarr 0 1601 (fun _ => 0)))]) rfl ?_
  refine NX_put (fs' := [.ref q1, .ref q2, .null, .null, iZ 0, .null]) zd_K_init_19 zf_K_15 (fun C T N h => by have h := Option.some.inj (show some (zR_K, zF_K, 6) = some (C, T, N) from h); cases h; rfl) (fty := .array .int) (by decide +kernel) rfl rfl (Nat.le_of_ble_eq_true rfl) rfl ?_
  refine NW_aload zd_K_init_22 ?_
  refine NW_sipush zd_K_init_23 (by decide) ?_
  refine NW_newa (i := 0) (N := 1601) zd_K_init_26 (by decide) rfl (zin1 61 (by decide +kernel) rfl) (by decide) (by decide) (by decide) (fun q3 => ?_)
  refine NX_w (ws' := [(a, .inr (5, [.ref q1, .ref q2, .null, .null, iZ 0, .null])), (q1, .inl (cs 0, zarr 0 1601 (fun _ => 0))), (q2, .inl (cs 0, zarr 0 1601 (fun _ => 0))), (q3, .inl (cs 0, zarr 0 1601 (fun _ => 0)))]) rfl ?_
  refine NX_put (fs' := [.ref q1, .ref q2, .ref q3, .null, iZ 0, .null]) zd_K_init_28 zf_K_18 (fun C T N h => by have h := Option.some.inj (show some (zR_K, zF_K, 6) = some (C, T, N) from h); cases h; rfl) (fty := .array .int) (by decide +kernel) rfl rfl (Nat.le_of_ble_eq_true rfl) rfl ?_
  refine NW_aload zd_K_init_31 ?_
  refine NW_sipush zd_K_init_32 (by decide) ?_
  refine NW_newa (i := 0) (N := 1601) zd_K_init_35 (by decide) rfl (zin1 61 (by decide +kernel) rfl) (by decide) (by decide) (by decide) (fun q4 => ?_)
  refine NX_w (ws' := [(a, .inr (5, [.ref q1, .ref q2, .ref q3, .null, iZ 0, .null])), (q1, .inl (cs 0, zarr 0 1601 (fun _ => 0))), (q2, .inl (cs 0, zarr 0 1601 (fun _ => 0))), (q3, .inl (cs 0, zarr 0 1601 (fun _ => 0))), (q4, .inl (cs 0, zarr 0 1601 (fun _ => 0)))]) rfl ?_
  refine NX_put (fs' := [.ref q1, .ref q2, .ref q3, .ref q4, iZ 0, .null]) zd_K_init_37 zf_K_21 (fun C T N h => by have h := Option.some.inj (show some (zR_K, zF_K, 6) = some (C, T, N) from h); cases h; rfl) (fty := .array .int) (by decide +kernel) rfl rfl (Nat.le_of_ble_eq_true rfl) rfl ?_
  refine NW_aload zd_K_init_40 ?_
  refine NW_iconst zd_K_init_41 ?_
  refine NW_newa (i := 0) (N := 0) zd_K_init_42 (by decide) rfl (zin1 61 (by decide +kernel) rfl) (by decide) (by decide) (by decide) (fun q5 => ?_)
  refine NX_w (ws' := [(a, .inr (5, [.ref q1, .ref q2, .ref q3, .ref q4, iZ 0, .null])), (q1, .inl (cs 0, zarr 0 1601 (fun _ => 0))), (q2, .inl (cs 0, zarr 0 1601 (fun _ => 0))), (q3, .inl (cs 0, zarr 0 1601 (fun _ => 0))), (q4, .inl (cs 0, zarr 0 1601 (fun _ => 0))), (q5, .inl (cs 0, zarr 0 0 (fun _ => 0)))]) rfl ?_
  refine NX_put (fs' := [.ref q1, .ref q2, .ref q3, .ref q4, iZ 0, .ref q5]) zd_K_init_44 zf_K_24 (fun C T N h => by have h := Option.some.inj (show some (zR_K, zF_K, 6) = some (C, T, N) from h); cases h; rfl) (fty := .array .int) (by decide +kernel) rfl rfl (Nat.le_of_ble_eq_true rfl) rfl ?_
  exact NW_ret zd_K_init_47.1 ⟨q1, q2, q3, q4, q5, rfl⟩
