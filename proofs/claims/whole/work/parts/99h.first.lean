/-! THE LAW: what the tables and the start's conditions give -/
theorem zit1 {w : Cond} (i : Nat) (h : tables_1_1[i]? = some w) : w ∈ lw_tbl := List.mem_append_right _ (List.mem_append_left _ (List.mem_of_getElem? h))
theorem zit2 {w : Cond} (i : Nat) (h : tables_1_2[i]? = some w) : w ∈ lw_tbl := List.mem_append_right _ (List.mem_append_right _ (List.mem_append_left _ (List.mem_of_getElem? h)))
theorem zst_K {b : Nat} {s : State} (hU : ∀ w ∈ zU, w.before #[Value.ref b] s = true) : ∃ (D : va_G) (cs : Nat → ClassId), va_K D zcl (zNt cs) s := by
  have inst : ∀ r ∈ zcl, Cond.instantiable r.1 r.2.2 ∈ zU := by
    intro r hm
    simp only [zcl, List.mem_cons, List.not_mem_nil, or_false] at hm
    rcases hm with rfl | rfl | rfl | rfl | rfl | rfl | rfl | rfl
    · exact zin1 173 (by decide +kernel) rfl
    · exact zin1 179 (by decide +kernel) rfl
    · exact zin1 26 (by decide +kernel) rfl
    · exact zin2 3 (by decide +kernel) rfl
    · exact zin1 63 (by decide +kernel) rfl
    · exact zin1 32 (by decide +kernel) rfl
    · exact zin1 18 (by decide +kernel) rfl
    · exact zin4 145 (by decide +kernel) rfl
  have h : ∀ ci : Nat, ∃ q : ClassId × (Nat → Nat), ∀ r : vw_C, zcl[ci]? = some r → u_Kn s r.1 r.2.1 r.2.2 q.1 q.2 := by
    intro ci
    cases hq : zcl[ci]? with
    | none => exact ⟨(0, fun _ => 0), fun r h => by cases h⟩
    | some r =>
      obtain ⟨cC, iS, hk⟩ := u_known (ws := zU) hU (zcl_ok ci r hq).1 (hU _ (inst r (List.mem_of_getElem? hq)))
      exact ⟨(cC, iS), fun r' h => by cases h; exact hk⟩
  have ha : ∀ i : Nat, ∃ cA : ClassId, i < 3 → ArrOfT s cA (zety i) ∧ va_RA s cA (zety i) := by
    intro i
    by_cases hi : i < 3
    · have hw : Cond.arrayClass (zety i) ∈ zU := by
        rcases (show i = 0 ∨ i = 1 ∨ i = 2 by omega) with rfl | rfl | rfl
        · exact zin1 61 (by decide +kernel) rfl
        · exact zin5 130 (by decide +kernel) rfl
        · exact zin5 131 (by decide +kernel) rfl
      obtain ⟨cA, kA, comp, h1, h2, h3⟩ := Cond.arrayClass_spec (hU _ hw)
      refine ⟨cA, fun _ => ⟨fun n z => ⟨fun k h => (by cases h), kA, h2, comp, h3⟩, ?_⟩⟩
      rcases (show i = 0 ∨ i = 1 ∨ i = 2 by omega) with rfl | rfl | rfl <;> exact h1
    · exact ⟨0, fun q => absurd q hi⟩
  refine ⟨(fun ci => (h ci).choose.1, fun ci => (h ci).choose.2), fun i => (ha i).choose, fun ci r hq => (h ci).choose_spec r hq, fun k q hk => ?_⟩
  match k, hk with
  | 0, hk => cases hk; exact (ha 0).choose_spec (by decide)
  | 1, hk => cases hk; exact (ha 1).choose_spec (by decide)
  | 2, hk => cases hk; exact (ha 2).choose_spec (by decide)
  | k + 3, hk => simp [zNt] at hk
theorem zst_N {b : Nat} {s : State} (hts : ∀ w ∈ lw_tbl, w.before #[Value.ref b] s = true) : zNst s :=
  ⟨va_Nw.of rfl (hts _ (zit1 33 (by decide +kernel))), va_Nw.of rfl (hts _ (zit1 64 (by decide +kernel))), va_Nw.of rfl (hts _ (zit1 27 (by decide +kernel))), va_Nw.of rfl (hts _ (zit1 171 (by decide +kernel))), va_Nw.of rfl (hts _ (zit1 174 (by decide +kernel))), va_Nw.of rfl (hts _ (zit1 180 (by decide +kernel))), va_Nw.of rfl (hts _ (zit2 1 (by decide +kernel))), va_Nw.of rfl (hts _ (zit2 4 (by decide +kernel)))⟩
set_option maxRecDepth 100000 in
theorem zst_e : ∀ j : Fin 135, (flatC (Jvm.Cond.and given_1 narrow_1))[13 + j.val]? = some (Cond.eq (.elem (.field (.string "BeamBoard$Tokens" 58) "java/lang/String" "value" "[B") (.int (Int32.ofNat j.val))) (.int (zOwnB.getD j.val 0))) := by decide +kernel
set_option maxRecDepth 100000 in
theorem zst_S {b : Nat} {s : State} (hts : ∀ w ∈ lw_tbl, w.before #[Value.ref b] s = true) (hg : (Jvm.Cond.and given_1 narrow_1).before #[Value.ref b] s = true) : zStr (zlA s) s s.heap := by
  have hs := flat_of_before _ hg
  have hA : ∀ a : Nat, a < s.heap.size → ¬ zlA s a := fun a h q => absurd q (Nat.not_le.mpr h)
  have e9 := hs (Cond.exactly (.string "BeamBoard$Tokens" 58) "java/lang/String") (List.mem_of_getElem? (i := 9) (by decide +kernel))
  have e10 := hs (Cond.eq (.field (.string "BeamBoard$Tokens" 58) "java/lang/String" "coder" "B") (.int 0)) (List.mem_of_getElem? (i := 10) (by decide +kernel))
  have e11 := hs (Cond.arrayOf (.field (.string "BeamBoard$Tokens" 58) "java/lang/String" "value" "[B") .byte) (List.mem_of_getElem? (i := 11) (by decide +kernel))
  have e12 := hs (Cond.eq (.length (.field (.string "BeamBoard$Tokens" 58) "java/lang/String" "value" "[B")) (.int (Int32.ofNat 135))) (List.mem_of_getElem? (i := 12) (by decide +kernel))
  have e4 := hs (Cond.eq (.static "java/lang/String" "COMPACT_STRINGS" "Z") (.int 1)) (List.mem_of_getElem? (i := 4) (by decide +kernel))
  have e5 := hs (Cond.isRef (.static "jdk/internal/util/Preconditions" "SIOOBE_FORMATTER" "Ljava/util/function/BiFunction;")) (List.mem_of_getElem? (i := 5) (by decide +kernel))
  have z : ∀ i : Nat, i < 1 → i = 0 := fun i h => by omega
  have hel : ∀ i : Nat, i < 1 → ∀ j : Nat, j < [135].getD i 0 → (Cond.eq (.elem (.field (.string "BeamBoard$Tokens" 58) "java/lang/String" "value" "[B") (.int (Int32.ofNat j))) (.int (([zOwnB].getD i []).getD j 0))).before #[Value.ref b] s = true := by
    intro i hi j hj
    rw [z i hi] at hj ⊢
    exact hs _ (List.mem_of_getElem? (zst_e ⟨j, hj⟩))
  obtain ⟨adK, adV, hS, hT⟩ := vk_Sof (args := #[Value.ref b]) (s := s) (N := 1) (tm := fun _ => .string "BeamBoard$Tokens" 58) (len := [135]) (byt := [zOwnB]) (A := zlA s) (fun i hi => by rw [z i hi]; decide) (fun _ _ => e9) (fun _ _ => e10) (fun _ _ => e11) (fun i hi => by rw [z i hi]; exact e12) hel (fun i j hi hj h => absurd (by omega) h) hA
  refine ⟨⟨adK, adV, vk_R.of (hts _ (zit2 106 (by decide +kernel))) (hT 0 (by decide)), hS⟩, va_Zof (hts _ (zit2 116 (by decide +kernel))) (hts _ (zit1 9 (by decide +kernel))) (va_eqi e4) hA, va_Zqof (hts _ (zit2 132 (by decide +kernel))) (hts _ (zit1 11 (by decide +kernel))) e5 hA⟩
theorem zfm {f : Nat → Option (Nat × va_E)} {l : List Nat} {w : va_W} (h : l.map f = w.map some) : l.filterMap f = w := by
  have e : l.filterMap f = (l.map f).filterMap id := by rw [List.filterMap_map]; rfl
  rw [e, h, List.filterMap_map]
  simp
/-- new, dup and the constructor, in the law -/
theorem zlw_new {D : va_G} {cs : Nat → ClassId} {M' : zMi} {fr' mc' ms' : Nat} {X' : Nat → va_W → Prop} {pc pc1 pc2 pc' : Nat} {st : List Value} {ws : va_W} {cells slots : Nat} {p : Program} {l : Launch} {e : Env} {s : State} {m : MethodId} {below : List Frame} {meth : Method} {c : Code} {b : Nat} {Z : State → Prop} {H : Heap} {la : Array Slot} {locs : List Loc} {idx idx2 ci' N' : Nat} {C : String} {T : u_T} {f0 : List Value}
    (hx : p.tables.exec = Jvm.exec) (hb : c.code = zb_W_law) (hml : c.maxLocals = 4) (hown : s.vm.findClass zR_W = some m.cls) (hts : ∀ w ∈ zU, w.before #[Value.ref b] s = true) (hK : va_K D zcl (zNt cs) s) (hN : zNst s) (hl : la.size = 4)
    (hP : va_P D zcl ws H) (hD : va_D (zlA s) ws) (hS : va_S (zlA s) s.heap H locs)
    (d : decode zb_W_law pc = .ok (.new idx, 3) ∧ pc + 3 = pc1) (d1 : decode zb_W_law pc1 = .ok (.dup, 1) ∧ pc1 + 1 = pc2) (d2 : decode zb_W_law pc2 = .ok (.invokespecial idx2, 3) ∧ pc2 + 3 = pc') (hcl : zcl[ci']? = some (C, T, N')) (w1 : Cond.classLink zR_W idx C ∈ zU) (w2 : Cond.instantiable C N' ∈ zU) (w3 : Cond.initialized C ∈ zU) (hfs : ∀ ty : Nat → FieldType, (∀ k, k < N' → parseFieldDescriptor (T k).2.2.1 = some (ty k)) → ∀ j, j < N' → defaultValue (ty j) = vp_V f0 j)
    (call : NM D cs M' fr' mc' ms' ci' f0 X') (ok : zMok M' 0) (hr0 : M'.2.2.2 = none) (lk : zLk zR_W idx2 M') (hnm : M'.1.name = "<init>") (hin : Cond.instanceMethod M'.1 ∈ zU) (hfr : fr' ≤ 100) (hcm : cells + 1 + mc' ≤ 600000 ∧ slots + N' + ms' ≤ 7302250) (hcat : (st.map fun v => v.category).sum ≤ 6)
    (k : ∀ (q : Nat) (w1 : va_W) (H1 : Heap) (locs1 : List Loc), X' q w1 → va_P D zcl (ws ++ w1) H1 → va_D (zlA s) (ws ++ w1) → va_S (zlA s) s.heap H1 locs1 → W p l e room_1 s m #[Value.ref b] below meth c H1 locs1 (cells + 1 + mc') (slots + N' + ms') Z (F0 m pc' la (.ref q :: st))) : W p l e room_1 s m #[Value.ref b] below meth c H locs cells slots Z (F0 m pc la st) := by
  obtain ⟨d, rfl⟩ := d
  obtain ⟨d1, rfl⟩ := d1
  obtain ⟨d2, rfl⟩ := d2
  have hA : ∀ q, s.heap.size ≤ q → zlA s q := fun q h => h
  obtain ⟨hinU, ⟨ty0, hty⟩, hnmU⟩ := zcl_ok ci' _ hcl
  refine va_new (ci := ci') (fs := f0) hx hb hts hinU ty0 hty hown (hts _ w1) (hts _ w2) (hts _ w3) hK hP hD hS hA hcl (hfs ty0 hty) (by show cells + 1 ≤ 600000; omega) (by show slots + N' ≤ 7302250; omega) d (fun q H1 hP1 hD1 hS1 => ?_)
  refine lv_dup hx hb d1 rfl ?_
  have hC : [ws.length].map (fun i => (ws ++ [(q, Sum.inr (ci', f0))])[i]?) = [(q, (Sum.inr (ci', f0) : va_E))].map some := by simp
  have hPc := hP1.sub (ws' := [(q, .inr (ci', f0))]) [ws.length] (by simp)
  have hDc := hD1.sub (ws' := [(q, .inr (ci', f0))]) [ws.length] (by simp [va_nd]) (by simp)
  have hFc := va_free (wc := [(q, .inr (ci', f0))]) hD1 hS1 hA [ws.length] hC
  have hm := ok.2.2.2.1
  have cw : CallB room_1 s #[Value.ref b] zR_W idx2 M'.1 M'.2.1 M'.2.2.1 M'.2.2.2 (zwd M') { frames := fr', cells := mc', slots := ms', locals := 40 * fr' } mc' ms' 0 :=
    callB_of 0 hts (zgood ok) rfl rfl rfl (hts _ ok.2.1) (hts _ lk) ok.2.2.1 ⟨by show fr' + 1 ≤ 2048; omega, by show 8 + (M'.2.2.1 + 11) + 40 * fr' ≤ 84000; omega⟩
  rw [hr0] at cw
  refine va_callv (va_runI (As := []) (rest := .ref q :: st) ⟨hx, hb, hml, hown, hts⟩ (call l q H1.size) ⟨cw, hnm, hts _ hin⟩ ⟨fun a' U g mk z => by obtain ⟨q0, q1, qP, qK, qD, qN⟩ := z; exact ⟨q0, q1, qP, va_K.moved (u := U) (U := U.calling g mk a') (Vm.Alike.refl U.vm) qK, qD, zNst_calling qN⟩, fun U hU hW => ⟨rfl, by rw [hU], by rw [hU]; exact hPc, va_K.moved hW.alike hK, hDc.weaken (fun _ _ _ _ => trivial), zNst_warm hW hN⟩⟩ rfl rfl hl rfl (lv_room (by simp only [List.map_cons, List.sum_cons]; show 1 + _ ≤ 8; omega)) d2 ⟨by show cells + 1 + mc' ≤ 600000; omega, by show slots + N' + ms' ≤ 7302250; omega⟩) hS1 (fun q' _ h => hFc q' h) hFc (fun u t H2 locs2 ht hvm hw hB hz1 hk1 hS2 => ?_)
  obtain ⟨w', hX', hP2, hK2, hD2⟩ := hB
  rw [ht] at hP2
  obtain ⟨hP3, hD3⟩ := va_join (wr := ws) (w1 := w') hP1 hD1 [ws.length] (List.range ws.length) hC (zrangeR ws _) (by rw [List.range_eq_range']; exact zrangeN _ _) (by intro i hi hj; simp at hi hj; omega) hk1 hFc hP2 hD2
  exact k q w' H2 locs2 hX' hP3 hD3 hS2
