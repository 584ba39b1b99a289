section PWTC
variable {G : zG} {M M' : zMi} {fr fr' : Nat} {X X' : zX} {q b : Nat} {pc pc' pc2 : Nat} {ls : List (Option Value)} {st st0 : List Value} {σ : zPH}
theorem zaftert {p : Program} {l : Launch} {e : Env} {R : Room} {s : State} {m : MethodId} {args : Array Value} {below : List Frame} {meth : Method} {c : Code} {Z : State → Prop} {A : Nat → Prop} {H0 H : Heap} {la : Array Slot} {locs : List Loc} {a : Array Value}
    (hX : ∀ v σ', X' v σ' → PWt G M fr X q b (pc + 3) ls (v.toList ++ st) σ') (hc : zC G M fr X p l e R s m args below meth c Z A H0) (hg : zSg q b A s s.heap) (hS : va_S A H0 H locs) (hl : zHas la M.2.2.1 ls)
    (run : va_Run p l e R s m args below meth c H locs 0 0 0 0 (F0 m pc la st0) st (zQ G X' a) (zA G)) : W p l e R s m args below meth c H locs 0 0 Z (F0 m pc la st0) := by
  intro T hT S
  obtain ⟨v, st₀, t, T', L, h0, S', hL, e1, e2, ⟨⟨v', σ', ho, hXv, hPt, hKt, hDt, -⟩, hz, hk⟩, st'⟩ := run T hT S
  cases ho
  have hAA := hc.2.2.2.2.2.2.2.2.1
  rw [h0] at hz hk
  obtain ⟨t2, a1, b1⟩ := hX v σ' hXv p l e R s m args below meth c Z A H0 hc hg T'.heap la (locs ++ L) (by rw [e1]; exact hPt) (zD_to hDt hAA) ⟨Nat.le_trans hS.1 (by rw [e1]; exact hz), fun q h1 h2 => by rw [e1, hk q (Nat.lt_of_lt_of_le h1 hS.1) (fun z => h2 (hAA q z))]; exact hS.2.1 q h1 h2, fun q hq => by
      rcases List.mem_append.mp hq with h | h
      · exact hS.2.2 q h
      · exact hAA _ (hL q h)⟩ hl T' rfl S'
  exact ⟨t2, st' t2 a1, b1⟩
theorem zSg_rec {A : Nat → Prop} {s : State} {H : Heap} {H0 : Heap} {locs : List Loc} (hg : zSg q b A s s.heap) (hS : va_S A s.heap H locs) : ∃ cell : Cell, H[q]? = some cell ∧ cell.vm.isStatics = false ∧ s.vm.findClass "java/lang/String" = some cell.cls := by
  obtain ⟨cell, h1, h2, h3, -⟩ := hg.1.kept hS.2.1
  exact ⟨cell, h1, h2, h3⟩
theorem Pt_callV {np idx : Nat} {as : List Value} (d : decode M.2.1 pc = .ok (.invokevirtual idx, 3) ∧ pc + 3 = pc') (lk : zLk M.1.cls idx M') (ok : zMok M' np) (mv : zMv M') (hcls : M'.1.cls = "java/lang/String") (hfr : fr' + 1 ≤ fr) (hn : as.length = np) (hst : st0 = as.reverse ++ .ref q :: st) (hcat : (st.map fun v => v.category).sum ≤ 8)
    (hX : ∀ v σ', X' v σ' → PWt G M fr X q b pc' ls (v.toList ++ st) σ') (call : MSt G M' fr' (.ref q :: as) q b σ X') : PWt G M fr X q b pc ls st0 σ := by
  obtain ⟨d, rfl⟩ := d
  intro p l e R s m args below meth c Z A H0 hc hg H la locs hP hD hS hl
  obtain ⟨hx, hb, hml, hown, hts, hK, ⟨hR1, rfl, hZ⟩, hR2, hAA, hret⟩ := id hc
  have hrec := zSg_rec (H0 := H) hg hS
  rw [← hcls] at hrec
  have cw : CallW R s args M.1.cls M'.1.cls idx M'.1 M'.2.1 M'.2.2.1 M'.2.2.2 (zwd M') (zrm fr') 0 0 np :=
    ⟨callB_of np hts (zgood ok) rfl rfl rfl (hts _ ok.2.1) (hts _ lk) ok.2.2.1 ⟨by show fr' + 1 ≤ _; omega, by have hm := ok.2.2.2.1; show 8 + (M'.2.2.1 + 11) + 40 * fr' ≤ _; omega⟩, hts _ mv.1, hts _ mv.2⟩
  exact zaftert hX hc hg hS hl (va_runV (rest := st) ⟨hx, hb, hml, hown, hts⟩ (call l) cw ⟨zblindg, hrec, fun U hU hW => ⟨rfl, ⟨by rw [hU]; exact hP, va_K.moved hW.alike hK, zD_to hD (fun _ _ => trivial), by rw [hU]; exact zStr_to hZ hS.2.1 hAA hW⟩, by rw [hU]; exact zSg_to hg hS.2.1 hAA hW⟩⟩ rfl hn hl.1 hst (lv_room hcat) d ⟨Nat.zero_le _, Nat.zero_le _⟩)
theorem Pt_callS {np idx : Nat} {as : List Value} (d : decode M.2.1 pc = .ok (.invokestatic idx, 3) ∧ pc + 3 = pc') (lk : zLk M.1.cls idx M') (ok : zMok M' np) (mv : zMs M') (hfr : fr' + 1 ≤ fr) (hn : as.length = np) (hst : st0 = as.reverse ++ st) (hcat : (st.map fun v => v.category).sum ≤ 8)
    (hX : ∀ v σ', X' v σ' → PWt G M fr X q b pc' ls (v.toList ++ st) σ') (call : MSt G M' fr' as q b σ X') : PWt G M fr X q b pc ls st0 σ := by
  obtain ⟨d, rfl⟩ := d
  intro p l e R s m args below meth c Z A H0 hc hg H la locs hP hD hS hl
  obtain ⟨hx, hb, hml, hown, hts, hK, ⟨hR1, rfl, hZ⟩, hR2, hAA, hret⟩ := id hc
  have cw : CallB R s args M.1.cls idx M'.1 M'.2.1 M'.2.2.1 M'.2.2.2 (zwd M') (zrm fr') 0 0 np ∧ (Cond.static M'.1).before args s = true :=
    ⟨callB_of np hts (zgood ok) rfl rfl rfl (hts _ ok.2.1) (hts _ lk) ok.2.2.1 ⟨by show fr' + 1 ≤ _; omega, by have hm := ok.2.2.2.1; show 8 + (M'.2.2.1 + 11) + 40 * fr' ≤ _; omega⟩, hts _ mv⟩
  exact zaftert hX hc hg hS hl (va_runS (rest := st) ⟨hx, hb, hml, hown, hts⟩ (call l) cw ⟨zblindg, fun U hU hW => ⟨rfl, ⟨by rw [hU]; exact hP, va_K.moved hW.alike hK, zD_to hD (fun _ _ => trivial), by rw [hU]; exact zStr_to hZ hS.2.1 hAA hW⟩, by rw [hU]; exact zSg_to hg hS.2.1 hAA hW⟩⟩ rfl hn hl.1 hst (lv_room hcat) d ⟨Nat.zero_le _, Nat.zero_le _⟩)
/-- a static member that doesn't know the string -/
theorem Pt_callM {np idx : Nat} {as : List Value} (d : decode M.2.1 pc = .ok (.invokestatic idx, 3) ∧ pc + 3 = pc') (lk : zLk M.1.cls idx M') (ok : zMok M' np) (mv : zMs M') (hfr : fr' + 1 ≤ fr) (hn : as.length = np) (hst : st0 = as.reverse ++ st) (hcat : (st.map fun v => v.category).sum ≤ 8)
    (hX : ∀ v σ', X' v σ' → PWt G M fr X q b pc' ls (v.toList ++ st) σ') (call : MS G M' fr' as σ X') : PWt G M fr X q b pc ls st0 σ := by
  obtain ⟨d, rfl⟩ := d
  intro p l e R s m args below meth c Z A H0 hc hg H la locs hP hD hS hl
  obtain ⟨hx, hb, hml, hown, hts, hK, ⟨hR1, rfl, hZ⟩, hR2, hAA, hret⟩ := id hc
  have cw : CallB R s args M.1.cls idx M'.1 M'.2.1 M'.2.2.1 M'.2.2.2 (zwd M') (zrm fr') 0 0 np ∧ (Cond.static M'.1).before args s = true :=
    ⟨callB_of np hts (zgood ok) rfl rfl rfl (hts _ ok.2.1) (hts _ lk) ok.2.2.1 ⟨by show fr' + 1 ≤ _; omega, by have hm := ok.2.2.2.1; show 8 + (M'.2.2.1 + 11) + 40 * fr' ≤ _; omega⟩, hts _ mv⟩
  exact zaftert hX hc hg hS hl (va_runS (rest := st) ⟨hx, hb, hml, hown, hts⟩ (call l) cw ⟨zblind, fun U hU hW => ⟨rfl, by rw [hU]; exact hP, va_K.moved hW.alike hK, zD_to hD (fun _ _ => trivial), by rw [hU]; exact zStr_to hZ hS.2.1 hAA hW⟩⟩ rfl hn hl.1 hst (lv_room hcat) d ⟨Nat.zero_le _, Nat.zero_le _⟩)
theorem PW_formatter {i : Nat} (d : decode M.2.1 pc = .ok (.getstatic i, 3) ∧ pc + 3 = pc') (hw : Cond.fieldLink M.1.cls i "jdk/internal/util/Preconditions" "SIOOBE_FORMATTER" "Ljava/util/function/BiFunction;" ∈ zU) (k : ∀ v : Value, v.category = 1 → PW G M fr X pc' ls (v :: st) σ) : PW G M fr X pc ls st σ := by
  obtain ⟨d, rfl⟩ := d
  intro p l e R s m args below meth c Z A H0 hc H la locs hP hD hS hl
  obtain ⟨hx, hb, hml, hown, hts, hK, ⟨hR1, rfl, hZ⟩, -⟩ := id hc
  rcases hZ.2.2 with h | ⟨t, h⟩
  · exact va_gets hx hb h hS hown (hts _ hw) (fun _ h => h) d (k _ rfl _ _ _ _ _ _ _ _ _ _ _ _ _ hc _ _ _ hP hD hS hl)
  · exact va_gets hx hb h hS hown (hts _ hw) (fun _ h => h) d (k _ rfl _ _ _ _ _ _ _ _ _ _ _ _ _ hc _ _ _ hP hD hS hl)
end PWTC
section JDKS
variable {G : zG} {X : zX} {q b : Nat} {σ : zPH}
theorem s_JS_coder (hX : X (some (iZ 0)) σ) : MSt G zm_JS_coder 0 [.ref q] q b σ X :=
  mst_of zk_JS_coder (Nat.le_of_ble_eq_true rfl) rfl (Or.inr trivial) (Pt_compact zd_JS_coder_0 zsf_38 (Pt_if_eq zd_JS_coder_3 (by decide) (fun z => absurd z (by decide)) (fun _ => Pt_aload_n zd_JS_coder_6 rfl (Pt_coder zd_JS_coder_7 zsf_15 (Pt_goto zd_JS_coder_10 (Pt_ret zd_JS_coder_14 rfl rfl hX))))))
theorem s_JS_isLatin1 (hX : X (some (iZ 1)) σ) : MSt G zm_JS_isLatin1 0 [.ref q] q b σ X :=
  mst_of zk_JS_isLatin1 (Nat.le_of_ble_eq_true rfl) rfl (Or.inr trivial) (Pt_compact zd_JS_isLatin1_0 zsf_38 (Pt_if_eq zd_JS_isLatin1_3 (by decide) (fun z => absurd z (by decide)) (fun _ => Pt_aload_n zd_JS_isLatin1_6 rfl (Pt_coder zd_JS_isLatin1_7 zsf_15 (Pt_if_ne zd_JS_isLatin1_10 (by decide) (fun z => absurd rfl z) (fun _ => Pt_iconst zd_JS_isLatin1_13 (Pt_goto zd_JS_isLatin1_14 (Pt_ret zd_JS_isLatin1_18 rfl rfl hX))))))))
theorem s_JS_length (hX : X (some (iZ 135)) σ) : MSt G zm_JS_length 1 [.ref q] q b σ X :=
  mst_of zk_JS_length (Nat.le_of_ble_eq_true rfl) rfl (Or.inr trivial) (Pt_aload_n zd_JS_length_0 rfl (Pt_value zd_JS_length_1 zsf_9 (Pt_alen zd_JS_length_4 (Pt_aload_n zd_JS_length_5 rfl (Pt_callV (as := []) (X' := fun v σ' => v = some (iZ 0) ∧ σ' = σ) zd_JS_length_6 zl_JS_335 zk_JS_coder zv_JS_coder rfl (fr' := 0) (by decide) rfl rfl (by decide) (fun v σ' h => by
    obtain ⟨rfl, rfl⟩ := h
    exact Pt_ishr zd_JS_length_9 (by decide) (Pt_ret zd_JS_length_10 rfl rfl hX)) (s_JS_coder ⟨rfl, rfl⟩))))))
theorem s_JP_checkIndex {i n : Int} {v : Value} (hv : v.category = 1) (hi : 0 ≤ i ∧ i < n) (hn : n < 2147483648) (hX : X (some (iZ i)) σ) : MS G zm_JP_checkIndex 0 [iZ i, iZ n, v] σ X := by
  refine ms_of (ls := [some (iZ i), some (iZ n), some v]) zk_JP_checkIndex ?_ ?_ (PW_iload_n zd_JP_checkIndex_0 rfl (PW_if_lt zd_JP_checkIndex_1 (by omega) (fun z => by omega) (fun _ => PW_iload_n zd_JP_checkIndex_4 rfl (PW_iload_n zd_JP_checkIndex_5 rfl (PW_icmp_lt zd_JP_checkIndex_6 ⟨by omega, by omega⟩ (fun _ => PW_iload_n zd_JP_checkIndex_16 rfl (PW_iret zd_JP_checkIndex_17 rfl hX)) (fun z => by omega))))))
  · cases v <;> first | exact Nat.le_of_ble_eq_true rfl | (simp [Value.category] at hv)
  · cases v <;> first | rfl | (simp [Value.category] at hv)
theorem s_JS_checkIndex {i n : Int} (hi : 0 ≤ i ∧ i < n) (hn : n < 2147483648) (hX : X none σ) : MS G zm_JS_checkIndex 1 [iZ i, iZ n] σ X :=
  ms_of (ls := [some (iZ i), some (iZ n)]) zk_JS_checkIndex (Nat.le_of_ble_eq_true rfl) rfl (PW_iload_n zd_JS_checkIndex_0 rfl (PW_iload_n zd_JS_checkIndex_1 rfl (PW_formatter zd_JS_checkIndex_2 zsf_1053 (fun v hv => PW_callS (as := [iZ i, iZ n, v]) (X' := fun w σ' => w = some (iZ i) ∧ σ' = σ) zd_JS_checkIndex_5 zl_JS_1059 zk_JP_checkIndex zv_JP_checkIndex (fr' := 0) (by decide) rfl rfl (by decide) (fun w σ' h => by
    obtain ⟨rfl, rfl⟩ := h
    exact PW_pop zd_JS_checkIndex_8 rfl (PW_vret zd_JS_checkIndex_9 rfl hX)) (s_JP_checkIndex hv hi hn ⟨rfl, rfl⟩)))))
theorem zOwnC_f : ∀ k : Fin 135, (Int32.ofInt (zOwnC k.val) &&& Int32.ofInt 255 = Int32.ofInt (zOwnC k.val)) ∧ ((Int32.ofInt (zOwnC k.val)).toUInt32 % 65536).toInt32 = Int32.ofInt (zOwnC k.val) ∧ narrow .char (iZ (zOwnC k.val)) = iZ (zOwnC k.val) := by decide +kernel
theorem s_JL_charAt {i : Int} (hi : 0 ≤ i ∧ i < 135) (hX : X (some (iZ (zOwnC i.toNat))) σ) : MSt G zm_JL_charAt 2 [.ref b, iZ i] q b σ X := by
  have f := zOwnC_f ⟨i.toNat, by omega⟩
  refine mst_of (ls := [some (.ref b), some (iZ i)]) zk_JL_charAt (Nat.le_of_ble_eq_true rfl) rfl (Or.inr trivial) (Pt_iload_n zd_JL_charAt_0 rfl (Pt_aload_n zd_JL_charAt_1 rfl (Pt_alen zd_JL_charAt_2 (Pt_callM (as := [iZ i, iZ 135]) (X' := fun v σ' => v = none ∧ σ' = σ) zd_JL_charAt_3 zl_JL_9 zk_JS_checkIndex zv_JS_checkIndex (fr' := 1) (by decide) rfl rfl (by decide) (fun v σ' h => ?_) (s_JS_checkIndex hi (by decide) ⟨rfl, rfl⟩)))))
  obtain ⟨rfl, rfl⟩ := h
  exact Pt_aload_n zd_JL_charAt_6 rfl (Pt_iload_n zd_JL_charAt_7 rfl (Pt_baload zd_JL_charAt_8 hi (Pt_sipush zd_JL_charAt_9 (by decide) (Pt_iand zd_JL_charAt_12 f.1 (Pt_i2c zd_JL_charAt_13 f.2.1 (Pt_ret zd_JL_charAt_14 rfl f.2.2 hX))))))
theorem s_JS_charAt {i : Int} (hi : 0 ≤ i ∧ i < 135) (hX : X (some (iZ (zOwnC i.toNat))) σ) : MSt G zm_JS_charAt 3 [.ref q, iZ i] q b σ X := by
  have f := zOwnC_f ⟨i.toNat, by omega⟩
  refine mst_of (ls := [some (.ref q), some (iZ i)]) zk_JS_charAt (Nat.le_of_ble_eq_true rfl) rfl (Or.inr trivial) (Pt_aload_n zd_JS_charAt_0 rfl (Pt_callV (as := []) (X' := fun v σ' => v = some (iZ 1) ∧ σ' = σ) zd_JS_charAt_1 zl_JS_492 zk_JS_isLatin1 zv_JS_isLatin1 rfl (fr' := 0) (by decide) rfl rfl (by decide) (fun v σ' h => ?_) (s_JS_isLatin1 ⟨rfl, rfl⟩)))
  obtain ⟨rfl, rfl⟩ := h
  refine Pt_if_eq zd_JS_charAt_4 (by decide) (fun z => absurd z (by decide)) (fun _ => Pt_aload_n zd_JS_charAt_7 rfl (Pt_value zd_JS_charAt_8 zsf_9 (Pt_iload_n zd_JS_charAt_11 rfl (Pt_callS (as := [.ref b, iZ i]) (X' := fun v s' => v = some (iZ (zOwnC i.toNat)) ∧ s' = σ') zd_JS_charAt_12 zl_JS_495 zk_JL_charAt zv_JL_charAt (fr' := 2) (by decide) rfl rfl (by decide) (fun v s' h => ?_) (s_JL_charAt hi ⟨rfl, rfl⟩)))))
  obtain ⟨rfl, rfl⟩ := h
  exact Pt_ret zd_JS_charAt_15 rfl f.2.2 hX
end JDKS
section PWOW
variable {G : zG} {M : zMi} {fr : Nat} {X : zX} {pc pc1 pc2 pc3 : Nat} {ls : List (Option Value)} {st : List Value} {σ : zPH}
theorem zStr_g {A : Nat → Prop} {s : State} (h : zStr A s s.heap) : ∃ q b, vk_R "BeamBoard$Tokens" 58 zOwnT q s ∧ zSg q b A s s.heap := by
  obtain ⟨⟨adK, adV, h1, h2⟩, h3, h4⟩ := h
  obtain ⟨a, b, c, d⟩ := h2.1 0 (by decide)
  exact ⟨adK 0, adV 0, h1, a, b, c, d, h3, h4⟩
/-- the length of the own words' text -/
theorem PW_ownLen {idx : Nat} (hM : M.1.cls = "BeamBoard$Tokens") (d : decode M.2.1 pc = .ok (.ldc 58, 2) ∧ pc + 2 = pc1) (d2 : decode M.2.1 pc1 = .ok (.invokevirtual idx, 3) ∧ pc1 + 3 = pc2) (lk : zLk M.1.cls idx zm_JS_length) (hfr : 2 ≤ fr) (hcat : (st.map fun v => v.category).sum ≤ 8) (k : PW G M fr X pc2 ls (iZ 135 :: st) σ) : PW G M fr X pc ls st σ := by
  obtain ⟨d, rfl⟩ := d
  obtain ⟨d2, rfl⟩ := d2
  intro p l e R s m args below meth c Z A H0 hc H la locs hP hD hS hl
  obtain ⟨hx, hb, hml, hown, hts, hK, ⟨hR1, rfl, hZ⟩, hR2, hAA, hret⟩ := id hc
  obtain ⟨q, b, hr, hg⟩ := zStr_g hZ
  refine va_ldcS hx hb (own := "BeamBoard$Tokens") (by rw [← hM]; exact hown) hr d ?_
  have hrec := zSg_rec (H0 := H) hg hS
  have cw : CallW R s args M.1.cls "java/lang/String" idx zm_JS_length.1 zm_JS_length.2.1 zm_JS_length.2.2.1 zm_JS_length.2.2.2 (zwd zm_JS_length) (zrm 1) 0 0 0 :=
    ⟨callB_of 0 hts (zgood zk_JS_length) rfl rfl rfl (hts _ zk_JS_length.2.1) (hts _ lk) zk_JS_length.2.2.1 ⟨by show 1 + 1 ≤ _; omega, by have hm := zk_JS_length.2.2.2.1; show 8 + (zm_JS_length.2.2.1 + 11) + 40 * 1 ≤ _; omega⟩, hts _ zv_JS_length.1, hts _ zv_JS_length.2⟩
  exact zafter (X' := fun v σ' => v = some (iZ 135) ∧ σ' = σ) (fun v σ' h => by obtain ⟨rfl, rfl⟩ := h; exact k) hc hS hl (va_runV (rest := st) (As := []) ⟨hx, hb, hml, hown, hts⟩ (s_JS_length (q := q) (b := b) ⟨rfl, rfl⟩ l) cw ⟨zblindg, hrec, fun U hU hW => ⟨rfl, ⟨by rw [hU]; exact hP, va_K.moved hW.alike hK, zD_to hD (fun _ _ => trivial), by rw [hU]; exact zStr_to hZ hS.2.1 hAA hW⟩, by rw [hU]; exact zSg_to hg hS.2.1 hAA hW⟩⟩ rfl rfl hl.1 rfl (lv_room hcat) d2 ⟨Nat.zero_le _, Nat.zero_le _⟩)
/-- its char at a local's place -/
theorem PW_ownAt {idx n : Nat} {i : Int} (hM : M.1.cls = "BeamBoard$Tokens") (d : decode M.2.1 pc = .ok (.ldc 58, 2) ∧ pc + 2 = pc1) (d1 : decode M.2.1 pc1 = .ok (.iload n, 2) ∧ pc1 + 2 = pc2) (d2 : decode M.2.1 pc2 = .ok (.invokevirtual idx, 3) ∧ pc2 + 3 = pc3) (h : ls[n]? = some (some (iZ i))) (lk : zLk M.1.cls idx zm_JS_charAt) (hi : 0 ≤ i ∧ i < 135) (hfr : 4 ≤ fr) (hcat : (st.map fun v => v.category).sum ≤ 8) (k : PW G M fr X pc3 ls (iZ (zOwnC i.toNat) :: st) σ) : PW G M fr X pc ls st σ := by
  obtain ⟨d, rfl⟩ := d
  obtain ⟨d1, rfl⟩ := d1
  obtain ⟨d2, rfl⟩ := d2
  intro p l e R s m args below meth c Z A H0 hc H la locs hP hD hS hl
  obtain ⟨hx, hb, hml, hown, hts, hK, ⟨hR1, rfl, hZ⟩, hR2, hAA, hret⟩ := id hc
  obtain ⟨q, b, hr, hg⟩ := zStr_g hZ
  refine va_ldcS hx hb (own := "BeamBoard$Tokens") (by rw [← hM]; exact hown) hr d ?_
  refine lv_iload hx hb d1 (hl.2.2 _ _ h) ?_
  have hrec := zSg_rec (H0 := H) hg hS
  have cw : CallW R s args M.1.cls "java/lang/String" idx zm_JS_charAt.1 zm_JS_charAt.2.1 zm_JS_charAt.2.2.1 zm_JS_charAt.2.2.2 (zwd zm_JS_charAt) (zrm 3) 0 0 1 :=
    ⟨callB_of 1 hts (zgood zk_JS_charAt) rfl rfl rfl (hts _ zk_JS_charAt.2.1) (hts _ lk) zk_JS_charAt.2.2.1 ⟨by show 3 + 1 ≤ _; omega, by have hm := zk_JS_charAt.2.2.2.1; show 8 + (zm_JS_charAt.2.2.1 + 11) + 40 * 3 ≤ _; omega⟩, hts _ zv_JS_charAt.1, hts _ zv_JS_charAt.2⟩
  exact zafter (X' := fun v σ' => v = some (iZ (zOwnC i.toNat)) ∧ σ' = σ) (fun v σ' h => by obtain ⟨rfl, rfl⟩ := h; exact k) hc hS hl (va_runV (rest := st) (As := [iZ i]) ⟨hx, hb, hml, hown, hts⟩ (s_JS_charAt (q := q) (b := b) hi ⟨rfl, rfl⟩ l) cw ⟨zblindg, hrec, fun U hU hW => ⟨rfl, ⟨by rw [hU]; exact hP, va_K.moved hW.alike hK, zD_to hD (fun _ _ => trivial), by rw [hU]; exact zStr_to hZ hS.2.1 hAA hW⟩, by rw [hU]; exact zSg_to hg hS.2.1 hAA hW⟩⟩ rfl rfl hl.1 rfl (lv_room hcat) d2 ⟨Nat.zero_le _, Nat.zero_le _⟩)
end PWOW
