theorem zws_A {G : zG} {σ : zPH} {k : Nat} {q : Nat × va_E} (h : (zws G σ)[k]? = some q) : zA G q.1 := by
  have hk := (List.getElem?_eq_some_iff.mp h).1
  have hk' : k < 58 := by simpa [zws] using hk
  rw [zws_at hk'] at h
  cases h
  exact ⟨k, hk', rfl⟩
theorem zD_to {G : zG} {σ : zPH} {A B : Nat → Prop} (h : va_D A (zws G σ)) (hB : ∀ q, zA G q → B q) : va_D B (zws G σ) := h.weaken (fun _ q hk _ => hB q.1 (zws_A hk))
theorem zgood {M : zMi} {np : Nat} (ok : zMok M np) : GoodIn zU (zwd M) := by
  intro w hw
  have hU : w ∈ zU := by
    rcases List.mem_cons.mp hw with rfl | h
    · exact ok.1
    · exact h
  exact ⟨hU, good_of_word (List.mem_filter.mp hU).2⟩
theorem zStr_calling {A : Nat → Prop} {U : State} {g : JFrame} {mk : MethodId} {a : Array Value} (h : zStr A U U.heap) : zStr A (U.calling g mk a) (U.calling g mk a).heap := by
  obtain ⟨⟨adK, adV, h1, h2⟩, h3, h4⟩ := h
  exact ⟨⟨adK, adV, vk_R.same (u := U) rfl h1, vk_S.moved (u := U) (Vm.Alike.refl U.vm) h2⟩, va_Z.moved (u := U) (Vm.Alike.refl U.vm) h3, va_Zq.moved (u := U) (Vm.Alike.refl U.vm) h4⟩
theorem zblind {G : zG} {σ : zPH} {as : List Value} : FrameBlind (va_Pc as (zB G σ)) := fun a U g mk q => ⟨q.1, q.2.1, va_K.moved (u := U) (U := U.calling g mk a) (Vm.Alike.refl U.vm) q.2.2.1, q.2.2.2.1, zStr_calling q.2.2.2.2⟩
theorem ms_of {G : zG} {M : zMi} {fr np : Nat} {as : List Value} {σ : zPH} {X : zX} {ls : List (Option Value)} (ok : zMok M np) (hlen : (lg_sl as).length ≤ M.2.2.1) (hls : zargs M.2.2.1 as = ls) (k : PW G M fr X 0 ls [] σ) : MS G M fr as σ X := by
  intro l
  refine Met.ofW (cc := M.2.1) (maxL := M.2.2.1) (ret := M.2.2.2) ok.2.2.2.2 rfl ?_
  intro p e s m args below meth c s₁ B hml hv
  obtain ⟨rfl, hP, hK, hD, hZ⟩ := hv
  have hx := B.exec
  have hb := B.bytes
  have hr := B.returns
  have hts := atoms_spec (ws := zwd M) B.pre
  have hown : s.vm.findClass M.1.cls = some m.cls := findClass_of_methodNamed B.named
  have hlocks := B.notSynchronized
  have hl := lv_entry as hlen
  rw [lg_entry_eq]
  generalize (lg_sl as ++ List.replicate (M.2.2.1 - (lg_sl as).length) Slot.unset).toArray = la at hl ⊢
  refine k p l e _ s m _ below meth c _ (zA G) s.heap ⟨hx, hb, hml, hown, fun w hw => hts w (List.mem_cons_of_mem _ hw), hK, ⟨Nat.le_refl _, rfl, hZ⟩, Nat.le_refl _, fun q h => h, ?_⟩ s.heap la [] hP (zD_to hD (fun _ h => h)) va_S.rf ⟨hl.1, hl.2.1, fun j u hj => hl.2.2 (j, u) (zargs_in (by rw [hls]; exact hj))⟩
  intro v σ' H locs pc la' hXv hP' hD' hS' hret
  have fin : ∀ t : State, t.heap = H → s.WarmedH t.vm → zQ G X as.toArray s (.returned v) t := fun t ht hW => ⟨⟨v, σ', rfl, hXv, by rw [ht]; exact hP', va_K.moved hW.alike hK, zD_to hD' (fun _ _ => trivial), by rw [ht]; exact zStr_to hZ hS'.2.1 (fun _ h => h) hW⟩, hS'.F ht⟩
  rcases hret with ⟨d, z, ty, rfl, hty, hn⟩ | ⟨d, q, C, rfl, hC⟩ | ⟨d, rfl, hN⟩
  · exact W.zret hx hb (by rw [hr]; exact hty) hn fin hS'.2.2 d
  · exact W.aret hx hb (by rw [hr]; exact hC) (Or.inl ⟨C, rfl⟩) (Or.inr ⟨q, rfl⟩) fin hS'.2.2 d
  · exact W.vret hx hb (by rw [hr]; exact hN) fin hS'.2.2 d
section PWC
variable {G : zG} {M M' : zMi} {fr fr' : Nat} {X X' : zX} {pc pc' : Nat} {ls : List (Option Value)} {st st0 : List Value} {σ : zPH}
theorem zafter {p : Program} {l : Launch} {e : Env} {R : Room} {s : State} {m : MethodId} {args : Array Value} {below : List Frame} {meth : Method} {c : Code} {Z : State → Prop} {A : Nat → Prop} {H0 H : Heap} {la : Array Slot} {locs : List Loc} {a : Array Value}
    (hX : ∀ v σ', X' v σ' → PW G M fr X (pc + 3) ls (v.toList ++ st) σ') (hc : zC G M fr X p l e R s m args below meth c Z A H0) (hS : va_S A H0 H locs) (hl : zHas la M.2.2.1 ls)
    (run : va_Run p l e R s m args below meth c H locs 0 0 0 0 (F0 m pc la st0) st (zQ G X' a) (zA G)) : W p l e R s m args below meth c H locs 0 0 Z (F0 m pc la st0) := by
  intro T hT S
  obtain ⟨v, st₀, t, T', L, h0, S', hL, e1, e2, ⟨⟨v', σ', ho, hXv, hPt, hKt, hDt, -⟩, hz, hk⟩, st'⟩ := run T hT S
  cases ho
  have hAA := hc.2.2.2.2.2.2.2.2.1
  rw [h0] at hz hk
  obtain ⟨t2, a1, b1⟩ := hX v σ' hXv p l e R s m args below meth c Z A H0 hc T'.heap la (locs ++ L) (by rw [e1]; exact hPt) (zD_to hDt hAA) ⟨Nat.le_trans hS.1 (by rw [e1]; exact hz), fun q h1 h2 => by rw [e1, hk q (Nat.lt_of_lt_of_le h1 hS.1) (fun z => h2 (hAA q z))]; exact hS.2.1 q h1 h2, fun q hq => by
      rcases List.mem_append.mp hq with h | h
      · exact hS.2.2 q h
      · exact hAA _ (hL q h)⟩ hl T' rfl S'
  exact ⟨t2, st' t2 a1, b1⟩
theorem PW_callV {np idx q ci : Nat} {tys : List Nat} {as : List Value} {vc : vw_C} (d : decode M.2.1 pc = .ok (.invokevirtual idx, 3) ∧ pc + 3 = pc') (lk : zLk M.1.cls idx M') (ok : zMok M' np) (mv : zMv M') (hfr : fr' + 1 ≤ fr) (hs : zsh G.2.2.2 q = .inl (ci, tys)) (hci : zcl[ci]? = some vc) (hcls : vc.1 = M'.1.cls) (hn : as.length = np) (hst : st0 = as.reverse ++ zr G q :: st) (hcat : (st.map fun v => v.category).sum ≤ 8)
    (hX : ∀ v σ', X' v σ' → PW G M fr X pc' ls (v.toList ++ st) σ') (call : MS G M' fr' (zr G q :: as) σ X') : PW G M fr X pc ls st0 σ := by
  obtain ⟨d, rfl⟩ := d
  intro p l e R s m args below meth c Z A H0 hc H la locs hP hD hS hl
  obtain ⟨hx, hb, hml, hown, hts, hK, ⟨hR1, rfl, hZ⟩, hR2, hAA, hret⟩ := id hc
  have hq := zws_at (G := G) (σ := σ) (zlt94 hs)
  simp only [zcell, hs, zent] at hq
  have hrec := va_recv hK hP hci hq
  rw [hcls] at hrec
  have hm := ok.2.2.2.1
  have cw : CallW R s args M.1.cls M'.1.cls idx M'.1 M'.2.1 M'.2.2.1 M'.2.2.2 (zwd M') (zrm fr') 0 0 np :=
    ⟨callB_of np hts (zgood ok) rfl rfl rfl (hts _ ok.2.1) (hts _ lk) ok.2.2.1 ⟨by show fr' + 1 ≤ _; omega, by show 8 + (M'.2.2.1 + 11) + 40 * fr' ≤ _; omega⟩, hts _ mv.1, hts _ mv.2⟩
  exact zafter hX hc hS hl (va_runV (rest := st) ⟨hx, hb, hml, hown, hts⟩ (call l) cw ⟨zblind, hrec, fun U hU hW => ⟨rfl, by rw [hU]; exact hP, va_K.moved hW.alike hK, zD_to hD (fun _ _ => trivial), by rw [hU]; exact zStr_to hZ hS.2.1 hAA hW⟩⟩ rfl hn hl.1 hst (lv_room hcat) d ⟨Nat.zero_le _, Nat.zero_le _⟩)
theorem PW_callS {np idx : Nat} {as : List Value} (d : decode M.2.1 pc = .ok (.invokestatic idx, 3) ∧ pc + 3 = pc') (lk : zLk M.1.cls idx M') (ok : zMok M' np) (mv : zMs M') (hfr : fr' + 1 ≤ fr) (hn : as.length = np) (hst : st0 = as.reverse ++ st) (hcat : (st.map fun v => v.category).sum ≤ 8)
    (hX : ∀ v σ', X' v σ' → PW G M fr X pc' ls (v.toList ++ st) σ') (call : MS G M' fr' as σ X') : PW G M fr X pc ls st0 σ := by
  obtain ⟨d, rfl⟩ := d
  intro p l e R s m args below meth c Z A H0 hc H la locs hP hD hS hl
  obtain ⟨hx, hb, hml, hown, hts, hK, ⟨hR1, rfl, hZ⟩, hR2, hAA, hret⟩ := id hc
  have hm := ok.2.2.2.1
  have cw : CallB R s args M.1.cls idx M'.1 M'.2.1 M'.2.2.1 M'.2.2.2 (zwd M') (zrm fr') 0 0 np ∧ (Cond.static M'.1).before args s = true :=
    ⟨callB_of np hts (zgood ok) rfl rfl rfl (hts _ ok.2.1) (hts _ lk) ok.2.2.1 ⟨by show fr' + 1 ≤ _; omega, by show 8 + (M'.2.2.1 + 11) + 40 * fr' ≤ _; omega⟩, hts _ mv⟩
  exact zafter hX hc hS hl (va_runS (rest := st) ⟨hx, hb, hml, hown, hts⟩ (call l) cw ⟨zblind, fun U hU hW => ⟨rfl, by rw [hU]; exact hP, va_K.moved hW.alike hK, zD_to hD (fun _ _ => trivial), by rw [hU]; exact zStr_to hZ hS.2.1 hAA hW⟩⟩ rfl hn hl.1 hst (lv_room hcat) d ⟨Nat.zero_le _, Nat.zero_le _⟩)
theorem PW_callV0v {idx q ci : Nat} {tys : List Nat} {vc : vw_C} (d : decode M.2.1 pc = .ok (.invokevirtual idx, 3) ∧ pc + 3 = pc') (lk : zLk M.1.cls idx M') (ok : zMok M' 0) (mv : zMv M') (hfr : fr' + 1 ≤ fr) (hs : zsh G.2.2.2 q = .inl (ci, tys)) (hci : zcl[ci]? = some vc) (hcls : vc.1 = M'.1.cls) (hcat : (st.map fun v => v.category).sum ≤ 8) (call : MS G M' fr' (zr G q :: []) σ (fun v σ' => v = none ∧ PW G M fr X pc' ls st σ')) : PW G M fr X pc ls (zr G q :: st) σ :=
  PW_callV (as := []) d lk ok mv hfr hs hci hcls rfl rfl hcat (fun v σ' h => by obtain ⟨rfl, h⟩ := h; exact h) call
theorem PW_callV0i {idx q ci : Nat} {tys : List Nat} {vc : vw_C} (d : decode M.2.1 pc = .ok (.invokevirtual idx, 3) ∧ pc + 3 = pc') (lk : zLk M.1.cls idx M') (ok : zMok M' 0) (mv : zMv M') (hfr : fr' + 1 ≤ fr) (hs : zsh G.2.2.2 q = .inl (ci, tys)) (hci : zcl[ci]? = some vc) (hcls : vc.1 = M'.1.cls) (hcat : (st.map fun v => v.category).sum ≤ 8) (call : MS G M' fr' (zr G q :: []) σ (fun v σ' => ∃ z : Int, v = some (iZ z) ∧ PW G M fr X pc' ls (iZ z :: st) σ')) : PW G M fr X pc ls (zr G q :: st) σ :=
  PW_callV (as := []) d lk ok mv hfr hs hci hcls rfl rfl hcat (fun v σ' h => by obtain ⟨z, rfl, h⟩ := h; exact h) call
theorem PW_callV0r {idx q ci : Nat} {tys : List Nat} {vc : vw_C} (d : decode M.2.1 pc = .ok (.invokevirtual idx, 3) ∧ pc + 3 = pc') (lk : zLk M.1.cls idx M') (ok : zMok M' 0) (mv : zMv M') (hfr : fr' + 1 ≤ fr) (hs : zsh G.2.2.2 q = .inl (ci, tys)) (hci : zcl[ci]? = some vc) (hcls : vc.1 = M'.1.cls) (hcat : (st.map fun v => v.category).sum ≤ 8) (call : MS G M' fr' (zr G q :: []) σ (fun v σ' => ∃ q : Nat, v = some (zr G q) ∧ PW G M fr X pc' ls (zr G q :: st) σ')) : PW G M fr X pc ls (zr G q :: st) σ :=
  PW_callV (as := []) d lk ok mv hfr hs hci hcls rfl rfl hcat (fun v σ' h => by obtain ⟨z, rfl, h⟩ := h; exact h) call
theorem PW_callV1v {idx q ci : Nat} {tys : List Nat} {vc : vw_C} {a1 : Value} (d : decode M.2.1 pc = .ok (.invokevirtual idx, 3) ∧ pc + 3 = pc') (lk : zLk M.1.cls idx M') (ok : zMok M' 1) (mv : zMv M') (hfr : fr' + 1 ≤ fr) (hs : zsh G.2.2.2 q = .inl (ci, tys)) (hci : zcl[ci]? = some vc) (hcls : vc.1 = M'.1.cls) (hcat : (st.map fun v => v.category).sum ≤ 8) (call : MS G M' fr' (zr G q :: [a1]) σ (fun v σ' => v = none ∧ PW G M fr X pc' ls st σ')) : PW G M fr X pc ls (a1 :: zr G q :: st) σ :=
  PW_callV (as := [a1]) d lk ok mv hfr hs hci hcls rfl rfl hcat (fun v σ' h => by obtain ⟨rfl, h⟩ := h; exact h) call
theorem PW_callS1v {idx : Nat} {a1 : Value} (d : decode M.2.1 pc = .ok (.invokestatic idx, 3) ∧ pc + 3 = pc') (lk : zLk M.1.cls idx M') (ok : zMok M' 1) (mv : zMs M') (hfr : fr' + 1 ≤ fr) (hcat : (st.map fun v => v.category).sum ≤ 8) (call : MS G M' fr' [a1] σ (fun v σ' => v = none ∧ PW G M fr X pc' ls st σ')) : PW G M fr X pc ls (a1 :: st) σ :=
  PW_callS (as := [a1]) d lk ok mv hfr rfl rfl hcat (fun v σ' h => by obtain ⟨rfl, h⟩ := h; exact h) call
theorem PW_callV1i {idx q ci : Nat} {tys : List Nat} {vc : vw_C} {a1 : Value} (d : decode M.2.1 pc = .ok (.invokevirtual idx, 3) ∧ pc + 3 = pc') (lk : zLk M.1.cls idx M') (ok : zMok M' 1) (mv : zMv M') (hfr : fr' + 1 ≤ fr) (hs : zsh G.2.2.2 q = .inl (ci, tys)) (hci : zcl[ci]? = some vc) (hcls : vc.1 = M'.1.cls) (hcat : (st.map fun v => v.category).sum ≤ 8) (call : MS G M' fr' (zr G q :: [a1]) σ (fun v σ' => ∃ z : Int, v = some (iZ z) ∧ PW G M fr X pc' ls (iZ z :: st) σ')) : PW G M fr X pc ls (a1 :: zr G q :: st) σ :=
  PW_callV (as := [a1]) d lk ok mv hfr hs hci hcls rfl rfl hcat (fun v σ' h => by obtain ⟨z, rfl, h⟩ := h; exact h) call
theorem PW_callS1i {idx : Nat} {a1 : Value} (d : decode M.2.1 pc = .ok (.invokestatic idx, 3) ∧ pc + 3 = pc') (lk : zLk M.1.cls idx M') (ok : zMok M' 1) (mv : zMs M') (hfr : fr' + 1 ≤ fr) (hcat : (st.map fun v => v.category).sum ≤ 8) (call : MS G M' fr' [a1] σ (fun v σ' => ∃ z : Int, v = some (iZ z) ∧ PW G M fr X pc' ls (iZ z :: st) σ')) : PW G M fr X pc ls (a1 :: st) σ :=
  PW_callS (as := [a1]) d lk ok mv hfr rfl rfl hcat (fun v σ' h => by obtain ⟨z, rfl, h⟩ := h; exact h) call
theorem PW_callV1r {idx q ci : Nat} {tys : List Nat} {vc : vw_C} {a1 : Value} (d : decode M.2.1 pc = .ok (.invokevirtual idx, 3) ∧ pc + 3 = pc') (lk : zLk M.1.cls idx M') (ok : zMok M' 1) (mv : zMv M') (hfr : fr' + 1 ≤ fr) (hs : zsh G.2.2.2 q = .inl (ci, tys)) (hci : zcl[ci]? = some vc) (hcls : vc.1 = M'.1.cls) (hcat : (st.map fun v => v.category).sum ≤ 8) (call : MS G M' fr' (zr G q :: [a1]) σ (fun v σ' => ∃ q : Nat, v = some (zr G q) ∧ PW G M fr X pc' ls (zr G q :: st) σ')) : PW G M fr X pc ls (a1 :: zr G q :: st) σ :=
  PW_callV (as := [a1]) d lk ok mv hfr hs hci hcls rfl rfl hcat (fun v σ' h => by obtain ⟨z, rfl, h⟩ := h; exact h) call
theorem PW_callS1r {idx : Nat} {a1 : Value} (d : decode M.2.1 pc = .ok (.invokestatic idx, 3) ∧ pc + 3 = pc') (lk : zLk M.1.cls idx M') (ok : zMok M' 1) (mv : zMs M') (hfr : fr' + 1 ≤ fr) (hcat : (st.map fun v => v.category).sum ≤ 8) (call : MS G M' fr' [a1] σ (fun v σ' => ∃ q : Nat, v = some (zr G q) ∧ PW G M fr X pc' ls (zr G q :: st) σ')) : PW G M fr X pc ls (a1 :: st) σ :=
  PW_callS (as := [a1]) d lk ok mv hfr rfl rfl hcat (fun v σ' h => by obtain ⟨z, rfl, h⟩ := h; exact h) call
theorem PW_callV2v {idx q ci : Nat} {tys : List Nat} {vc : vw_C} {a1 a2 : Value} (d : decode M.2.1 pc = .ok (.invokevirtual idx, 3) ∧ pc + 3 = pc') (lk : zLk M.1.cls idx M') (ok : zMok M' 2) (mv : zMv M') (hfr : fr' + 1 ≤ fr) (hs : zsh G.2.2.2 q = .inl (ci, tys)) (hci : zcl[ci]? = some vc) (hcls : vc.1 = M'.1.cls) (hcat : (st.map fun v => v.category).sum ≤ 8) (call : MS G M' fr' (zr G q :: [a1, a2]) σ (fun v σ' => v = none ∧ PW G M fr X pc' ls st σ')) : PW G M fr X pc ls (a2 :: a1 :: zr G q :: st) σ :=
  PW_callV (as := [a1, a2]) d lk ok mv hfr hs hci hcls rfl rfl hcat (fun v σ' h => by obtain ⟨rfl, h⟩ := h; exact h) call
theorem PW_callS2v {idx : Nat} {a1 a2 : Value} (d : decode M.2.1 pc = .ok (.invokestatic idx, 3) ∧ pc + 3 = pc') (lk : zLk M.1.cls idx M') (ok : zMok M' 2) (mv : zMs M') (hfr : fr' + 1 ≤ fr) (hcat : (st.map fun v => v.category).sum ≤ 8) (call : MS G M' fr' [a1, a2] σ (fun v σ' => v = none ∧ PW G M fr X pc' ls st σ')) : PW G M fr X pc ls (a2 :: a1 :: st) σ :=
  PW_callS (as := [a1, a2]) d lk ok mv hfr rfl rfl hcat (fun v σ' h => by obtain ⟨rfl, h⟩ := h; exact h) call
theorem PW_callV2i {idx q ci : Nat} {tys : List Nat} {vc : vw_C} {a1 a2 : Value} (d : decode M.2.1 pc = .ok (.invokevirtual idx, 3) ∧ pc + 3 = pc') (lk : zLk M.1.cls idx M') (ok : zMok M' 2) (mv : zMv M') (hfr : fr' + 1 ≤ fr) (hs : zsh G.2.2.2 q = .inl (ci, tys)) (hci : zcl[ci]? = some vc) (hcls : vc.1 = M'.1.cls) (hcat : (st.map fun v => v.category).sum ≤ 8) (call : MS G M' fr' (zr G q :: [a1, a2]) σ (fun v σ' => ∃ z : Int, v = some (iZ z) ∧ PW G M fr X pc' ls (iZ z :: st) σ')) : PW G M fr X pc ls (a2 :: a1 :: zr G q :: st) σ :=
  PW_callV (as := [a1, a2]) d lk ok mv hfr hs hci hcls rfl rfl hcat (fun v σ' h => by obtain ⟨z, rfl, h⟩ := h; exact h) call
theorem PW_callS2i {idx : Nat} {a1 a2 : Value} (d : decode M.2.1 pc = .ok (.invokestatic idx, 3) ∧ pc + 3 = pc') (lk : zLk M.1.cls idx M') (ok : zMok M' 2) (mv : zMs M') (hfr : fr' + 1 ≤ fr) (hcat : (st.map fun v => v.category).sum ≤ 8) (call : MS G M' fr' [a1, a2] σ (fun v σ' => ∃ z : Int, v = some (iZ z) ∧ PW G M fr X pc' ls (iZ z :: st) σ')) : PW G M fr X pc ls (a2 :: a1 :: st) σ :=
  PW_callS (as := [a1, a2]) d lk ok mv hfr rfl rfl hcat (fun v σ' h => by obtain ⟨z, rfl, h⟩ := h; exact h) call
theorem PW_callV2r {idx q ci : Nat} {tys : List Nat} {vc : vw_C} {a1 a2 : Value} (d : decode M.2.1 pc = .ok (.invokevirtual idx, 3) ∧ pc + 3 = pc') (lk : zLk M.1.cls idx M') (ok : zMok M' 2) (mv : zMv M') (hfr : fr' + 1 ≤ fr) (hs : zsh G.2.2.2 q = .inl (ci, tys)) (hci : zcl[ci]? = some vc) (hcls : vc.1 = M'.1.cls) (hcat : (st.map fun v => v.category).sum ≤ 8) (call : MS G M' fr' (zr G q :: [a1, a2]) σ (fun v σ' => ∃ q : Nat, v = some (zr G q) ∧ PW G M fr X pc' ls (zr G q :: st) σ')) : PW G M fr X pc ls (a2 :: a1 :: zr G q :: st) σ :=
  PW_callV (as := [a1, a2]) d lk ok mv hfr hs hci hcls rfl rfl hcat (fun v σ' h => by obtain ⟨z, rfl, h⟩ := h; exact h) call
theorem PW_callS2r {idx : Nat} {a1 a2 : Value} (d : decode M.2.1 pc = .ok (.invokestatic idx, 3) ∧ pc + 3 = pc') (lk : zLk M.1.cls idx M') (ok : zMok M' 2) (mv : zMs M') (hfr : fr' + 1 ≤ fr) (hcat : (st.map fun v => v.category).sum ≤ 8) (call : MS G M' fr' [a1, a2] σ (fun v σ' => ∃ q : Nat, v = some (zr G q) ∧ PW G M fr X pc' ls (zr G q :: st) σ')) : PW G M fr X pc ls (a2 :: a1 :: st) σ :=
  PW_callS (as := [a1, a2]) d lk ok mv hfr rfl rfl hcat (fun v σ' h => by obtain ⟨z, rfl, h⟩ := h; exact h) call
theorem PW_callV3v {idx q ci : Nat} {tys : List Nat} {vc : vw_C} {a1 a2 a3 : Value} (d : decode M.2.1 pc = .ok (.invokevirtual idx, 3) ∧ pc + 3 = pc') (lk : zLk M.1.cls idx M') (ok : zMok M' 3) (mv : zMv M') (hfr : fr' + 1 ≤ fr) (hs : zsh G.2.2.2 q = .inl (ci, tys)) (hci : zcl[ci]? = some vc) (hcls : vc.1 = M'.1.cls) (hcat : (st.map fun v => v.category).sum ≤ 8) (call : MS G M' fr' (zr G q :: [a1, a2, a3]) σ (fun v σ' => v = none ∧ PW G M fr X pc' ls st σ')) : PW G M fr X pc ls (a3 :: a2 :: a1 :: zr G q :: st) σ :=
  PW_callV (as := [a1, a2, a3]) d lk ok mv hfr hs hci hcls rfl rfl hcat (fun v σ' h => by obtain ⟨rfl, h⟩ := h; exact h) call
theorem PW_callS3v {idx : Nat} {a1 a2 a3 : Value} (d : decode M.2.1 pc = .ok (.invokestatic idx, 3) ∧ pc + 3 = pc') (lk : zLk M.1.cls idx M') (ok : zMok M' 3) (mv : zMs M') (hfr : fr' + 1 ≤ fr) (hcat : (st.map fun v => v.category).sum ≤ 8) (call : MS G M' fr' [a1, a2, a3] σ (fun v σ' => v = none ∧ PW G M fr X pc' ls st σ')) : PW G M fr X pc ls (a3 :: a2 :: a1 :: st) σ :=
  PW_callS (as := [a1, a2, a3]) d lk ok mv hfr rfl rfl hcat (fun v σ' h => by obtain ⟨rfl, h⟩ := h; exact h) call
theorem PW_callV3i {idx q ci : Nat} {tys : List Nat} {vc : vw_C} {a1 a2 a3 : Value} (d : decode M.2.1 pc = .ok (.invokevirtual idx, 3) ∧ pc + 3 = pc') (lk : zLk M.1.cls idx M') (ok : zMok M' 3) (mv : zMv M') (hfr : fr' + 1 ≤ fr) (hs : zsh G.2.2.2 q = .inl (ci, tys)) (hci : zcl[ci]? = some vc) (hcls : vc.1 = M'.1.cls) (hcat : (st.map fun v => v.category).sum ≤ 8) (call : MS G M' fr' (zr G q :: [a1, a2, a3]) σ (fun v σ' => ∃ z : Int, v = some (iZ z) ∧ PW G M fr X pc' ls (iZ z :: st) σ')) : PW G M fr X pc ls (a3 :: a2 :: a1 :: zr G q :: st) σ :=
  PW_callV (as := [a1, a2, a3]) d lk ok mv hfr hs hci hcls rfl rfl hcat (fun v σ' h => by obtain ⟨z, rfl, h⟩ := h; exact h) call
theorem PW_callS3i {idx : Nat} {a1 a2 a3 : Value} (d : decode M.2.1 pc = .ok (.invokestatic idx, 3) ∧ pc + 3 = pc') (lk : zLk M.1.cls idx M') (ok : zMok M' 3) (mv : zMs M') (hfr : fr' + 1 ≤ fr) (hcat : (st.map fun v => v.category).sum ≤ 8) (call : MS G M' fr' [a1, a2, a3] σ (fun v σ' => ∃ z : Int, v = some (iZ z) ∧ PW G M fr X pc' ls (iZ z :: st) σ')) : PW G M fr X pc ls (a3 :: a2 :: a1 :: st) σ :=
  PW_callS (as := [a1, a2, a3]) d lk ok mv hfr rfl rfl hcat (fun v σ' h => by obtain ⟨z, rfl, h⟩ := h; exact h) call
theorem PW_callV3r {idx q ci : Nat} {tys : List Nat} {vc : vw_C} {a1 a2 a3 : Value} (d : decode M.2.1 pc = .ok (.invokevirtual idx, 3) ∧ pc + 3 = pc') (lk : zLk M.1.cls idx M') (ok : zMok M' 3) (mv : zMv M') (hfr : fr' + 1 ≤ fr) (hs : zsh G.2.2.2 q = .inl (ci, tys)) (hci : zcl[ci]? = some vc) (hcls : vc.1 = M'.1.cls) (hcat : (st.map fun v => v.category).sum ≤ 8) (call : MS G M' fr' (zr G q :: [a1, a2, a3]) σ (fun v σ' => ∃ q : Nat, v = some (zr G q) ∧ PW G M fr X pc' ls (zr G q :: st) σ')) : PW G M fr X pc ls (a3 :: a2 :: a1 :: zr G q :: st) σ :=
  PW_callV (as := [a1, a2, a3]) d lk ok mv hfr hs hci hcls rfl rfl hcat (fun v σ' h => by obtain ⟨z, rfl, h⟩ := h; exact h) call
theorem PW_callS3r {idx : Nat} {a1 a2 a3 : Value} (d : decode M.2.1 pc = .ok (.invokestatic idx, 3) ∧ pc + 3 = pc') (lk : zLk M.1.cls idx M') (ok : zMok M' 3) (mv : zMs M') (hfr : fr' + 1 ≤ fr) (hcat : (st.map fun v => v.category).sum ≤ 8) (call : MS G M' fr' [a1, a2, a3] σ (fun v σ' => ∃ q : Nat, v = some (zr G q) ∧ PW G M fr X pc' ls (zr G q :: st) σ')) : PW G M fr X pc ls (a3 :: a2 :: a1 :: st) σ :=
  PW_callS (as := [a1, a2, a3]) d lk ok mv hfr rfl rfl hcat (fun v σ' h => by obtain ⟨z, rfl, h⟩ := h; exact h) call
theorem PW_callV4v {idx q ci : Nat} {tys : List Nat} {vc : vw_C} {a1 a2 a3 a4 : Value} (d : decode M.2.1 pc = .ok (.invokevirtual idx, 3) ∧ pc + 3 = pc') (lk : zLk M.1.cls idx M') (ok : zMok M' 4) (mv : zMv M') (hfr : fr' + 1 ≤ fr) (hs : zsh G.2.2.2 q = .inl (ci, tys)) (hci : zcl[ci]? = some vc) (hcls : vc.1 = M'.1.cls) (hcat : (st.map fun v => v.category).sum ≤ 8) (call : MS G M' fr' (zr G q :: [a1, a2, a3, a4]) σ (fun v σ' => v = none ∧ PW G M fr X pc' ls st σ')) : PW G M fr X pc ls (a4 :: a3 :: a2 :: a1 :: zr G q :: st) σ :=
  PW_callV (as := [a1, a2, a3, a4]) d lk ok mv hfr hs hci hcls rfl rfl hcat (fun v σ' h => by obtain ⟨rfl, h⟩ := h; exact h) call
theorem PW_callS4v {idx : Nat} {a1 a2 a3 a4 : Value} (d : decode M.2.1 pc = .ok (.invokestatic idx, 3) ∧ pc + 3 = pc') (lk : zLk M.1.cls idx M') (ok : zMok M' 4) (mv : zMs M') (hfr : fr' + 1 ≤ fr) (hcat : (st.map fun v => v.category).sum ≤ 8) (call : MS G M' fr' [a1, a2, a3, a4] σ (fun v σ' => v = none ∧ PW G M fr X pc' ls st σ')) : PW G M fr X pc ls (a4 :: a3 :: a2 :: a1 :: st) σ :=
  PW_callS (as := [a1, a2, a3, a4]) d lk ok mv hfr rfl rfl hcat (fun v σ' h => by obtain ⟨rfl, h⟩ := h; exact h) call
theorem PW_callV4i {idx q ci : Nat} {tys : List Nat} {vc : vw_C} {a1 a2 a3 a4 : Value} (d : decode M.2.1 pc = .ok (.invokevirtual idx, 3) ∧ pc + 3 = pc') (lk : zLk M.1.cls idx M') (ok : zMok M' 4) (mv : zMv M') (hfr : fr' + 1 ≤ fr) (hs : zsh G.2.2.2 q = .inl (ci, tys)) (hci : zcl[ci]? = some vc) (hcls : vc.1 = M'.1.cls) (hcat : (st.map fun v => v.category).sum ≤ 8) (call : MS G M' fr' (zr G q :: [a1, a2, a3, a4]) σ (fun v σ' => ∃ z : Int, v = some (iZ z) ∧ PW G M fr X pc' ls (iZ z :: st) σ')) : PW G M fr X pc ls (a4 :: a3 :: a2 :: a1 :: zr G q :: st) σ :=
  PW_callV (as := [a1, a2, a3, a4]) d lk ok mv hfr hs hci hcls rfl rfl hcat (fun v σ' h => by obtain ⟨z, rfl, h⟩ := h; exact h) call
theorem PW_callS4i {idx : Nat} {a1 a2 a3 a4 : Value} (d : decode M.2.1 pc = .ok (.invokestatic idx, 3) ∧ pc + 3 = pc') (lk : zLk M.1.cls idx M') (ok : zMok M' 4) (mv : zMs M') (hfr : fr' + 1 ≤ fr) (hcat : (st.map fun v => v.category).sum ≤ 8) (call : MS G M' fr' [a1, a2, a3, a4] σ (fun v σ' => ∃ z : Int, v = some (iZ z) ∧ PW G M fr X pc' ls (iZ z :: st) σ')) : PW G M fr X pc ls (a4 :: a3 :: a2 :: a1 :: st) σ :=
  PW_callS (as := [a1, a2, a3, a4]) d lk ok mv hfr rfl rfl hcat (fun v σ' h => by obtain ⟨z, rfl, h⟩ := h; exact h) call
theorem PW_callV4r {idx q ci : Nat} {tys : List Nat} {vc : vw_C} {a1 a2 a3 a4 : Value} (d : decode M.2.1 pc = .ok (.invokevirtual idx, 3) ∧ pc + 3 = pc') (lk : zLk M.1.cls idx M') (ok : zMok M' 4) (mv : zMv M') (hfr : fr' + 1 ≤ fr) (hs : zsh G.2.2.2 q = .inl (ci, tys)) (hci : zcl[ci]? = some vc) (hcls : vc.1 = M'.1.cls) (hcat : (st.map fun v => v.category).sum ≤ 8) (call : MS G M' fr' (zr G q :: [a1, a2, a3, a4]) σ (fun v σ' => ∃ q : Nat, v = some (zr G q) ∧ PW G M fr X pc' ls (zr G q :: st) σ')) : PW G M fr X pc ls (a4 :: a3 :: a2 :: a1 :: zr G q :: st) σ :=
  PW_callV (as := [a1, a2, a3, a4]) d lk ok mv hfr hs hci hcls rfl rfl hcat (fun v σ' h => by obtain ⟨z, rfl, h⟩ := h; exact h) call
theorem PW_callS4r {idx : Nat} {a1 a2 a3 a4 : Value} (d : decode M.2.1 pc = .ok (.invokestatic idx, 3) ∧ pc + 3 = pc') (lk : zLk M.1.cls idx M') (ok : zMok M' 4) (mv : zMs M') (hfr : fr' + 1 ≤ fr) (hcat : (st.map fun v => v.category).sum ≤ 8) (call : MS G M' fr' [a1, a2, a3, a4] σ (fun v σ' => ∃ q : Nat, v = some (zr G q) ∧ PW G M fr X pc' ls (zr G q :: st) σ')) : PW G M fr X pc ls (a4 :: a3 :: a2 :: a1 :: st) σ :=
  PW_callS (as := [a1, a2, a3, a4]) d lk ok mv hfr rfl rfl hcat (fun v σ' h => by obtain ⟨z, rfl, h⟩ := h; exact h) call
theorem PW_callV5v {idx q ci : Nat} {tys : List Nat} {vc : vw_C} {a1 a2 a3 a4 a5 : Value} (d : decode M.2.1 pc = .ok (.invokevirtual idx, 3) ∧ pc + 3 = pc') (lk : zLk M.1.cls idx M') (ok : zMok M' 5) (mv : zMv M') (hfr : fr' + 1 ≤ fr) (hs : zsh G.2.2.2 q = .inl (ci, tys)) (hci : zcl[ci]? = some vc) (hcls : vc.1 = M'.1.cls) (hcat : (st.map fun v => v.category).sum ≤ 8) (call : MS G M' fr' (zr G q :: [a1, a2, a3, a4, a5]) σ (fun v σ' => v = none ∧ PW G M fr X pc' ls st σ')) : PW G M fr X pc ls (a5 :: a4 :: a3 :: a2 :: a1 :: zr G q :: st) σ :=
  PW_callV (as := [a1, a2, a3, a4, a5]) d lk ok mv hfr hs hci hcls rfl rfl hcat (fun v σ' h => by obtain ⟨rfl, h⟩ := h; exact h) call
theorem PW_callS5v {idx : Nat} {a1 a2 a3 a4 a5 : Value} (d : decode M.2.1 pc = .ok (.invokestatic idx, 3) ∧ pc + 3 = pc') (lk : zLk M.1.cls idx M') (ok : zMok M' 5) (mv : zMs M') (hfr : fr' + 1 ≤ fr) (hcat : (st.map fun v => v.category).sum ≤ 8) (call : MS G M' fr' [a1, a2, a3, a4, a5] σ (fun v σ' => v = none ∧ PW G M fr X pc' ls st σ')) : PW G M fr X pc ls (a5 :: a4 :: a3 :: a2 :: a1 :: st) σ :=
  PW_callS (as := [a1, a2, a3, a4, a5]) d lk ok mv hfr rfl rfl hcat (fun v σ' h => by obtain ⟨rfl, h⟩ := h; exact h) call
theorem PW_callV5i {idx q ci : Nat} {tys : List Nat} {vc : vw_C} {a1 a2 a3 a4 a5 : Value} (d : decode M.2.1 pc = .ok (.invokevirtual idx, 3) ∧ pc + 3 = pc') (lk : zLk M.1.cls idx M') (ok : zMok M' 5) (mv : zMv M') (hfr : fr' + 1 ≤ fr) (hs : zsh G.2.2.2 q = .inl (ci, tys)) (hci : zcl[ci]? = some vc) (hcls : vc.1 = M'.1.cls) (hcat : (st.map fun v => v.category).sum ≤ 8) (call : MS G M' fr' (zr G q :: [a1, a2, a3, a4, a5]) σ (fun v σ' => ∃ z : Int, v = some (iZ z) ∧ PW G M fr X pc' ls (iZ z :: st) σ')) : PW G M fr X pc ls (a5 :: a4 :: a3 :: a2 :: a1 :: zr G q :: st) σ :=
  PW_callV (as := [a1, a2, a3, a4, a5]) d lk ok mv hfr hs hci hcls rfl rfl hcat (fun v σ' h => by obtain ⟨z, rfl, h⟩ := h; exact h) call
theorem PW_callS5i {idx : Nat} {a1 a2 a3 a4 a5 : Value} (d : decode M.2.1 pc = .ok (.invokestatic idx, 3) ∧ pc + 3 = pc') (lk : zLk M.1.cls idx M') (ok : zMok M' 5) (mv : zMs M') (hfr : fr' + 1 ≤ fr) (hcat : (st.map fun v => v.category).sum ≤ 8) (call : MS G M' fr' [a1, a2, a3, a4, a5] σ (fun v σ' => ∃ z : Int, v = some (iZ z) ∧ PW G M fr X pc' ls (iZ z :: st) σ')) : PW G M fr X pc ls (a5 :: a4 :: a3 :: a2 :: a1 :: st) σ :=
  PW_callS (as := [a1, a2, a3, a4, a5]) d lk ok mv hfr rfl rfl hcat (fun v σ' h => by obtain ⟨z, rfl, h⟩ := h; exact h) call
theorem PW_callV5r {idx q ci : Nat} {tys : List Nat} {vc : vw_C} {a1 a2 a3 a4 a5 : Value} (d : decode M.2.1 pc = .ok (.invokevirtual idx, 3) ∧ pc + 3 = pc') (lk : zLk M.1.cls idx M') (ok : zMok M' 5) (mv : zMv M') (hfr : fr' + 1 ≤ fr) (hs : zsh G.2.2.2 q = .inl (ci, tys)) (hci : zcl[ci]? = some vc) (hcls : vc.1 = M'.1.cls) (hcat : (st.map fun v => v.category).sum ≤ 8) (call : MS G M' fr' (zr G q :: [a1, a2, a3, a4, a5]) σ (fun v σ' => ∃ q : Nat, v = some (zr G q) ∧ PW G M fr X pc' ls (zr G q :: st) σ')) : PW G M fr X pc ls (a5 :: a4 :: a3 :: a2 :: a1 :: zr G q :: st) σ :=
  PW_callV (as := [a1, a2, a3, a4, a5]) d lk ok mv hfr hs hci hcls rfl rfl hcat (fun v σ' h => by obtain ⟨z, rfl, h⟩ := h; exact h) call
theorem PW_callS5r {idx : Nat} {a1 a2 a3 a4 a5 : Value} (d : decode M.2.1 pc = .ok (.invokestatic idx, 3) ∧ pc + 3 = pc') (lk : zLk M.1.cls idx M') (ok : zMok M' 5) (mv : zMs M') (hfr : fr' + 1 ≤ fr) (hcat : (st.map fun v => v.category).sum ≤ 8) (call : MS G M' fr' [a1, a2, a3, a4, a5] σ (fun v σ' => ∃ q : Nat, v = some (zr G q) ∧ PW G M fr X pc' ls (zr G q :: st) σ')) : PW G M fr X pc ls (a5 :: a4 :: a3 :: a2 :: a1 :: st) σ :=
  PW_callS (as := [a1, a2, a3, a4, a5]) d lk ok mv hfr rfl rfl hcat (fun v σ' h => by obtain ⟨z, rfl, h⟩ := h; exact h) call
theorem PW_tsin {x dflt lo hi off : Int} {offs : Array Int} {len tgt : Nat} (d : decode M.2.1 pc = .ok (.tableswitch dflt lo hi offs, len) ∧ pc + len = pc') (c : Int) (hx : x = c) (h : (-2147483648 ≤ c ∧ c < 2147483648) ∧ lo ≤ c ∧ c ≤ hi) (ho : offs[(c - lo).toNat]? = some off) (ht : (pc : Int) + off = (tgt : Int)) (k : PW G M fr X tgt ls st σ) : PW G M fr X pc ls (iZ x :: st) σ := by
  subst hx
  have e : (Int32.ofInt x).toInt = x := Int32.toInt_ofInt_of_le (by omega) (by omega)
  exact fun p l E R s m args below meth c Z A H0 hc H la locs hP hD hS hl => lv_tableIn hc.1 hc.2.1 d.1 (by rw [e]; omega) (by rw [e]; omega) (by rw [e]; exact ho) ht (k _ _ _ _ _ _ _ _ _ _ _ _ _ hc _ _ _ hP hD hS hl)
theorem PW_tsout {x dflt lo hi : Int} {offs : Array Int} {len tgt : Nat} (d : decode M.2.1 pc = .ok (.tableswitch dflt lo hi offs, len) ∧ pc + len = pc') (h : (-2147483648 ≤ x ∧ x < 2147483648) ∧ (x < lo ∨ hi < x)) (ht : (pc : Int) + dflt = (tgt : Int)) (k : PW G M fr X tgt ls st σ) : PW G M fr X pc ls (iZ x :: st) σ := by
  have e : (Int32.ofInt x).toInt = x := Int32.toInt_ofInt_of_le (by omega) (by omega)
  exact fun p l E R s m args below meth c Z A H0 hc H la locs hP hD hS hl => lv_tableOut hc.1 hc.2.1 d.1 (by rw [e]; omega) ht (k _ _ _ _ _ _ _ _ _ _ _ _ _ hc _ _ _ hP hD hS hl)
end PWC
