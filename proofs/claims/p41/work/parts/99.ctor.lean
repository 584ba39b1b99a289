/-- what a constructor's run leaves: the cells of X, told from its own cell a -/
def NM (D : va_G) (cs : Nat → ClassId) (M : zMi) (fr mc ms ci : Nat) (f0 : List Value) (X : Nat → va_W → Prop) : Prop := ∀ (l : Launch) (a sz : Nat), Met l M.1 (zwd M) { frames := fr, cells := mc, slots := ms, locals := 40 * fr } (va_Pc [.ref a] (fun U => U.heap.size = sz ∧ va_P D zcl [(a, .inr (ci, f0))] U.heap ∧ va_K D zcl (zNt cs) U ∧ va_D (fun _ => True) [(a, .inr (ci, f0))] ∧ zNst U)) (va_Qv (fun _ : Unit => True) (fun _ t => ∃ ws : va_W, X a ws ∧ va_P D zcl ws t.heap ∧ va_K D zcl (zNt cs) t ∧ va_D (va_A [(a, .inr (ci, f0))] sz) ws) (va_A [(a, .inr (ci, f0))] sz)) mc ms (va_A [(a, .inr (ci, f0))] sz)
theorem nm_of {D : va_G} {cs : Nat → ClassId} {M : zMi} {fr mc ms ci : Nat} {f0 : List Value} {X : Nat → va_W → Prop} (ok : zMok M 0) (hr0 : M.2.2.2 = none) (hnm : M.1.name = "<init>") (hml1 : M.2.2.1 = 1) (k : ∀ a, NW D cs M fr mc ms (X a) a 0 [] [(a, .inr (ci, f0))] 0 0) : NM D cs M fr mc ms ci f0 X := by
  intro l a sz
  refine Met.ofW (cc := M.2.1) (maxL := M.2.2.1) (ret := M.2.2.2) ok.2.2.2.2 rfl ?_
  intro p e s m args below meth c s₁ B hml hv
  obtain ⟨rfl, hsz, hP, hK, hD0, hNs⟩ := hv
  have hx := B.exec
  have hb := B.bytes
  have hr := B.returns
  have hts := atoms_spec (ws := zwd M) B.pre
  have hown : s.vm.findClass M.1.cls = some m.cls := findClass_of_methodNamed B.named
  have hlocks := B.notSynchronized
  have hin : meth.name = "<init>" := (name_of_methodNamed B.named B.method).1.trans hnm
  subst hsz
  have hD := hD0.self (sz := s.heap.size)
  have hl := lv_entry [.ref a] (n := M.2.2.1) (by rw [hml1]; exact Nat.le_of_ble_eq_true rfl)
  rw [lg_entry_eq]
  generalize (lg_sl [Value.ref a] ++ List.replicate (M.2.2.1 - (lg_sl [Value.ref a]).length) Slot.unset).toArray = la at hl ⊢
  refine k a p l e _ s m _ below meth c _ (va_A [(a, .inr (ci, f0))] s.heap.size) s.heap ⟨hx, hb, hml, hown, fun w hw => hts w (List.mem_cons_of_mem _ hw), hK, ⟨Nat.le_refl _, Nat.le_refl _, Nat.le_refl _⟩, Nat.le_refl _, fun q h => Or.inr h, ⟨hin, hNs⟩, ?_⟩ s.heap la [] hP hD va_S.rf ⟨hl.1, hl.2.1, fun j u hj => ?_⟩
  · intro ws H locs pc la' hX hP' hD' hS' hret
    exact W.vret hx hb (by rw [hr]; exact hr0) (fun t ht hW => ⟨⟨(), rfl, trivial, ws, hX, by rw [ht]; exact hP', va_K.moved hW.alike hK, hD'⟩, hS'.F ht⟩) hS'.2.2 hret
  · rcases j with _ | j
    · have hu : Value.ref a = u := Option.some.inj (Option.some.inj hj)
      rw [← hu]
      exact hl.2.2 (0, .ref a) List.mem_cons_self
    · simp at hj
theorem zrangeR : ∀ (ws : va_W) (x : Nat × va_E), (List.range ws.length).map (fun i => (ws ++ [x])[i]?) = ws.map some := by
  intro ws x
  apply List.ext_getElem
  · simp
  · intro i h1 h2
    have h3 : i < ws.length := by simpa using h1
    simp [h3, List.getElem?_append_left h3]
theorem zrangeN : ∀ n m : Nat, va_nd (List.range' m n) = true := by
  intro n
  induction n with
  | zero => intro m; rfl
  | succ n ih => intro m; simp only [List.range'_succ, va_nd, Bool.and_eq_true, decide_eq_true_eq, ih, and_true, List.mem_range'_1]; omega
section NWO
variable {D : va_G} {cs : Nat → ClassId} {M M' : zMi} {fr mc ms fr' mc' ms' : Nat} {XF : va_W → Prop} {X' : Nat → va_W → Prop} {a pc pc1 pc2 pc' : Nat} {st : List Value} {ws : va_W} {cells slots : Nat}
theorem NW_new {idx idx2 ci' N' : Nat} {C host : String} {T : u_T} {f0 : List Value} (d : decode M.2.1 pc = .ok (.new idx, 3) ∧ pc + 3 = pc1) (d1 : decode M.2.1 pc1 = .ok (.dup, 1) ∧ pc1 + 1 = pc2) (d2 : decode M.2.1 pc2 = .ok (.invokespecial idx2, 3) ∧ pc2 + 3 = pc') (hcl : zcl[ci']? = some (C, T, N')) (w1 : Cond.classLink M.1.cls idx C ∈ zU) (w2 : Cond.instantiable C N' ∈ zU) (w3 : Cond.initialized C ∈ zU) (hfs : ∀ ty : Nat → FieldType, (∀ k, k < N' → parseFieldDescriptor (T k).2.2.1 = some (ty k)) → ∀ j, j < N' → defaultValue (ty j) = vp_V f0 j)
    (call : NM D cs M' fr' mc' ms' ci' f0 X') (ok : zMok M' 0) (hr0 : M'.2.2.2 = none) (nk : ∀ U : State, zNst U → va_Nw (.methodLinkNest M.1.cls idx2 M'.1 host) U) (hnm : M'.1.name = "<init>") (hin : Cond.instanceMethod M'.1 ∈ zU) (hfr : fr' + 1 ≤ fr) (hloc : M'.2.2.1 ≤ 8) (hcm : cells + 1 + mc' ≤ mc ∧ slots + N' + ms' ≤ ms) (hcat : (st.map fun v => v.category).sum ≤ 6)
    (k : ∀ (q : Nat) (w1 : va_W), X' q w1 → NW D cs M fr mc ms XF a pc' (.ref q :: st) (ws ++ w1) (cells + 1 + mc') (slots + N' + ms')) : NW D cs M fr mc ms XF a pc st ws cells slots := by
  obtain ⟨d, rfl⟩ := d
  obtain ⟨d1, rfl⟩ := d1
  obtain ⟨d2, rfl⟩ := d2
  intro p l e R s m args below meth c Z A H0 hc H la locs hP hD hS hl
  obtain ⟨hx, hb, hml, hown, hts, hK, ⟨hR1, hR3, hR4⟩, hR2, hA, hnam, hret⟩ := id hc
  obtain ⟨hinU, ⟨ty0, hty⟩, hnmU⟩ := zcl_ok ci' _ hcl
  refine va_new (ci := ci') (fs := f0) hx hb hts hinU ty0 hty hown (hts _ w1) (hts _ w2) (hts _ w3) hK hP hD hS hA hcl (hfs ty0 hty) (by show cells + 1 ≤ R.cells; omega) (by show slots + N' ≤ R.slots; omega) d (fun q H1 hP1 hD1 hS1 => ?_)
  refine lv_dup hx hb d1 rfl ?_
  have hC : [ws.length].map (fun i => (ws ++ [(q, Sum.inr (ci', f0))])[i]?) = [(q, (Sum.inr (ci', f0) : va_E))].map some := by simp
  have hPc := hP1.sub (ws' := [(q, .inr (ci', f0))]) [ws.length] (by simp)
  have hDc := hD1.sub (ws' := [(q, .inr (ci', f0))]) [ws.length] (by simp [va_nd]) (by simp)
  have hFc := va_free (wc := [(q, .inr (ci', f0))]) hD1 hS1 hA [ws.length] hC
  have cw : va_CN R s args M.1.cls idx2 M'.1 host M'.2.1 M'.2.2.1 M'.2.2.2 (zwd M') { frames := fr', cells := mc', slots := ms', locals := 40 * fr' } mc' ms' 0 :=
    va_cnB 0 hts (zgood ok) rfl rfl rfl (nk s hnam.2) (hts _ ok.2.1) ok.2.2.1 ⟨by show fr' + 1 ≤ _; omega, by show 8 + (M'.2.2.1 + 11) + 40 * fr' ≤ _; omega⟩
  rw [hr0] at cw
  refine va_callv (va_runIN (As := []) (rest := .ref q :: st) ⟨hx, hb, hml, hown, hts⟩ (call l q H1.size) ⟨cw, hnm, hts _ hin⟩ ⟨fun a' U g mk z => by obtain ⟨q0, q1, qP, qK, qD, qN⟩ := z; exact ⟨q0, q1, qP, va_K.moved (u := U) (U := U.calling g mk a') (Vm.Alike.refl U.vm) qK, qD, zNst_calling qN⟩, fun U hU hW => ⟨rfl, by rw [hU], by rw [hU]; exact hPc, va_K.moved hW.alike hK, hDc.weaken (fun _ _ _ _ => trivial), zNst_warm hW hnam.2⟩⟩ rfl rfl hl.1 rfl (lv_room (by simp only [List.map_cons, List.sum_cons]; show 1 + _ ≤ 8; omega)) d2 ⟨by show cells + 1 + mc' ≤ R.cells; omega, by show slots + N' + ms' ≤ R.slots; omega⟩) hS1 (fun q' _ h => hFc q' h) hFc (fun u t H2 locs2 ht hvm hw hB hz1 hk1 hS2 => ?_)
  obtain ⟨w', hX', hP2, hK2, hD2⟩ := hB
  rw [ht] at hP2
  obtain ⟨hP3, hD3⟩ := va_join (wr := ws) (w1 := w') hP1 hD1 [ws.length] (List.range ws.length) hC (zrangeR ws _) (by rw [List.range_eq_range']; exact zrangeN _ _) (by intro i hi hj; simp at hi hj; omega) hk1 hFc hP2 hD2
  exact k q w' hX' p l e R s m args below meth c Z A H0 hc H2 la locs2 hP3 hD3 hS2 hl
end NWO
