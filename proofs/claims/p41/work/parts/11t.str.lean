/-- the string at q, its bytes at b -/
def zSg (q b : Nat) (A : Nat → Prop) (U : State) (H : Heap) : Prop := va_O "java/lang/String" q A U H ∧ va_OF "java/lang/String" "coder" "B" (.int 0) q A U H ∧ va_OF "java/lang/String" "value" "[B" (.ref b) q A U H ∧ va_T .byte b 135 (fun j => .int (zOwnB.getD j 0)) A U H ∧ va_Z "java/lang/String" "COMPACT_STRINGS" "Z" (.int 1) A U H ∧ va_Zq "jdk/internal/util/Preconditions" "SIOOBE_FORMATTER" "Ljava/util/function/BiFunction;" A U H
theorem zSg_to {q b : Nat} {A B : Nat → Prop} {s U : State} {H : Heap} (h : zSg q b A s s.heap) (hS : ∀ a : Nat, a < s.heap.size → ¬ A a → H[a]? = s.heap[a]?) (hAB : ∀ q, B q → A q) (hW : s.WarmedH U.vm) : zSg q b B U H := by
  obtain ⟨h1, h2, h3, h4, h5, h6⟩ := h
  exact ⟨((h1.kept hS).narrow hAB).moved hW.alike, ((h2.kept hS).narrow hAB).moved hW.alike, ((h3.kept hS).narrow hAB).moved hW.alike, ((h4.kept hS).narrow hAB).moved hW.alike, ((h5.kept hS).narrow hAB).moved hW.alike, ((h6.kept hS).narrow hAB).moved hW.alike⟩
theorem zSg_calling {q b : Nat} {A : Nat → Prop} {U : State} {g : JFrame} {mk : MethodId} {a : Array Value} (h : zSg q b A U U.heap) : zSg q b A (U.calling g mk a) (U.calling g mk a).heap := by
  obtain ⟨h1, h2, h3, h4, h5, h6⟩ := h
  have r := Vm.Alike.refl U.vm
  exact ⟨h1.moved (u := U) r, h2.moved (u := U) r, h3.moved (u := U) r, h4.moved (u := U) r, h5.moved (u := U) r, h6.moved (u := U) r⟩
def zBg (G : zG) (q b : Nat) (σ : zPH) (U : State) : Prop := zB G σ U ∧ zSg q b (zA G) U U.heap
/-- MS of a member of String, the string at q -/
def MSt (G : zG) (M : zMi) (fr : Nat) (as : List Value) (q b : Nat) (σ : zPH) (X : zX) : Prop := ∀ l : Launch, Met l M.1 (zwd M) (zrm fr) (va_Pc as (zBg G q b σ)) (zQ G X) 0 0 (zA G)
def PWt (G : zG) (M : zMi) (fr : Nat) (X : zX) (q b : Nat) (pc : Nat) (ls : List (Option Value)) (st : List Value) (σ : zPH) : Prop :=
  ∀ (p : Program) (l : Launch) (e : Env) (R : Room) (s : State) (m : MethodId) (args : Array Value) (below : List Frame) (meth : Method) (c : Code) (Z : State → Prop) (A : Nat → Prop) (H0 : Heap), zC G M fr X p l e R s m args below meth c Z A H0 → zSg q b A s s.heap →
    ∀ (H : Heap) (la : Array Slot) (locs : List Loc), va_P G.2.1 zcl (zws G σ) H → va_D A (zws G σ) → va_S A H0 H locs → zHas la M.2.2.1 ls → W p l e R s m args below meth c H locs 0 0 Z (F0 m pc la st)
theorem zblindg {G : zG} {σ : zPH} {q b : Nat} {as : List Value} : FrameBlind (va_Pc as (zBg G q b σ)) := fun a U g mk h => ⟨h.1, ⟨h.2.1.1, va_K.moved (u := U) (U := U.calling g mk a) (Vm.Alike.refl U.vm) h.2.1.2.1, h.2.1.2.2.1, zStr_calling h.2.1.2.2.2⟩, zSg_calling h.2.2⟩
theorem mst_of {G : zG} {M : zMi} {fr np q b : Nat} {as : List Value} {σ : zPH} {X : zX} {ls : List (Option Value)} (ok : zMok M np) (hlen : (lg_sl as).length ≤ M.2.2.1) (hls : zargs M.2.2.1 as = ls) (hret : M.2.2.2 ≠ some .byte ∧ M.2.2.2 ≠ some .char ∨ True) (k : PWt G M fr X q b 0 ls [] σ) : MSt G M fr as q b σ X := by
  intro l
  refine Met.ofW (cc := M.2.1) (maxL := M.2.2.1) (ret := M.2.2.2) ok.2.2.2.2 rfl ?_
  intro p e s m args below meth c s₁ B hml hv
  obtain ⟨rfl, ⟨hP, hK, hD, hZ⟩, hg⟩ := hv
  have hx := B.exec
  have hb := B.bytes
  have hr := B.returns
  have hts := atoms_spec (ws := zwd M) B.pre
  have hown : s.vm.findClass M.1.cls = some m.cls := findClass_of_methodNamed B.named
  have hlocks := B.notSynchronized
  have hl := lv_entry as hlen
  rw [lg_entry_eq]
  generalize (lg_sl as ++ List.replicate (M.2.2.1 - (lg_sl as).length) Slot.unset).toArray = la at hl ⊢
  refine k p l e _ s m _ below meth c _ (zA G) s.heap ⟨hx, hb, hml, hown, fun w hw => hts w (List.mem_cons_of_mem _ hw), hK, ⟨Nat.le_refl _, rfl, hZ⟩, Nat.le_refl _, fun q h => h, ?_⟩ hg s.heap la [] hP (zD_to hD (fun _ h => h)) va_S.rf ⟨hl.1, hl.2.1, fun j u hj => hl.2.2 (j, u) (zargs_in (by rw [hls]; exact hj))⟩
  intro v σ' H locs pc la' hXv hP' hD' hS' hret
  have fin : ∀ t : State, t.heap = H → s.WarmedH t.vm → zQ G X as.toArray s (.returned v) t := fun t ht hW => ⟨⟨v, σ', rfl, hXv, by rw [ht]; exact hP', va_K.moved hW.alike hK, zD_to hD' (fun _ _ => trivial), by rw [ht]; exact zStr_to hZ hS'.2.1 (fun _ h => h) hW⟩, hS'.F ht⟩
  rcases hret with ⟨d, z, ty, rfl, hty, hn⟩ | ⟨d, q, C, rfl, hC⟩ | ⟨d, rfl, hN⟩
  · exact W.zret hx hb (by rw [hr]; exact hty) hn fin hS'.2.2 d
  · exact W.aret hx hb (by rw [hr]; exact hC) (Or.inl ⟨C, rfl⟩) (Or.inr ⟨q, rfl⟩) fin hS'.2.2 d
  · exact W.vret hx hb (by rw [hr]; exact hN) fin hS'.2.2 d
section PWTR
variable {G : zG} {M M' : zMi} {fr fr' : Nat} {X X' : zX} {q b : Nat} {pc pc' tgt : Nat} {ls : List (Option Value)} {st st0 : List Value} {σ : zPH} {x y z : Int}
theorem Pt_iconst {n : Int} (d : decode M.2.1 pc = .ok (.iconst n, 1) ∧ pc + 1 = pc') (k : PWt G M fr X q b pc' ls (iZ n :: st) σ) : PWt G M fr X q b pc ls st σ := by
  obtain ⟨d, rfl⟩ := d
  exact fun p l e R s m args below meth c Z A H0 hc hg H la locs hP hD hS hl => lv_iconst hc.1 hc.2.1 d rfl (k _ _ _ _ _ _ _ _ _ _ _ _ _ hc hg _ _ _ hP hD hS hl)
theorem Pt_sipush {n : Int} (d : decode M.2.1 pc = .ok (.sipush n, 3) ∧ pc + 3 = pc') (hn : (Int16.ofInt n).toInt32 = Int32.ofInt n) (k : PWt G M fr X q b pc' ls (iZ n :: st) σ) : PWt G M fr X q b pc ls st σ := by
  obtain ⟨d, rfl⟩ := d
  exact fun p l e R s m args below meth c Z A H0 hc hg H la locs hP hD hS hl => lv_sipush hc.1 hc.2.1 d hn (k _ _ _ _ _ _ _ _ _ _ _ _ _ hc hg _ _ _ hP hD hS hl)
theorem Pt_iload_n {n : Fin 4} (d : decode M.2.1 pc = .ok (.iload_n n, 1) ∧ pc + 1 = pc') (h : ls[(n : Nat)]? = some (some (iZ z))) (k : PWt G M fr X q b pc' ls (iZ z :: st) σ) : PWt G M fr X q b pc ls st σ := by
  obtain ⟨d, rfl⟩ := d
  exact fun p l e R s m args below meth c Z A H0 hc hg H la locs hP hD hS hl => lv_iload_n hc.1 hc.2.1 d rfl (hl.2.2 _ _ h) (k _ _ _ _ _ _ _ _ _ _ _ _ _ hc hg _ _ _ hP hD hS hl)
theorem Pt_aload_n {n : Fin 4} {r : Nat} (d : decode M.2.1 pc = .ok (.aload_n n, 1) ∧ pc + 1 = pc') (h : ls[(n : Nat)]? = some (some (.ref r))) (k : PWt G M fr X q b pc' ls (.ref r :: st) σ) : PWt G M fr X q b pc ls st σ := by
  obtain ⟨d, rfl⟩ := d
  exact fun p l e R s m args below meth c Z A H0 hc hg H la locs hP hD hS hl => lv_aload_n hc.1 hc.2.1 d rfl (hl.2.2 _ _ h) (k _ _ _ _ _ _ _ _ _ _ _ _ _ hc hg _ _ _ hP hD hS hl)
theorem Pt_iand (d : decode M.2.1 pc = .ok (.iand, 1) ∧ pc + 1 = pc') (h : Int32.ofInt x &&& Int32.ofInt y = Int32.ofInt z) (k : PWt G M fr X q b pc' ls (iZ z :: st) σ) : PWt G M fr X q b pc ls (iZ y :: iZ x :: st) σ := by
  obtain ⟨d, rfl⟩ := d
  exact fun p l e R s m args below meth c Z A H0 hc hg H la locs hP hD hS hl => lv_iand hc.1 hc.2.1 d (by rw [h]; exact k _ _ _ _ _ _ _ _ _ _ _ _ _ hc hg _ _ _ hP hD hS hl)
theorem Pt_ishr (d : decode M.2.1 pc = .ok (.ishr, 1) ∧ pc + 1 = pc') (h : (-2147483648 ≤ x ∧ x < 2147483648) ∧ 0 ≤ y ∧ y < 32) (k : PWt G M fr X q b pc' ls (iZ (x / 2 ^ y.toNat) :: st) σ) : PWt G M fr X q b pc ls (iZ y :: iZ x :: st) σ := by
  obtain ⟨d, rfl⟩ := d
  have q9 := (zshr (a := x) h.1 h.2)
  exact fun p l e R s m args below meth c Z A H0 hc hg H la locs hP hD hS hl => lv_ishr hc.1 hc.2.1 d (by rw [q9]; exact k _ _ _ _ _ _ _ _ _ _ _ _ _ hc hg _ _ _ hP hD hS hl)
theorem Pt_i2c (d : decode M.2.1 pc = .ok (.i2c, 1) ∧ pc + 1 = pc') (h : ((Int32.ofInt x).toUInt32 % 65536).toInt32 = Int32.ofInt z) (k : PWt G M fr X q b pc' ls (iZ z :: st) σ) : PWt G M fr X q b pc ls (iZ x :: st) σ := by
  obtain ⟨d, rfl⟩ := d
  exact fun p l e R s m args below meth c Z A H0 hc hg H la locs hP hD hS hl => lv_i2c hc.1 hc.2.1 d h (k _ _ _ _ _ _ _ _ _ _ _ _ _ hc hg _ _ _ hP hD hS hl)
theorem Pt_goto {off : Int} (d : decode M.2.1 pc = .ok (.goto off, 3) ∧ (pc : Int) + off = (tgt : Int) ∧ pc + 3 = pc') (k : PWt G M fr X q b tgt ls st σ) : PWt G M fr X q b pc ls st σ :=
  fun p l e R s m args below meth c Z A H0 hc hg H la locs hP hD hS hl => lv_goto hc.1 hc.2.1 d.1 d.2.1 (k _ _ _ _ _ _ _ _ _ _ _ _ _ hc hg _ _ _ hP hD hS hl)
theorem Pt_if_eq {off : Int} (d : decode M.2.1 pc = .ok (.ifCond .eq off, 3) ∧ (pc : Int) + off = (tgt : Int) ∧ pc + 3 = pc') (h : -2147483648 ≤ x ∧ x < 2147483648) (kt : x = 0 → PWt G M fr X q b tgt ls st σ) (kf : x ≠ 0 → PWt G M fr X q b pc' ls st σ) : PWt G M fr X q b pc ls (iZ x :: st) σ := by
  obtain ⟨d, d2, rfl⟩ := d
  exact fun p l e R s m args below meth c Z A H0 hc hg H la locs hP hD hS hl => lv_if_eq hc.1 hc.2.1 d d2 (fun q => kt (by rw [zeq0 h] at q; omega) _ _ _ _ _ _ _ _ _ _ _ _ _ hc hg _ _ _ hP hD hS hl) (fun q => kf (by rw [zeq0 h] at q; omega) _ _ _ _ _ _ _ _ _ _ _ _ _ hc hg _ _ _ hP hD hS hl)
theorem Pt_if_ne {off : Int} (d : decode M.2.1 pc = .ok (.ifCond .ne off, 3) ∧ (pc : Int) + off = (tgt : Int) ∧ pc + 3 = pc') (h : -2147483648 ≤ x ∧ x < 2147483648) (kt : x ≠ 0 → PWt G M fr X q b tgt ls st σ) (kf : x = 0 → PWt G M fr X q b pc' ls st σ) : PWt G M fr X q b pc ls (iZ x :: st) σ := by
  obtain ⟨d, d2, rfl⟩ := d
  exact fun p l e R s m args below meth c Z A H0 hc hg H la locs hP hD hS hl => lv_if_ne hc.1 hc.2.1 d d2 (fun q => kt (by rw [zeq0 h] at q; omega) _ _ _ _ _ _ _ _ _ _ _ _ _ hc hg _ _ _ hP hD hS hl) (fun q => kf (by rw [zeq0 h] at q; omega) _ _ _ _ _ _ _ _ _ _ _ _ _ hc hg _ _ _ hP hD hS hl)
theorem Pt_coder {i : Nat} (d : decode M.2.1 pc = .ok (.getfield i, 3) ∧ pc + 3 = pc') (hw : Cond.fieldLink M.1.cls i "java/lang/String" "coder" "B" ∈ zU) (k : PWt G M fr X q b pc' ls (iZ 0 :: st) σ) : PWt G M fr X q b pc ls (.ref q :: st) σ := by
  obtain ⟨d, rfl⟩ := d
  intro p l e R s m args below meth c Z A H0 hc hg H la locs hP hD hS hl
  obtain ⟨hx, hb, hml, hown, hts, hK, ⟨hR1, rfl, hZ⟩, -⟩ := id hc
  exact vk_getf hx hb hg.2.1 hS hown (hts _ hw) (fun _ h => h) d (k _ _ _ _ _ _ _ _ _ _ _ _ _ hc hg _ _ _ hP hD hS hl)
theorem Pt_value {i : Nat} (d : decode M.2.1 pc = .ok (.getfield i, 3) ∧ pc + 3 = pc') (hw : Cond.fieldLink M.1.cls i "java/lang/String" "value" "[B" ∈ zU) (k : PWt G M fr X q b pc' ls (.ref b :: st) σ) : PWt G M fr X q b pc ls (.ref q :: st) σ := by
  obtain ⟨d, rfl⟩ := d
  intro p l e R s m args below meth c Z A H0 hc hg H la locs hP hD hS hl
  obtain ⟨hx, hb, hml, hown, hts, hK, ⟨hR1, rfl, hZ⟩, -⟩ := id hc
  exact vk_getf hx hb hg.2.2.1 hS hown (hts _ hw) (fun _ h => h) d (k _ _ _ _ _ _ _ _ _ _ _ _ _ hc hg _ _ _ hP hD hS hl)
theorem Pt_alen (d : decode M.2.1 pc = .ok (.arraylength, 1) ∧ pc + 1 = pc') (k : PWt G M fr X q b pc' ls (iZ 135 :: st) σ) : PWt G M fr X q b pc ls (.ref b :: st) σ := by
  obtain ⟨d, rfl⟩ := d
  intro p l e R s m args below meth c Z A H0 hc hg H la locs hP hD hS hl
  obtain ⟨hx, hb, hml, hown, hts, hK, ⟨hR1, rfl, hZ⟩, -⟩ := id hc
  exact va_tlen hx hb hg.2.2.2.1 hS (v := Int32.ofInt 135) (by decide) d (k _ _ _ _ _ _ _ _ _ _ _ _ _ hc hg _ _ _ hP hD hS hl)
/-- the char at k -/
def zOwnC (k : Nat) : Int := (zOwnB.getD k 0).toInt
theorem Pt_baload (d : decode M.2.1 pc = .ok (.baload, 1) ∧ pc + 1 = pc') (hi : 0 ≤ x ∧ x < 135) (k : PWt G M fr X q b pc' ls (iZ (zOwnC x.toNat) :: st) σ) : PWt G M fr X q b pc ls (iZ x :: .ref b :: st) σ := by
  obtain ⟨d, rfl⟩ := d
  intro p l e R s m args below meth c Z A H0 hc hg H la locs hP hD hS hl
  obtain ⟨hx, hb, hml, hown, hts, hK, ⟨hR1, rfl, hZ⟩, -⟩ := id hc
  refine va_tb hx hb hg.2.2.2.1 hS (i := Int32.ofInt x) (zvpin (n := 135) (by omega) (by decide)) (v := iZ (zOwnC x.toNat)) ?_ d (k _ _ _ _ _ _ _ _ _ _ _ _ _ hc hg _ _ _ hP hD hS hl)
  rw [zclamp (by omega)]
  show Value.int (zOwnB.getD x.toNat 0) = Value.int (Int32.ofInt (zOwnB.getD x.toNat 0).toInt)
  rw [Int32.ofInt_toInt]
theorem Pt_compact {i : Nat} (d : decode M.2.1 pc = .ok (.getstatic i, 3) ∧ pc + 3 = pc') (hw : Cond.fieldLink M.1.cls i "java/lang/String" "COMPACT_STRINGS" "Z" ∈ zU) (k : PWt G M fr X q b pc' ls (iZ 1 :: st) σ) : PWt G M fr X q b pc ls st σ := by
  obtain ⟨d, rfl⟩ := d
  intro p l e R s m args below meth c Z A H0 hc hg H la locs hP hD hS hl
  obtain ⟨hx, hb, hml, hown, hts, hK, ⟨hR1, rfl, hZ⟩, -⟩ := id hc
  exact va_gets hx hb hg.2.2.2.2.1 hS hown (hts _ hw) (fun _ h => h) d (k _ _ _ _ _ _ _ _ _ _ _ _ _ hc hg _ _ _ hP hD hS hl)
theorem Pt_formatter {i : Nat} (d : decode M.2.1 pc = .ok (.getstatic i, 3) ∧ pc + 3 = pc') (hw : Cond.fieldLink M.1.cls i "jdk/internal/util/Preconditions" "SIOOBE_FORMATTER" "Ljava/util/function/BiFunction;" ∈ zU) (k : ∀ v : Value, v.category = 1 → PWt G M fr X q b pc' ls (v :: st) σ) : PWt G M fr X q b pc ls st σ := by
  obtain ⟨d, rfl⟩ := d
  intro p l e R s m args below meth c Z A H0 hc hg H la locs hP hD hS hl
  obtain ⟨hx, hb, hml, hown, hts, hK, ⟨hR1, rfl, hZ⟩, -⟩ := id hc
  rcases hg.2.2.2.2.2 with h | ⟨t, h⟩
  · exact va_gets hx hb h hS hown (hts _ hw) (fun _ h => h) d (k _ rfl _ _ _ _ _ _ _ _ _ _ _ _ _ hc hg _ _ _ hP hD hS hl)
  · exact va_gets hx hb h hS hown (hts _ hw) (fun _ h => h) d (k _ rfl _ _ _ _ _ _ _ _ _ _ _ _ _ hc hg _ _ _ hP hD hS hl)
theorem Pt_pop {v : Value} (d : decode M.2.1 pc = .ok (.pop, 1) ∧ pc + 1 = pc') (hv : v.category = 1) (k : PWt G M fr X q b pc' ls st σ) : PWt G M fr X q b pc ls (v :: st) σ := by
  obtain ⟨d, rfl⟩ := d
  exact fun p l e R s m args below meth c Z A H0 hc hg H la locs hP hD hS hl => lv_pop hc.1 hc.2.1 d hv (k _ _ _ _ _ _ _ _ _ _ _ _ _ hc hg _ _ _ hP hD hS hl)
theorem Pt_ret {ty : FieldType} (d : decode M.2.1 pc = .ok (.ireturn, 1) ∧ pc + 1 = pc') (hr : M.2.2.2 = some ty) (hn : narrow ty (iZ z) = iZ z) (hx : X (some (iZ z)) σ) : PWt G M fr X q b pc ls [iZ z] σ :=
  fun p l e R s m args below meth c Z A H0 hc hg H la locs hP hD hS hl => hc.2.2.2.2.2.2.2.2.2 _ _ _ _ _ _ hx hP hD hS (Or.inl ⟨d.1, z, ty, rfl, hr, hn⟩)
theorem Pt_vret (d : decode M.2.1 pc = .ok (.return_, 1) ∧ pc + 1 = pc') (hr : M.2.2.2 = none) (hx : X none σ) : PWt G M fr X q b pc ls [] σ :=
  fun p l e R s m args below meth c Z A H0 hc hg H la locs hP hD hS hl => hc.2.2.2.2.2.2.2.2.2 _ _ _ _ _ _ hx hP hD hS (Or.inr (Or.inr ⟨d.1, rfl, hr⟩))
end PWTR
