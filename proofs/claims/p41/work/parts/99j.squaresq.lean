/-! ===== BEGIN new T[n][m]: the outer array a place, the inner ones among the pooled ===== -/
/-- f, but v at every address of l -/
def vr_up {α : Type} (f : Nat → α) (l : List Nat) (v : α) : Nat → α := fun a => if a ∈ l then v else f a
theorem vr_up_in {α : Type} {f : Nat → α} {l : List Nat} {v : α} {a : Nat} (h : a ∈ l) : vr_up f l v a = v := if_pos h
theorem vr_up_ne {α : Type} {f : Nat → α} {l : List Nat} {v : α} {a : Nat} (h : a ∉ l) : vr_up f l v a = f a := if_neg h
theorem vr_rows {L l : List Nat} {f : Nat → va_E} {e : va_E} (h : ∀ a, a ∈ l → a ∉ L) : va_pl L f ++ l.map (fun a => (a, e)) = va_pl (L ++ l) (vr_up f l e) := by
  unfold va_pl
  rw [List.map_append]
  congr 1
  · apply List.map_congr_left
    intro a ha
    rw [vr_up_ne (fun q => h a q ha)]
  · apply List.map_congr_left
    intro a ha
    rw [vr_up_in ha]
theorem vr_lay {X rows : va_W} {x : Nat × va_E} {pl : va_W} {D : va_G} {cl : List vw_C} {H : Heap} (hP : va_P D cl (((X ++ pl) ++ [x]) ++ rows) H) : va_P D cl ((X ++ [x]) ++ (pl ++ rows)) H := by
  rw [List.append_assoc (X ++ pl)] at hP
  have h := va_P.swap hP
  rw [← List.append_assoc X] at h
  have h2 := va_P.swap h
  rw [List.append_assoc (X ++ [x])] at h2
  exact h2
theorem vr_layD {X rows : va_W} {x : Nat × va_E} {pl : va_W} {A : Nat → Prop} (hD : va_D A (((X ++ pl) ++ [x]) ++ rows)) : va_D A ((X ++ [x]) ++ (pl ++ rows)) := by
  rw [List.append_assoc (X ++ pl)] at hD
  have h := va_D.swap hD
  rw [← List.append_assoc X] at h
  have h2 := va_D.swap h
  rw [List.append_assoc (X ++ [x])] at h2
  exact h2
theorem vr_outer (c : ClassId) (N h0 : Nat) : ∀ i : Nat, Jvm.Free.Multi.outerC c N h0 i = arrV c N (fun j => va_rf (if j < i then some (h0 + 1 + j) else none))
  | 0 => by
    show ({ cls := c, slots := Array.replicate N .null, vm := .none } : Cell) = _
    rw [arrV_new]
    refine congrArg (arrV c N) (funext fun j => ?_)
    simp [va_rf]
  | i + 1 => by
    show (Jvm.Free.Multi.outerC c N h0 i).setSlot i (.ref (h0 + 1 + i)) = _
    rw [vr_outer c N h0 i, arrV_store]
    refine congrArg (arrV c N) (funext fun j => ?_)
    by_cases e : j = i
    · subst e
      simp [updV, va_rf]
    · by_cases h : j < i
      · simp [updV, e, h, Nat.lt_succ_of_lt h]
      · simp [updV, e, h, show ¬ j < i + 1 by omega]
section VGM
variable {p : Program} {l : Launch} {e : Env} {R : Room} {s : State} {m : MethodId} {args : Array Value} {below : List Frame} {meth : Method} {c : Code} {H : Heap} {locs : List Loc} {cells slots : Nat} {Q : State → Prop}
variable {cc : ByteArray} {pc : Nat} {ls : Array Slot} {rest : List Value} {D : va_G} {cl : List vw_C} {A : Nat → Prop} {a : Nat} {tys : List (ClassId × FieldType)} {ws : va_W} {H0 : Heap}
theorem va_mna {X : va_W} {L : List Nat} {f : Nat → va_E} {cc : ByteArray} (hexec : p.tables.exec = Jvm.exec) (hb : c.code = cc) {own : String} {index : Nat} {ty : FieldType} {cy : ClassId} (hown : s.vm.findClass own = some m.cls) (hclink : (Cond.classLink own index ("[" ++ (FieldType.array ty).toString)).before args s = true) (hover : (Cond.arrayOver (.array ty)).before args s = true) (harr : (Cond.arrayClass ty).before args s = true) (hcy : s.vm.findClass (FieldType.array ty).toString = some cy)
    (hK : va_K D cl tys s) (hP : va_P D cl (X ++ va_pl L f) H) (hD : va_D A (X ++ va_pl L f)) (hS : va_S A H0 H locs) (hA : ∀ q, H0.size ≤ q → A q) {n k : Int32} {N' K' : Nat} {z : vp_A} (hn : ¬ n < 0) (hk : ¬ k < 0) (hN : n.toNatClampNeg = N') (hM : k.toNatClampNeg = K')
    (hb1 : N' * 4 ≤ 536870912) (hb2 : K' * componentBytes ty ≤ 536870912) (hb3 : K' ≤ 536870912) (hdf : fits ty (defaultValue ty) = true) (hdd : (defaultValue ty).isDefault = true) (hcells : cells + (1 + N') ≤ R.cells) (hslots : slots + (N' + N' * K') ≤ R.slots) (hz : ∀ c : ClassId, Jvm.Free.Multi.innerC c K' (defaultValue ty) = vp_cell c z) (hdg : decode cc pc = .ok (.multianewarray index 2, 4))
    (kk : ∀ (q : Nat) (r : Nat → Nat) (cA : ClassId) (H1 : Heap), (∀ i j : Nat, i < N' → j < N' → r i = r j → i = j) → (∀ i : Nat, i < N' → r i ∉ L) → va_K D cl (tys ++ [(cA, .array ty)]) s →
      va_P D cl ((X ++ [(q, .inl (cA, N', .inr (.inr (.inr (.inr (fun i => if i < N' then some (r i) else none))))))]) ++ va_pl (L ++ (List.range N').map r) (vr_up f ((List.range N').map r) (.inl (cy, z)))) H1 → va_D A ((X ++ [(q, .inl (cA, N', .inr (.inr (.inr (.inr (fun i => if i < N' then some (r i) else none))))))]) ++ va_pl (L ++ (List.range N').map r) (vr_up f ((List.range N').map r) (.inl (cy, z)))) → va_S A H0 H1 locs →
      W p l e R s m args below meth c H1 locs (cells + 1 + N') (slots + N' + N' * K') Q (F0 m (pc + 4) ls (.ref q :: rest))) : W p l e R s m args below meth c H locs cells slots Q (F0 m pc ls (.int k :: .int n :: rest)) := by
  subst hN
  subst hM
  intro T hT Xs
  obtain ⟨vm₁, cA, comp, -, fA, fC, hO, -, X', step⟩ := Xs.multianewarray2F hexec hown hclink hover harr (g := F0 m pc ls (.int k :: .int n :: rest)) rfl (by rw [hb]; exact hdg) rfl hn hk hb1 hb2 hb3 hdf hdd hcells hslots
  have ec : some cy = some comp := hcy.symm.trans fC
  cases ec
  generalize hF : Jvm.Free.Multi.fill (T.setVm vm₁) cA cy n.toNatClampNeg k.toNatClampNeg (defaultValue ty) n.toNatClampNeg = F at X' step
  have hTh : (T.setVm vm₁).heap = H := hT
  obtain ⟨f1, f2, -, -⟩ := Jvm.Free.Multi.fill_facts (T.setVm vm₁) cA cy n.toNatClampNeg k.toNatClampNeg (defaultValue ty) n.toNatClampNeg
  rw [hF, hTh] at f1 f2
  have hold : ∀ x : Nat, x < H.size → F.heap[x]? = H[x]? := fun x hx => by
    have := Jvm.Free.Multi.fill_old (T.setVm vm₁) cA cy n.toNatClampNeg k.toNatClampNeg (defaultValue ty) (a := x) (by rw [hTh]; exact hx) n.toNatClampNeg
    rw [hF, hTh] at this
    exact this
  have hrow : ∀ j : Nat, j < n.toNatClampNeg → F.heap[H.size + 1 + j]? = some (vp_cell cy z) := fun j hj => by
    have := Jvm.Free.Multi.fill_inner (T.setVm vm₁) cA cy n.toNatClampNeg k.toNatClampNeg (defaultValue ty) n.toNatClampNeg j hj
    rw [hF, hTh, hz] at this
    exact this
  have hout : Jvm.Free.Multi.outerC cA n.toNatClampNeg H.size n.toNatClampNeg = vp_cell cA (n.toNatClampNeg, .inr (.inr (.inr (.inr (fun i => if i < n.toNatClampNeg then some (H.size + 1 + i) else none))))) := by
    rw [vp_cell_q]
    exact vr_outer cA n.toNatClampNeg H.size n.toNatClampNeg
  rw [hout] at f2
  have hlt : ∀ a, a ∈ L → a < H.size := fun a ha => by
    obtain ⟨k9, hk9⟩ := va_pl_get (X := X) (f := f) ha
    exact (hP k9 _ hk9).lt
  have hnl : ∀ i : Nat, i < n.toNatClampNeg → H.size + 1 + i ∉ L := fun i _ h => by
    have := hlt _ h
    omega
  have hnm : ∀ a, a ∈ (List.range n.toNatClampNeg).map (fun i => H.size + 1 + i) → a ∉ L := fun a ha h => by
    obtain ⟨i, -, rfl⟩ := List.mem_map.mp ha
    have := hlt _ h
    omega
  have hP0 : va_P D cl (X ++ va_pl L f) F.heap := hP.kept (fun k9 x hx => hold x.1 ((hP k9 x hx).lt))
  have hP1 : va_P D cl ((X ++ va_pl L f) ++ [(H.size, .inl (cA, n.toNatClampNeg, .inr (.inr (.inr (.inr (fun i => if i < n.toNatClampNeg then some (H.size + 1 + i) else none))))))]) F.heap := hP0.app (fun k9 x hx => by
    have h0 : k9 < 1 := (List.getElem?_eq_some_iff.mp hx).1
    rw [show k9 = 0 by omega] at hx
    cases hx
    exact f2)
  have hP2 : va_P D cl (((X ++ va_pl L f) ++ [(H.size, .inl (cA, n.toNatClampNeg, .inr (.inr (.inr (.inr (fun i => if i < n.toNatClampNeg then some (H.size + 1 + i) else none))))))]) ++ ((List.range n.toNatClampNeg).map (fun i => H.size + 1 + i)).map (fun a => (a, .inl (cy, z)))) F.heap := hP1.app (fun k9 x hx => by
    obtain ⟨a, ha, rfl⟩ := List.mem_map.mp (List.mem_of_getElem? hx)
    obtain ⟨i, hi, rfl⟩ := List.mem_map.mp ha
    exact hrow i (List.mem_range.mp hi))
  have hD2 : va_D A (((X ++ va_pl L f) ++ [(H.size, .inl (cA, n.toNatClampNeg, .inr (.inr (.inr (.inr (fun i => if i < n.toNatClampNeg then some (H.size + 1 + i) else none))))))]) ++ ((List.range n.toNatClampNeg).map (fun i => H.size + 1 + i)).map (fun a => (a, .inl (cy, z)))) := by
    have hD1 := hD.push (e := .inl (cA, n.toNatClampNeg, .inr (.inr (.inr (.inr (fun i => if i < n.toNatClampNeg then some (H.size + 1 + i) else none)))))) hP rfl (hA _ hS.1)
    generalize hW1 : (X ++ va_pl L f) ++ [(H.size, .inl (cA, n.toNatClampNeg, .inr (.inr (.inr (.inr (fun i => if i < n.toNatClampNeg then some (H.size + 1 + i) else none))))))] = W1 at hD1 hP1 ⊢
    have hle : ∀ (k9 : Nat) (x : Nat × va_E), W1[k9]? = some x → x.1 ≤ H.size := fun k9 x hx => by
      rw [← hW1] at hx
      by_cases hl : k9 < (X ++ va_pl L f).length
      · rw [List.getElem?_append_left hl] at hx
        exact Nat.le_of_lt ((hP k9 x hx).lt)
      · rw [List.getElem?_append_right (by omega)] at hx
        have h0 : k9 - (X ++ va_pl L f).length < 1 := (List.getElem?_eq_some_iff.mp hx).1
        rw [show k9 - (X ++ va_pl L f).length = 0 by omega] at hx
        cases hx
        exact Nat.le_refl _
    have hr : ∀ (k9 : Nat) (x : Nat × va_E), (((List.range n.toNatClampNeg).map (fun i => H.size + 1 + i)).map (fun a => ((a, .inl (cy, z)) : Nat × va_E)))[k9]? = some x → x.1 = H.size + 1 + k9 := fun k9 x hx => by
      rw [List.getElem?_map, List.getElem?_map] at hx
      by_cases h9 : k9 < n.toNatClampNeg
      · rw [List.getElem?_range h9] at hx
        cases hx
        rfl
      · have hn0 : (List.range n.toNatClampNeg)[k9]? = none := List.getElem?_eq_none (by rw [List.length_range]; omega)
        rw [hn0] at hx
        cases hx
    refine ⟨fun i j x y hi hj hxy => ?_, fun k9 x hx => ?_⟩
    · by_cases h1 : i < W1.length <;> by_cases h2 : j < W1.length
      · rw [List.getElem?_append_left h1] at hi
        rw [List.getElem?_append_left h2] at hj
        exact hD1.1 i j x y hi hj hxy
      · rw [List.getElem?_append_left h1] at hi
        rw [List.getElem?_append_right (by omega)] at hj
        have := hle _ _ hi
        have := hr _ _ hj
        omega
      · rw [List.getElem?_append_right (by omega)] at hi
        rw [List.getElem?_append_left h2] at hj
        have := hle _ _ hj
        have := hr _ _ hi
        omega
      · rw [List.getElem?_append_right (by omega)] at hi hj
        have := hr _ _ hi
        have := hr _ _ hj
        omega
    · by_cases h1 : k9 < W1.length
      · rw [List.getElem?_append_left h1] at hx
        exact hD1.2 k9 x hx
      · rw [List.getElem?_append_right (by omega)] at hx
        have := hr _ _ hx
        exact hA _ (by have := hS.1; omega)
  have hAr : ArrOfT s cA (.array ty) := fun N9 z9 => by
    obtain ⟨-, k9, hk9, cm9, hkk9⟩ := (hO 0 0 0).1
    exact ⟨(fun q hq => by cases hq), k9, hk9, cm9, hkk9⟩
  have hK2 : va_K D cl (tys ++ [(cA, .array ty)]) s := ⟨hK.1, fun k9 x hx => by
    by_cases hl : k9 < tys.length
    · rw [List.getElem?_append_left hl] at hx
      exact hK.2 k9 x hx
    · rw [List.getElem?_append_right (by omega)] at hx
      have h0 : k9 - tys.length < 1 := (List.getElem?_eq_some_iff.mp hx).1
      rw [show k9 - tys.length = 0 by omega] at hx
      cases hx
      exact ⟨hAr, fA⟩⟩
  obtain ⟨t, a1, b1⟩ := kk H.size (fun i => H.size + 1 + i) cA F.heap (fun i j _ _ h => by have h9 : H.size + 1 + i = H.size + 1 + j := h; omega) hnl hK2 (by rw [← vr_rows hnm]; exact vr_lay hP2) (by rw [← vr_rows hnm]; exact vr_layD hD2) ⟨by rw [f1]; have := hS.1; omega, fun x h1 h2 => (hold x (Nat.lt_of_lt_of_le h1 hS.1)).trans (hS.2.1 x h1 h2), hS.2.2⟩ F rfl X'
  refine ⟨t, step t ?_, b1⟩
  have e : T.heap.size = H.size := by rw [hT]
  rw [e]
  exact a1
end VGM
section SQa
variable {v : xEv} {D : va_G} {cs : Nat → ClassId} {M M' : zMi} {fr mc ms fr' mc' ms' : Nat} {X X' : xX} {pc pc' pc1 pc2 : Nat} {ls : List (Option Value)} {st st0 : List Value} {ws wc wr : va_W} {cells slots : Nat} {x y z : Int}
/-- new int[N][K] -/
theorem QW_mna {idx N K : Nat} (d : decode M.2.1 pc = .ok (.multianewarray idx 2, 4) ∧ pc + 4 = pc') (lk : Cond.classLink M.1.cls idx ("[" ++ (FieldType.array .int).toString) ∈ zU) (har : Cond.arrayClass .int ∈ zU) (hx : x = (N : Int)) (hy : y = (K : Int)) (hN : N ≤ 60000 ∧ K ≤ 60000) (hcm : cells + (1 + N) ≤ mc ∧ slots + (N + N * K) ≤ ms)
    (k : ∀ (q : Nat) (r : Nat → Nat), QW v D cs M fr mc ms X pc' ls (.ref q :: st) (ws ++ ((q, .inl (cs 2, (N, .inr (.inr (.inr (.inr (fun k => if k < N then some (r k) else none))))))) :: (List.range N).map (fun j => (r j, Sum.inl (cs 0, zarr 0 K (fun _ => 0)))))) (cells + 1 + N) (slots + N + N * K)) : QW v D cs M fr mc ms X pc ls (iZ y :: iZ x :: st) ws cells slots := by
  obtain ⟨d, rfl⟩ := d
  subst hx
  subst hy
  intro p l e R s m args below meth c Z A H0 hc H la locs hP hD hS hl
  obtain ⟨hx, hb, hml, hown, hts, hK, ⟨hR1, hR2, hR3⟩, hRl, ⟨hA, rfl, hE⟩, ⟨hnm, hN'⟩, hret⟩ := id hc
  have e0 : ws ++ va_pl [] (fun _ => Sum.inl (cs 0, zarr 0 0 (fun _ => 0))) = ws := List.append_nil _
  refine va_mna (X := ws) (L := []) (f := fun _ => Sum.inl (cs 0, zarr 0 0 (fun _ => 0))) (z := zarr 0 K (fun _ => 0)) (N' := N) (K' := K) hx hb hown (hts _ lk) (xAO.use hN'.2.1) (hts _ har) (hK.2 0 _ rfl).2 hK (by rw [e0]; exact hP) (by rw [e0]; exact hD) hS hA (by rw [zlt0 (by omega)]; omega) (by rw [zlt0 (by omega)]; omega) (by rw [zclamp (by omega)]; omega) (by rw [zclamp (by omega)]; omega) (by omega) (Nat.le_trans (Nat.mul_le_mul_right _ hN.2) (by decide)) (by omega) rfl rfl (by omega) (by omega) (fun c9 => by show _ = arrV c9 K (fun _ => .int (Int32.ofInt 0)); first | rfl | exact arrV_new _ _ _ | exact (arrV_new _ _ _).symm) d (fun q r cA H1 _ _ hK1 hP1 hD1 hS1 => ?_)
  have hcA : cA = cs 2 := by
    have h1 := (hK1.2 3 _ rfl).2
    exact Option.some.inj ((show s.vm.findClass _ = some cA from h1).symm.trans (show s.vm.findClass _ = some (cs 2) from (hK.2 2 _ rfl).2))
  subst hcA
  have ew : (ws ++ [((q, Sum.inl (cs 2, (N, .inr (.inr (.inr (.inr (fun i => if i < N then some (r i) else none))))))) : Nat × va_E)]) ++ va_pl ([] ++ (List.range N).map r) (vr_up (fun _ => Sum.inl (cs 0, zarr 0 0 (fun _ => 0))) ((List.range N).map r) (.inl (cs 0, zarr 0 K (fun _ => 0)))) = ws ++ ((q, .inl (cs 2, (N, .inr (.inr (.inr (.inr (fun k => if k < N then some (r k) else none))))))) :: (List.range N).map (fun j => (r j, Sum.inl (cs 0, zarr 0 K (fun _ => 0))))) := by
    rw [List.append_assoc]
    congr 1
    unfold va_pl
    rw [List.nil_append, List.map_map]
    show _ :: _ = _
    congr 1
    refine List.map_congr_left fun j hj => ?_
    show (r j, vr_up _ _ _ (r j)) = _
    rw [vr_up_in (List.mem_map.mpr ⟨j, hj, rfl⟩)]
  rw [ew] at hP1 hD1
  exact k q r _ _ _ _ _ _ _ _ _ _ _ _ _ hc _ _ _ hP1 hD1 hS1 hl
/-- a row of the grid; a square's value read; set -/
theorem QW_gref {qa n k : Nat} {ra : Nat → Nat} {g : Nat → Nat → Int} (d : decode M.2.1 pc = .ok (.aaload, 1) ∧ pc + 1 = pc') (hk : k < n) (hn : n ≤ 100) (q : QW v D cs M fr mc ms X pc' ls (.ref (ra k) :: st) (xGr cs qa n ra g ++ wr) cells slots) : QW v D cs M fr mc ms X pc ls (iZ (k : Int) :: .ref qa :: st) (xGr cs qa n ra g ++ wr) cells slots :=
  QW_aald (r := ra k) d (List.mem_append_left _ xGr_top) ⟨by omega, by omega⟩ (by omega) (by rw [Int.toNat_natCast]; exact if_pos hk) q
theorem QW_gget {qa n k : Nat} {ra : Nat → Nat} {g : Nat → Nat → Int} {c : Int} (d : decode M.2.1 pc = .ok (.iaload, 1) ∧ pc + 1 = pc') (hk : k < n) (hc : 0 ≤ c ∧ c < 3) (q : QW v D cs M fr mc ms X pc' ls (iZ (g k c.toNat) :: st) (xGr cs qa n ra g ++ wr) cells slots) : QW v D cs M fr mc ms X pc ls (iZ c :: .ref (ra k) :: st) (xGr cs qa n ra g ++ wr) cells slots :=
  QW_iald d (List.mem_append_left _ (xGr_row hk)) ⟨hc.1, by omega⟩ (by decide) q
def xgU (g : Nat → Nat → Int) (k c : Nat) (z : Int) : Nat → Nat → Int := fun j => if j = k then zaU (g k) c z else g j
theorem xgU_n {g : Nat → Nat → Int} {k c j : Nat} {z : Int} (h : j ≠ k) : xgU g k c z j = g j := if_neg h
theorem xgU_s {g : Nat → Nat → Int} {k c : Nat} {z : Int} : xgU g k c z k c = z := by unfold xgU; rw [if_pos rfl, zaU_s]
theorem xgU_c {g : Nat → Nat → Int} {k c c' : Nat} {z : Int} (h : c' ≠ c) : xgU g k c z k c' = g k c' := by unfold xgU; rw [if_pos rfl, zaU_n h]
theorem QW_gset {qa n k : Nat} {ra : Nat → Nat} {g : Nat → Nat → Int} {c : Int} (d : decode M.2.1 pc = .ok (.iastore, 1) ∧ pc + 1 = pc') (hk : k < n) (hc : 0 ≤ c ∧ c < 3) (q : QW v D cs M fr mc ms X pc' ls st (xGr cs qa n ra (xgU g k c.toNat z) ++ wr) cells slots) : QW v D cs M fr mc ms X pc ls (iZ z :: iZ c :: .ref (ra k) :: st) (xGr cs qa n ra g ++ wr) cells slots := by
  obtain ⟨rest, hr⟩ := xGr_split (cs := cs) (qa := qa) (ra := ra) (g := g) hk
  have h1 := hr g (fun _ _ => rfl)
  have h2 := hr (xgU g k c.toNat z) (fun j hj => xgU_n hj)
  have e : xRow cs ra (xgU g k c.toNat z) k = (ra k, .inl (cs 0, zarr 0 3 (zaU (g k) c.toNat z))) := by
    unfold xRow xgU
    rw [if_pos rfl]
  rw [e] at h2
  refine QW_iast (f := g k) (wr := rest ++ wr) d (h1.append_right wr) ⟨hc.1, by omega⟩ (by decide) ?_
  exact QW_perm ((h2.append_right wr).symm) q
end SQa
/-- which count a sort goes to; how many at most -/
def xKind (S : Int) : Int := if S = 3 then 2 else if S = 9 then 8 else S
def xMost (K : Int) : Int := if K = 8 then 0 else if K = 2 then 6 else 7
/-- how many of the first squares count so -/
def xCntK (g : Nat → Nat → Int) (K : Int) : Nat → Nat
  | 0 => 0
  | k + 1 => xCntK g K k + if g k 0 ≠ 0 ∧ xKind (g k 0) = K then 1 else 0
theorem xCntK_congr {g g' : Nat → Nat → Int} {K : Int} : ∀ {k : Nat}, (∀ j, j < k → g' j = g j) → xCntK g' K k = xCntK g K k
  | 0, _ => rfl
  | k + 1, h => by
    unfold xCntK
    rw [xCntK_congr (fun j hj => h j (by omega)), h k (by omega)]
/-- one square as the law draws it -/
def xOne (r : Nat → Int) : Prop := (0 ≤ r 0 ∧ r 0 ≤ 7) ∧ ((r 0 = 1 ∨ r 0 = 4) → r 1 = 1 ∨ r 1 = 2 ∨ r 1 = 4 ∨ r 1 = 7) ∧ (¬ (r 0 = 1 ∨ r 0 = 4) → 0 ≤ r 1 ∧ r 1 < 2) ∧ (0 ≤ r 2 ∧ r 2 < 4)
/-- squares as the law draws them -/
def xSqs (g : Nat → Nat → Int) (n : Nat) : Prop := (∀ k, k < n → xOne (g k)) ∧ ∀ K, 0 ≤ K → K < 10 → (xCntK g K n : Int) ≤ xMost K
theorem xOne_0 : xOne (fun _ => 0) := ⟨by decide, by decide, by decide, by decide⟩
section SQb
variable {v : xEv} {D : va_G} {cs : Nat → ClassId} {X : xX}
set_option maxHeartbeats 4000000 in
/-- a square that is taken -/
theorem q_squareT {w h : Int} {qa mq n i : Nat} {ra : Nat → Nat} {g : Nat → Nat → Int} {m : Nat → Int} (hn36 : n ≤ 36) (hin : i < n) {S K Mo : Int} (hS : 0 < S ∧ S ≤ 7) (hK : 0 ≤ K ∧ K < 10)
    (k : ∀ (g' : Nat → Nat → Int), (∀ j, j ≠ i → g' j = g j) → g' i 0 = S → xOne (g' i) → QW v D cs zm_W_squares 2 40 160 X 269 [some (.ref (v.2.2.1 3)), some (iZ w), some (iZ h), some (iZ 0), some (.ref qa), some (.ref mq), some (iZ (i : Int)), some (iZ S), some (iZ K), some (iZ Mo)] [] (xGr cs qa n ra g' ++ [(mq, .inl (cs 0, zarr 0 10 (zaU m K.toNat (m K.toNat + 1))))]) (n + 2) (4 * n + 10)) : QW v D cs zm_W_squares 2 40 160 X 153 [some (.ref (v.2.2.1 3)), some (iZ w), some (iZ h), some (iZ 0), some (.ref qa), some (.ref mq), some (iZ (i : Int)), some (iZ S), some (iZ K), some (iZ Mo)] [] (xGr cs qa n ra g ++ [(mq, .inl (cs 0, zarr 0 10 m))]) (n + 2) (4 * n + 10) := by
  have fin : ∀ (g' : Nat → Nat → Int), (∀ j, j ≠ i → g' j = g j) → g' i 0 = S → ((S = 1 ∨ S = 4) → g' i 1 = 1 ∨ g' i 1 = 2 ∨ g' i 1 = 4 ∨ g' i 1 = 7) → (¬ (S = 1 ∨ S = 4) → 0 ≤ g' i 1 ∧ g' i 1 < 2) → QW v D cs zm_W_squares 2 40 160 X 250 [some (.ref (v.2.2.1 3)), some (iZ w), some (iZ h), some (iZ 0), some (.ref qa), some (.ref mq), some (iZ (i : Int)), some (iZ S), some (iZ K), some (iZ Mo)] [] (xGr cs qa n ra g' ++ [(mq, .inl (cs 0, zarr 0 10 (zaU m K.toNat (m K.toNat + 1))))]) (n + 2) (4 * n + 10) := by
    intro g' h1 h2 h3 h4
    refine QW_aload zd_W_squares_250 rfl ?_
    refine QW_iload zd_W_squares_252 rfl ?_
    refine QW_gref zd_W_squares_254 hin (by omega) ?_
    refine QW_iconst zd_W_squares_255 ?_
    refine QW_aload_n zd_W_squares_256 rfl ?_
    refine QW_bipush zd_W_squares_257 (by decide) ?_
    refine QW_iconst zd_W_squares_259 ?_
    refine QW_iload zd_W_squares_260 rfl ?_
    refine QW_imul zd_W_squares_262 ?_
    refine QW_iadd zd_W_squares_263 ?_
    refine QW_iconst zd_W_squares_264 ?_
    refine QW_callS (wc := []) (wr := xGr cs qa n ra g' ++ [(mq, .inl (cs 0, zarr 0 10 (zaU m K.toNat (m K.toNat + 1))))]) (as := [.ref (v.2.2.1 3), iZ (22 + 3 * (i : Int)), iZ 4]) (mc' := 0) (ms' := 0) (X' := fun u w => ∃ r, (0 ≤ r ∧ r < 4) ∧ u = some (iZ r) ∧ w = []) zd_W_squares_265 zl_W_41 zk_W_pick_ zv_W_pick_ (fr' := 1) (by decide) rfl rfl (Nat.le_of_ble_eq_true rfl) (List.Perm.refl _) ⟨by omega, by omega⟩ (q_pickn ⟨by omega, by omega⟩ ⟨by omega, by omega⟩ (fun r h1 h2 => ⟨r, ⟨h1, h2⟩, rfl, rfl⟩)) (fun u w h => ?_)
    obtain ⟨r, hr, rfl, rfl⟩ := h
    refine QW_perm (ws' := xGr cs qa n ra g' ++ [(mq, .inl (cs 0, zarr 0 10 (zaU m K.toNat (m K.toNat + 1))))]) (List.Perm.refl _) ?_
    refine QW_gset (g := g') zd_W_squares_268 hin ⟨by decide, by decide⟩ ?_
    refine k (xgU g' i (2 : Int).toNat r) (fun j hj => (xgU_n hj).trans (h1 j hj)) ((xgU_c (by decide)).trans h2) ⟨?_, ?_, ?_, ?_⟩
    · rw [xgU_c (by decide), h2]; omega
    · rw [xgU_c (by decide), xgU_c (by decide), h2]; exact h3
    · rw [xgU_c (by decide), xgU_c (by decide), h2]; exact h4
    · rw [show xgU g' i (2 : Int).toNat r i 2 = r from xgU_s]; exact hr
  have e205 : ∀ r : Int, 0 ≤ r → (¬ (S = 1 ∨ S = 4) → r < 2) → r < 4 → QW v D cs zm_W_squares 2 40 160 X 205 [some (.ref (v.2.2.1 3)), some (iZ w), some (iZ h), some (iZ 0), some (.ref qa), some (.ref mq), some (iZ (i : Int)), some (iZ S), some (iZ K), some (iZ Mo)] [iZ r, iZ 1, .ref (ra i)] (xGr cs qa n ra (xgU g i 0 S) ++ [(mq, .inl (cs 0, zarr 0 10 (zaU m K.toNat (m K.toNat + 1))))]) (n + 2) (4 * n + 10) := by
    intro r hr0 hr2 hr4
    refine QW_gset zd_W_squares_205 hin ⟨by decide, by decide⟩ ?_
    have g20 : xgU (xgU g i 0 S) i (1 : Int).toNat r i 0 = S := (xgU_c (by decide)).trans xgU_s
    have g21 : xgU (xgU g i 0 S) i (1 : Int).toNat r i 1 = r := xgU_s
    have hne : ∀ j, j ≠ i → xgU (xgU g i 0 S) i (1 : Int).toNat r j = g j := fun j hj => (xgU_n hj).trans (xgU_n hj)
    generalize xgU (xgU g i 0 S) i (1 : Int).toNat r = g2 at g20 g21 hne ⊢
    have e249 : ∀ z : Int, (z = 1 ∨ z = 2 ∨ z = 4 ∨ z = 7) → (S = 1 ∨ S = 4) → QW v D cs zm_W_squares 2 40 160 X 249 [some (.ref (v.2.2.1 3)), some (iZ w), some (iZ h), some (iZ 0), some (.ref qa), some (.ref mq), some (iZ (i : Int)), some (iZ S), some (iZ K), some (iZ Mo)] [iZ z, iZ 1, .ref (ra i)] (xGr cs qa n ra g2 ++ [(mq, .inl (cs 0, zarr 0 10 (zaU m K.toNat (m K.toNat + 1))))]) (n + 2) (4 * n + 10) := fun z hz hS14 => by
      refine QW_gset zd_W_squares_249 hin ⟨by decide, by decide⟩ ?_
      refine fin _ (fun j hj => (xgU_n hj).trans (hne j hj)) ((xgU_c (by decide)).trans g20) (fun _ => ?_) (fun q => absurd hS14 q)
      rw [show xgU g2 i (1 : Int).toNat z i 1 = z from xgU_s]; exact hz
    have e218 : (S = 1 ∨ S = 4) → QW v D cs zm_W_squares 2 40 160 X 218 [some (.ref (v.2.2.1 3)), some (iZ w), some (iZ h), some (iZ 0), some (.ref qa), some (.ref mq), some (iZ (i : Int)), some (iZ S), some (iZ K), some (iZ Mo)] [] (xGr cs qa n ra g2 ++ [(mq, .inl (cs 0, zarr 0 10 (zaU m K.toNat (m K.toNat + 1))))]) (n + 2) (4 * n + 10) := fun hS14 => by
      by_cases q3 : r = 3
      · refine QW_aload zd_W_squares_218 rfl ?_
        refine QW_iload zd_W_squares_220 rfl ?_
        refine QW_gref zd_W_squares_222 hin (by omega) ?_
        refine QW_iconst zd_W_squares_223 ?_
        refine QW_aload zd_W_squares_224 rfl ?_
        refine QW_iload zd_W_squares_226 rfl ?_
        refine QW_gref zd_W_squares_228 hin (by omega) ?_
        refine QW_iconst zd_W_squares_229 ?_
        refine QW_gget zd_W_squares_230 hin ⟨by decide, by decide⟩ ?_
        refine QW_z (show _ = r from g21) ?_
        refine QW_iconst zd_W_squares_231 ?_
        refine QW_icmp_ne zd_W_squares_232 ⟨⟨by omega, by omega⟩, by omega, by omega⟩ (fun hz => absurd q3 hz) (fun hz => ?_)
        refine QW_bipush zd_W_squares_235 (by decide) ?_
        exact QW_goto zd_W_squares_237 (e249 7 (by omega) hS14)
      · refine QW_aload zd_W_squares_218 rfl ?_
        refine QW_iload zd_W_squares_220 rfl ?_
        refine QW_gref zd_W_squares_222 hin (by omega) ?_
        refine QW_iconst zd_W_squares_223 ?_
        refine QW_aload zd_W_squares_224 rfl ?_
        refine QW_iload zd_W_squares_226 rfl ?_
        refine QW_gref zd_W_squares_228 hin (by omega) ?_
        refine QW_iconst zd_W_squares_229 ?_
        refine QW_gget zd_W_squares_230 hin ⟨by decide, by decide⟩ ?_
        refine QW_z (show _ = r from g21) ?_
        refine QW_iconst zd_W_squares_231 ?_
        refine QW_icmp_ne zd_W_squares_232 ⟨⟨by omega, by omega⟩, by omega, by omega⟩ (fun hz => ?_) (fun hz => absurd hz q3)
        refine QW_iconst zd_W_squares_240 ?_
        refine QW_aload zd_W_squares_241 rfl ?_
        refine QW_iload zd_W_squares_243 rfl ?_
        refine QW_gref zd_W_squares_245 hin (by omega) ?_
        refine QW_iconst zd_W_squares_246 ?_
        refine QW_gget zd_W_squares_247 hin ⟨by decide, by decide⟩ ?_
        refine QW_z (show _ = r from g21) ?_
        refine QW_ishl zd_W_squares_248 ⟨by omega, by omega⟩ ?_
        refine e249 _ ?_ hS14
        rcases (show r = 0 ∨ r = 1 ∨ r = 2 by omega) with rfl | rfl | rfl
        · exact Or.inl rfl
        · exact Or.inr (Or.inl rfl)
        · exact Or.inr (Or.inr (Or.inl rfl))
    by_cases q1 : S = 1
    · refine QW_iload zd_W_squares_206 rfl ?_
      refine QW_iconst zd_W_squares_208 ?_
      exact QW_icmp_eq zd_W_squares_209 ⟨⟨by omega, by omega⟩, by omega, by omega⟩ (fun hz => e218 (Or.inl q1)) (fun hz => absurd q1 hz)
    by_cases q4 : S = 4
    · refine QW_iload zd_W_squares_206 rfl ?_
      refine QW_iconst zd_W_squares_208 ?_
      refine QW_icmp_eq zd_W_squares_209 ⟨⟨by omega, by omega⟩, by omega, by omega⟩ (fun hz => absurd hz q1) (fun hz => ?_)
      refine QW_iload zd_W_squares_212 rfl ?_
      refine QW_iconst zd_W_squares_214 ?_
      exact QW_icmp_ne zd_W_squares_215 ⟨⟨by omega, by omega⟩, by omega, by omega⟩ (fun hz => absurd q4 hz) (fun hz => e218 (Or.inr q4))
    · refine QW_iload zd_W_squares_206 rfl ?_
      refine QW_iconst zd_W_squares_208 ?_
      refine QW_icmp_eq zd_W_squares_209 ⟨⟨by omega, by omega⟩, by omega, by omega⟩ (fun hz => absurd hz q1) (fun hz => ?_)
      refine QW_iload zd_W_squares_212 rfl ?_
      refine QW_iconst zd_W_squares_214 ?_
      exact QW_icmp_ne zd_W_squares_215 ⟨⟨by omega, by omega⟩, by omega, by omega⟩ (fun hz => fin g2 hne g20 (fun q => by omega) (fun q => by rw [g21]; exact ⟨hr0, hr2 q⟩)) (fun hz => absurd hz q4)
  have e202 : ∀ c : Int, (c = 4 ∧ (S = 1 ∨ S = 4) ∨ c = 2 ∧ ¬ (S = 1 ∨ S = 4)) → QW v D cs zm_W_squares 2 40 160 X 202 [some (.ref (v.2.2.1 3)), some (iZ w), some (iZ h), some (iZ 0), some (.ref qa), some (.ref mq), some (iZ (i : Int)), some (iZ S), some (iZ K), some (iZ Mo)] [iZ c, iZ (21 + 3 * (i : Int)), .ref (v.2.2.1 3), iZ 1, .ref (ra i)] (xGr cs qa n ra (xgU g i 0 S) ++ [(mq, .inl (cs 0, zarr 0 10 (zaU m K.toNat (m K.toNat + 1))))]) (n + 2) (4 * n + 10) := by
    intro c hc
    refine QW_callS (wc := []) (wr := xGr cs qa n ra (xgU g i 0 S) ++ [(mq, .inl (cs 0, zarr 0 10 (zaU m K.toNat (m K.toNat + 1))))]) (as := [.ref (v.2.2.1 3), iZ (21 + 3 * (i : Int)), iZ c]) (mc' := 0) (ms' := 0) (X' := fun u w => ∃ r, (0 ≤ r ∧ r < c) ∧ u = some (iZ r) ∧ w = []) zd_W_squares_202 zl_W_41 zk_W_pick_ zv_W_pick_ (fr' := 1) (by decide) rfl rfl (Nat.le_of_ble_eq_true rfl) (List.Perm.refl _) ⟨by omega, by omega⟩ (q_pickn ⟨by omega, by omega⟩ ⟨by omega, by omega⟩ (fun r h1 h2 => ⟨r, ⟨h1, h2⟩, rfl, rfl⟩)) (fun u w h => ?_)
    obtain ⟨r, hr, rfl, rfl⟩ := h
    refine QW_perm (ws' := xGr cs qa n ra (xgU g i 0 S) ++ [(mq, .inl (cs 0, zarr 0 10 (zaU m K.toNat (m K.toNat + 1))))]) (List.Perm.refl _) ?_
    exact e205 r hr.1 (fun q => by omega) (by omega)
  by_cases q1 : S = 1
  · refine QW_aload zd_W_squares_153 rfl ?_
    refine QW_iload zd_W_squares_155 rfl ?_
    refine QW_dup2 zd_W_squares_157 rfl rfl ?_
    refine QW_iald (f := m) zd_W_squares_158 (List.mem_append_right _ List.mem_cons_self) ⟨by omega, by omega⟩ (by decide) ?_
    refine QW_iconst zd_W_squares_159 ?_
    refine QW_iadd zd_W_squares_160 ?_
    refine QW_iast (f := m) (wr := xGr cs qa n ra g) zd_W_squares_161 List.perm_append_comm ⟨by omega, by omega⟩ (by decide) ?_
    refine QW_perm (ws' := xGr cs qa n ra g ++ [(mq, .inl (cs 0, zarr 0 10 (zaU m K.toNat (m K.toNat + 1))))]) (List.perm_append_comm (l₁ := [(mq, Sum.inl (cs 0, zarr 0 10 (zaU m K.toNat (m K.toNat + 1))))])) ?_
    refine QW_aload zd_W_squares_162 rfl ?_
    refine QW_iload zd_W_squares_164 rfl ?_
    refine QW_gref zd_W_squares_166 hin (by omega) ?_
    refine QW_iconst zd_W_squares_167 ?_
    refine QW_iload zd_W_squares_168 rfl ?_
    refine QW_gset (g := g) zd_W_squares_170 hin ⟨by decide, by decide⟩ ?_
    rw [show (0 : Int).toNat = 0 from rfl]
    refine QW_aload zd_W_squares_171 rfl ?_
    refine QW_iload zd_W_squares_173 rfl ?_
    refine QW_gref zd_W_squares_175 hin (by omega) ?_
    refine QW_iconst zd_W_squares_176 ?_
    refine QW_aload_n zd_W_squares_177 rfl ?_
    refine QW_bipush zd_W_squares_178 (by decide) ?_
    refine QW_iconst zd_W_squares_180 ?_
    refine QW_iload zd_W_squares_181 rfl ?_
    refine QW_imul zd_W_squares_183 ?_
    refine QW_iadd zd_W_squares_184 ?_
    refine QW_iload zd_W_squares_185 rfl ?_
    refine QW_iconst zd_W_squares_187 ?_
    refine QW_icmp_eq zd_W_squares_188 ⟨⟨by omega, by omega⟩, by omega, by omega⟩ (fun hz => ?_) (fun hz => absurd q1 hz)
    refine QW_iconst zd_W_squares_197 ?_
    exact QW_goto zd_W_squares_198 (e202 4 (Or.inl ⟨rfl, Or.inl q1⟩))
  by_cases q4 : S = 4
  · refine QW_aload zd_W_squares_153 rfl ?_
    refine QW_iload zd_W_squares_155 rfl ?_
    refine QW_dup2 zd_W_squares_157 rfl rfl ?_
    refine QW_iald (f := m) zd_W_squares_158 (List.mem_append_right _ List.mem_cons_self) ⟨by omega, by omega⟩ (by decide) ?_
    refine QW_iconst zd_W_squares_159 ?_
    refine QW_iadd zd_W_squares_160 ?_
    refine QW_iast (f := m) (wr := xGr cs qa n ra g) zd_W_squares_161 List.perm_append_comm ⟨by omega, by omega⟩ (by decide) ?_
    refine QW_perm (ws' := xGr cs qa n ra g ++ [(mq, .inl (cs 0, zarr 0 10 (zaU m K.toNat (m K.toNat + 1))))]) (List.perm_append_comm (l₁ := [(mq, Sum.inl (cs 0, zarr 0 10 (zaU m K.toNat (m K.toNat + 1))))])) ?_
    refine QW_aload zd_W_squares_162 rfl ?_
    refine QW_iload zd_W_squares_164 rfl ?_
    refine QW_gref zd_W_squares_166 hin (by omega) ?_
    refine QW_iconst zd_W_squares_167 ?_
    refine QW_iload zd_W_squares_168 rfl ?_
    refine QW_gset (g := g) zd_W_squares_170 hin ⟨by decide, by decide⟩ ?_
    rw [show (0 : Int).toNat = 0 from rfl]
    refine QW_aload zd_W_squares_171 rfl ?_
    refine QW_iload zd_W_squares_173 rfl ?_
    refine QW_gref zd_W_squares_175 hin (by omega) ?_
    refine QW_iconst zd_W_squares_176 ?_
    refine QW_aload_n zd_W_squares_177 rfl ?_
    refine QW_bipush zd_W_squares_178 (by decide) ?_
    refine QW_iconst zd_W_squares_180 ?_
    refine QW_iload zd_W_squares_181 rfl ?_
    refine QW_imul zd_W_squares_183 ?_
    refine QW_iadd zd_W_squares_184 ?_
    refine QW_iload zd_W_squares_185 rfl ?_
    refine QW_iconst zd_W_squares_187 ?_
    refine QW_icmp_eq zd_W_squares_188 ⟨⟨by omega, by omega⟩, by omega, by omega⟩ (fun hz => absurd hz q1) (fun hz => ?_)
    refine QW_iload zd_W_squares_191 rfl ?_
    refine QW_iconst zd_W_squares_193 ?_
    refine QW_icmp_ne zd_W_squares_194 ⟨⟨by omega, by omega⟩, by omega, by omega⟩ (fun hz => absurd q4 hz) (fun hz => ?_)
    refine QW_iconst zd_W_squares_197 ?_
    exact QW_goto zd_W_squares_198 (e202 4 (Or.inl ⟨rfl, Or.inr q4⟩))
  · refine QW_aload zd_W_squares_153 rfl ?_
    refine QW_iload zd_W_squares_155 rfl ?_
    refine QW_dup2 zd_W_squares_157 rfl rfl ?_
    refine QW_iald (f := m) zd_W_squares_158 (List.mem_append_right _ List.mem_cons_self) ⟨by omega, by omega⟩ (by decide) ?_
    refine QW_iconst zd_W_squares_159 ?_
    refine QW_iadd zd_W_squares_160 ?_
    refine QW_iast (f := m) (wr := xGr cs qa n ra g) zd_W_squares_161 List.perm_append_comm ⟨by omega, by omega⟩ (by decide) ?_
    refine QW_perm (ws' := xGr cs qa n ra g ++ [(mq, .inl (cs 0, zarr 0 10 (zaU m K.toNat (m K.toNat + 1))))]) (List.perm_append_comm (l₁ := [(mq, Sum.inl (cs 0, zarr 0 10 (zaU m K.toNat (m K.toNat + 1))))])) ?_
    refine QW_aload zd_W_squares_162 rfl ?_
    refine QW_iload zd_W_squares_164 rfl ?_
    refine QW_gref zd_W_squares_166 hin (by omega) ?_
    refine QW_iconst zd_W_squares_167 ?_
    refine QW_iload zd_W_squares_168 rfl ?_
    refine QW_gset (g := g) zd_W_squares_170 hin ⟨by decide, by decide⟩ ?_
    rw [show (0 : Int).toNat = 0 from rfl]
    refine QW_aload zd_W_squares_171 rfl ?_
    refine QW_iload zd_W_squares_173 rfl ?_
    refine QW_gref zd_W_squares_175 hin (by omega) ?_
    refine QW_iconst zd_W_squares_176 ?_
    refine QW_aload_n zd_W_squares_177 rfl ?_
    refine QW_bipush zd_W_squares_178 (by decide) ?_
    refine QW_iconst zd_W_squares_180 ?_
    refine QW_iload zd_W_squares_181 rfl ?_
    refine QW_imul zd_W_squares_183 ?_
    refine QW_iadd zd_W_squares_184 ?_
    refine QW_iload zd_W_squares_185 rfl ?_
    refine QW_iconst zd_W_squares_187 ?_
    refine QW_icmp_eq zd_W_squares_188 ⟨⟨by omega, by omega⟩, by omega, by omega⟩ (fun hz => absurd hz q1) (fun hz => ?_)
    refine QW_iload zd_W_squares_191 rfl ?_
    refine QW_iconst zd_W_squares_193 ?_
    refine QW_icmp_ne zd_W_squares_194 ⟨⟨by omega, by omega⟩, by omega, by omega⟩ (fun hz => ?_) (fun hz => absurd hz q4)
    exact QW_iconst zd_W_squares_201 (e202 2 (Or.inr ⟨rfl, by omega⟩))
set_option maxHeartbeats 4000000 in
theorem q_squares {w h : Int} {n : Nat} (hw : 2 ≤ w ∧ w ≤ 6) (hh : 2 ≤ h ∧ h ≤ 6) (hn : (n : Int) = w * h) (hX : ∀ qa ra g, xSqs g n → X (some (.ref qa)) (xGr cs qa n ra g)) : QM v D cs zm_W_squares 2 40 160 [.ref (v.2.2.1 3), iZ w, iZ h, iZ 0] [] X := by
  refine qm_of zk_W_squares (Nat.le_of_ble_eq_true rfl) (ls := [some (.ref (v.2.2.1 3)), some (iZ w), some (iZ h), some (iZ 0), none, none, none, none, none, none]) rfl ?_
  have hn36 : n ≤ 36 := by
    have : w * h ≤ 6 * 6 := Int.mul_le_mul hw.2 hh.2 (by omega) (by omega)
    omega
  have loop : ∀ (qa mq : Nat) (ra : Nat → Nat) (d i : Nat), i + d = n → ∀ (x7 x8 x9 : Option Value) (g : Nat → Nat → Int) (m : Nat → Int), (∀ j, xOne (g j)) → (∀ j, i ≤ j → g j 0 = 0) → (∀ K : Int, 0 ≤ K → K < 10 → m K.toNat = xCntK g K i ∧ (xCntK g K i : Int) ≤ xMost K) → QW v D cs zm_W_squares 2 40 160 X 19 [some (.ref (v.2.2.1 3)), some (iZ w), some (iZ h), some (iZ 0), some (.ref qa), some (.ref mq), some (iZ (i : Int)), x7, x8, x9] [] (xGr cs qa n ra g ++ [(mq, .inl (cs 0, zarr 0 10 m))]) (n + 2) (4 * n + 10) := by
    intro qa mq ra d
    induction d with
    | zero =>
      intro i hi x7 x8 x9 g m h1 h2 h3
      obtain rfl : i = n := hi
      refine QW_iload zd_W_squares_19 rfl ?_
      refine QW_iload_n zd_W_squares_21 rfl ?_
      refine QW_iload_n zd_W_squares_22 rfl ?_
      refine QW_imul zd_W_squares_23 ?_
      refine QW_z hn.symm ?_
      refine QW_icmp_ge zd_W_squares_24 ⟨⟨by omega, by omega⟩, by omega, by omega⟩ (fun hz => ?_) (fun hz => by omega)
      refine QW_aload zd_W_squares_275 rfl ?_
      refine QW_drop (wa := xGr cs qa i ra g) (wb := [(mq, .inl (cs 0, zarr 0 10 m))]) (List.Perm.refl _) ?_
      exact QW_aret zd_W_squares_277 (Or.inr ⟨_, rfl⟩) ⟨by omega, by omega⟩ (hX qa ra g ⟨fun k _ => h1 k, fun K a b => (h3 K a b).2⟩)
    | succ d ih =>
      intro i hi x7 x8 x9 g m h1 h2 h3
      have hin : i < n := by omega
      have e269 : ∀ (x7 x8 x9 : Option Value) (g : Nat → Nat → Int) (m : Nat → Int), (∀ j, xOne (g j)) → (∀ j, i + 1 ≤ j → g j 0 = 0) → (∀ K : Int, 0 ≤ K → K < 10 → m K.toNat = xCntK g K (i + 1) ∧ (xCntK g K (i + 1) : Int) ≤ xMost K) → QW v D cs zm_W_squares 2 40 160 X 269 [some (.ref (v.2.2.1 3)), some (iZ w), some (iZ h), some (iZ 0), some (.ref qa), some (.ref mq), some (iZ (i : Int)), x7, x8, x9] [] (xGr cs qa n ra g ++ [(mq, .inl (cs 0, zarr 0 10 m))]) (n + 2) (4 * n + 10) := by
        intro x7 x8 x9 g m h1 h2 h3
        refine QW_iinc zd_W_squares_269 rfl rfl (by decide) rfl ?_
        refine QW_goto zd_W_squares_272 ?_
        have := ih (i + 1) (by omega) x7 x8 x9 g m h1 h2 h3
        rwa [Int.natCast_add] at this
      have skip : ∀ (x7 x8 x9 : Option Value), QW v D cs zm_W_squares 2 40 160 X 269 [some (.ref (v.2.2.1 3)), some (iZ w), some (iZ h), some (iZ 0), some (.ref qa), some (.ref mq), some (iZ (i : Int)), x7, x8, x9] [] (xGr cs qa n ra g ++ [(mq, .inl (cs 0, zarr 0 10 m))]) (n + 2) (4 * n + 10) := fun x7 x8 x9 => e269 x7 x8 x9 g m h1 (fun j hj => h2 j (by omega)) (fun K a b => by
        have e : xCntK g K (i + 1) = xCntK g K i := by
          show xCntK g K i + _ = _
          rw [if_neg (fun q => q.1 (h2 i (Nat.le_refl _)))]; rfl
        rw [e]; exact h3 K a b)
      have e135 : ∀ S : Int, 0 ≤ S → S ≤ 9 → QW v D cs zm_W_squares 2 40 160 X 135 [some (.ref (v.2.2.1 3)), some (iZ w), some (iZ h), some (iZ 0), some (.ref qa), some (.ref mq), some (iZ (i : Int)), some (iZ S), some (iZ (xKind S)), some (iZ (xMost (xKind S)))] [] (xGr cs qa n ra g ++ [(mq, .inl (cs 0, zarr 0 10 m))]) (n + 2) (4 * n + 10) := by
        intro S hS0 hS9
        have hK : 0 ≤ xKind S ∧ xKind S < 10 := by unfold xKind; split <;> (try split) <;> omega
        have hM : 0 ≤ xMost (xKind S) ∧ xMost (xKind S) < 10 := by unfold xMost; split <;> (try split) <;> omega
        obtain ⟨hm1, hm2⟩ := h3 (xKind S) hK.1 hK.2
        by_cases q0 : S = 0
        · refine QW_iload zd_W_squares_135 rfl ?_
          exact QW_if_eq zd_W_squares_137 (by omega) (fun hz => skip _ _ _) (fun hz => absurd q0 hz)
        by_cases qm : m (xKind S).toNat = xMost (xKind S)
        · refine QW_iload zd_W_squares_135 rfl ?_
          refine QW_if_eq zd_W_squares_137 (by omega) (fun hz => absurd hz q0) (fun hz => ?_)
          refine QW_aload zd_W_squares_140 rfl ?_
          refine QW_iload zd_W_squares_142 rfl ?_
          refine QW_iald (f := m) zd_W_squares_144 (List.mem_append_right _ List.mem_cons_self) ⟨by omega, by omega⟩ (by decide) ?_
          refine QW_iload zd_W_squares_145 rfl ?_
          refine QW_icmp_ne zd_W_squares_147 ⟨⟨by omega, by omega⟩, by omega, by omega⟩ (fun hz => absurd qm hz) (fun hz => ?_)
          exact QW_goto zd_W_squares_150 (skip _ _ _)
        · refine QW_iload zd_W_squares_135 rfl ?_
          refine QW_if_eq zd_W_squares_137 (by omega) (fun hz => absurd hz q0) (fun hz => ?_)
          refine QW_aload zd_W_squares_140 rfl ?_
          refine QW_iload zd_W_squares_142 rfl ?_
          refine QW_iald (f := m) zd_W_squares_144 (List.mem_append_right _ List.mem_cons_self) ⟨by omega, by omega⟩ (by decide) ?_
          refine QW_iload zd_W_squares_145 rfl ?_
          refine QW_icmp_ne zd_W_squares_147 ⟨⟨by omega, by omega⟩, by omega, by omega⟩ (fun hz => ?_) (fun hz => absurd hz qm)
          have hS7 : S ≤ 7 := by
            apply Int.not_lt.mp
            intro hlt
            have h8 : xKind S = 8 := by unfold xKind; split <;> (try split) <;> omega
            have hm8 : xMost (xKind S) = 0 := by rw [h8]; rfl
            omega
          refine q_squareT hn36 hin ⟨by omega, hS7⟩ hK (fun g' a1 a2 a3 => e269 _ _ _ g' _ (fun j => ?_) (fun j hj => by rw [a1 j (by omega)]; exact h2 j (by omega)) (fun K b1 b2 => ?_))
          · by_cases q : j = i
            · rw [q]; exact a3
            · rw [a1 j q]; exact h1 j
          · have e : xCntK g' K (i + 1) = xCntK g K i + if xKind S = K then 1 else 0 := by
              show xCntK g' K i + _ = _
              rw [xCntK_congr (g := g) (fun j hj => a1 j (by omega)), a2]
              congr 1
              by_cases q : xKind S = K
              · rw [if_pos q, if_pos ⟨q0, q⟩]
              · rw [if_neg q, if_neg (fun z => q z.2)]
            obtain ⟨c1, c2⟩ := h3 K b1 b2
            rw [e]
            by_cases q : xKind S = K
            · subst q
              rw [if_pos rfl, zaU_s]
              omega
            · rw [if_neg q, zaU_n (fun z => q (by omega))]
              exact ⟨c1, c2⟩
      have e133 : ∀ S : Int, 0 ≤ S → S ≤ 9 → ∀ (z : Int) (x9 : Option Value), z = xMost (xKind S) → QW v D cs zm_W_squares 2 40 160 X 133 [some (.ref (v.2.2.1 3)), some (iZ w), some (iZ h), some (iZ 0), some (.ref qa), some (.ref mq), some (iZ (i : Int)), some (iZ S), some (iZ (xKind S)), x9] [iZ z] (xGr cs qa n ra g ++ [(mq, .inl (cs 0, zarr 0 10 m))]) (n + 2) (4 * n + 10) := by
        intro S hS0 hS9 z x9 hz
        subst hz
        exact QW_istore zd_W_squares_133 rfl (by decide) rfl (e135 S hS0 hS9)
      have e101 : ∀ S : Int, 0 ≤ S → S ≤ 9 → ∀ x9 : Option Value, QW v D cs zm_W_squares 2 40 160 X 101 [some (.ref (v.2.2.1 3)), some (iZ w), some (iZ h), some (iZ 0), some (.ref qa), some (.ref mq), some (iZ (i : Int)), some (iZ S), some (iZ (xKind S)), x9] [] (xGr cs qa n ra g ++ [(mq, .inl (cs 0, zarr 0 10 m))]) (n + 2) (4 * n + 10) := by
        intro S hS0 hS9 x9
        have hK : 0 ≤ xKind S ∧ xKind S < 10 := by unfold xKind; split <;> (try split) <;> omega
        by_cases q8 : xKind S = 8
        · refine QW_iload zd_W_squares_101 rfl ?_
          refine QW_bipush zd_W_squares_103 (by decide) ?_
          refine QW_icmp_ne zd_W_squares_105 ⟨⟨by omega, by omega⟩, by omega, by omega⟩ (fun hz => absurd q8 hz) (fun hz => ?_)
          refine QW_iload_n zd_W_squares_108 rfl ?_
          refine QW_if_eq zd_W_squares_109 (by decide) (fun hz => ?_) (fun hz => absurd rfl hz)
          refine QW_iconst zd_W_squares_116 ?_
          exact QW_goto zd_W_squares_117 (e133 S hS0 hS9 0 x9 (by rw [q8]; rfl))
        by_cases q2 : xKind S = 2
        · refine QW_iload zd_W_squares_101 rfl ?_
          refine QW_bipush zd_W_squares_103 (by decide) ?_
          refine QW_icmp_ne zd_W_squares_105 ⟨⟨by omega, by omega⟩, by omega, by omega⟩ (fun hz => ?_) (fun hz => absurd hz q8)
          refine QW_iload zd_W_squares_120 rfl ?_
          refine QW_iconst zd_W_squares_122 ?_
          refine QW_icmp_ne zd_W_squares_123 ⟨⟨by omega, by omega⟩, by omega, by omega⟩ (fun hz => absurd q2 hz) (fun hz => ?_)
          refine QW_bipush zd_W_squares_126 (by decide) ?_
          exact QW_goto zd_W_squares_128 (e133 S hS0 hS9 6 x9 (by rw [q2]; rfl))
        · refine QW_iload zd_W_squares_101 rfl ?_
          refine QW_bipush zd_W_squares_103 (by decide) ?_
          refine QW_icmp_ne zd_W_squares_105 ⟨⟨by omega, by omega⟩, by omega, by omega⟩ (fun hz => ?_) (fun hz => absurd hz q8)
          refine QW_iload zd_W_squares_120 rfl ?_
          refine QW_iconst zd_W_squares_122 ?_
          refine QW_icmp_ne zd_W_squares_123 ⟨⟨by omega, by omega⟩, by omega, by omega⟩ (fun hz => ?_) (fun hz => absurd hz q2)
          exact QW_bipush zd_W_squares_131 (by decide) (e133 S hS0 hS9 7 x9 (by unfold xMost; rw [if_neg q8, if_neg q2]))
      have e99 : ∀ S : Int, 0 ≤ S → S ≤ 9 → ∀ (z : Int) (x8 x9 : Option Value), z = xKind S → QW v D cs zm_W_squares 2 40 160 X 99 [some (.ref (v.2.2.1 3)), some (iZ w), some (iZ h), some (iZ 0), some (.ref qa), some (.ref mq), some (iZ (i : Int)), some (iZ S), x8, x9] [iZ z] (xGr cs qa n ra g ++ [(mq, .inl (cs 0, zarr 0 10 m))]) (n + 2) (4 * n + 10) := by
        intro S hS0 hS9 z x8 x9 hz
        subst hz
        exact QW_istore zd_W_squares_99 rfl (by decide) rfl (e101 S hS0 hS9 x9)
      have e75 : ∀ S : Int, 0 ≤ S → S ≤ 9 → ∀ (x8 x9 : Option Value), QW v D cs zm_W_squares 2 40 160 X 75 [some (.ref (v.2.2.1 3)), some (iZ w), some (iZ h), some (iZ 0), some (.ref qa), some (.ref mq), some (iZ (i : Int)), some (iZ S), x8, x9] [] (xGr cs qa n ra g ++ [(mq, .inl (cs 0, zarr 0 10 m))]) (n + 2) (4 * n + 10) := by
        intro S hS0 hS9 x8 x9
        by_cases q3 : S = 3
        · refine QW_iload zd_W_squares_75 rfl ?_
          refine QW_iconst zd_W_squares_77 ?_
          refine QW_icmp_ne zd_W_squares_78 ⟨⟨by omega, by omega⟩, by omega, by omega⟩ (fun hz => absurd q3 hz) (fun hz => ?_)
          refine QW_iconst zd_W_squares_81 ?_
          exact QW_goto zd_W_squares_82 (e99 S hS0 hS9 2 x8 x9 (by rw [q3]; rfl))
        by_cases q9 : S = 9
        · refine QW_iload zd_W_squares_75 rfl ?_
          refine QW_iconst zd_W_squares_77 ?_
          refine QW_icmp_ne zd_W_squares_78 ⟨⟨by omega, by omega⟩, by omega, by omega⟩ (fun hz => ?_) (fun hz => absurd hz q3)
          refine QW_iload zd_W_squares_85 rfl ?_
          refine QW_bipush zd_W_squares_87 (by decide) ?_
          refine QW_icmp_ne zd_W_squares_89 ⟨⟨by omega, by omega⟩, by omega, by omega⟩ (fun hz => absurd q9 hz) (fun hz => ?_)
          refine QW_bipush zd_W_squares_92 (by decide) ?_
          exact QW_goto zd_W_squares_94 (e99 S hS0 hS9 8 x8 x9 (by rw [q9]; rfl))
        · refine QW_iload zd_W_squares_75 rfl ?_
          refine QW_iconst zd_W_squares_77 ?_
          refine QW_icmp_ne zd_W_squares_78 ⟨⟨by omega, by omega⟩, by omega, by omega⟩ (fun hz => ?_) (fun hz => absurd hz q3)
          refine QW_iload zd_W_squares_85 rfl ?_
          refine QW_bipush zd_W_squares_87 (by decide) ?_
          refine QW_icmp_ne zd_W_squares_89 ⟨⟨by omega, by omega⟩, by omega, by omega⟩ (fun hz => ?_) (fun hz => absurd hz q9)
          exact QW_iload zd_W_squares_97 rfl (e99 S hS0 hS9 S x8 x9 (by unfold xKind; rw [if_neg q3, if_neg q9]))
      have e73 : ∀ (S : Int) (x7 : Option Value), 0 ≤ S → S ≤ 9 → QW v D cs zm_W_squares 2 40 160 X 73 [some (.ref (v.2.2.1 3)), some (iZ w), some (iZ h), some (iZ 0), some (.ref qa), some (.ref mq), some (iZ (i : Int)), x7, x8, x9] [iZ S] (xGr cs qa n ra g ++ [(mq, .inl (cs 0, zarr 0 10 m))]) (n + 2) (4 * n + 10) := fun S x7 hS0 hS9 => QW_istore zd_W_squares_73 rfl (by decide) rfl (e75 S hS0 hS9 x8 x9)
      refine QW_iload zd_W_squares_19 rfl ?_
      refine QW_iload_n zd_W_squares_21 rfl ?_
      refine QW_iload_n zd_W_squares_22 rfl ?_
      refine QW_imul zd_W_squares_23 ?_
      refine QW_z hn.symm ?_
      refine QW_icmp_ge zd_W_squares_24 ⟨⟨by omega, by omega⟩, by omega, by omega⟩ (fun hz => by omega) (fun hz => ?_)
      refine QW_aload_n zd_W_squares_27 rfl ?_
      refine QW_bipush zd_W_squares_28 (by decide) ?_
      refine QW_iconst zd_W_squares_30 ?_
      refine QW_iload zd_W_squares_31 rfl ?_
      refine QW_imul zd_W_squares_33 ?_
      refine QW_iadd zd_W_squares_34 ?_
      refine QW_bipush zd_W_squares_35 (by decide) ?_
      refine QW_callS (wc := []) (wr := xGr cs qa n ra g ++ [(mq, .inl (cs 0, zarr 0 10 m))]) (as := [.ref (v.2.2.1 3), iZ (20 + 3 * (i : Int)), iZ 14]) (mc' := 0) (ms' := 0) (X' := fun u w => ∃ r, (0 ≤ r ∧ r < 14) ∧ u = some (iZ r) ∧ w = []) zd_W_squares_37 zl_W_41 zk_W_pick_ zv_W_pick_ (fr' := 1) (by decide) rfl rfl (Nat.le_of_ble_eq_true rfl) (List.Perm.refl _) ⟨by omega, by omega⟩ (q_pickn ⟨by omega, by omega⟩ ⟨by omega, by omega⟩ (fun r h1 h2 => ⟨r, ⟨h1, h2⟩, rfl, rfl⟩)) (fun u w h => ?_)
      obtain ⟨r, hr, rfl, rfl⟩ := h
      refine QW_perm (ws' := xGr cs qa n ra g ++ [(mq, .inl (cs 0, zarr 0 10 m))]) (List.Perm.refl _) ?_
      refine QW_istore zd_W_squares_40 rfl (by decide) rfl ?_
      by_cases r9 : r ≤ 9
      · refine QW_iload zd_W_squares_42 rfl ?_
        refine QW_bipush zd_W_squares_44 (by decide) ?_
        exact QW_icmp_le zd_W_squares_46 ⟨⟨by omega, by omega⟩, by omega, by omega⟩ (fun hz => e75 r hr.1 r9 x8 x9) (fun hz => by omega)
      by_cases r12 : r < 12
      · refine QW_iload zd_W_squares_42 rfl ?_
        refine QW_bipush zd_W_squares_44 (by decide) ?_
        refine QW_icmp_le zd_W_squares_46 ⟨⟨by omega, by omega⟩, by omega, by omega⟩ (fun hz => absurd hz r9) (fun hz => ?_)
        refine QW_iload zd_W_squares_49 rfl ?_
        refine QW_bipush zd_W_squares_51 (by decide) ?_
        refine QW_icmp_ge zd_W_squares_53 ⟨⟨by omega, by omega⟩, by omega, by omega⟩ (fun hz => by omega) (fun hz => ?_)
        refine QW_iconst zd_W_squares_56 ?_
        exact QW_goto zd_W_squares_57 (e73 0 _ (by decide) (by decide))
      by_cases r13 : r = 12
      · refine QW_iload zd_W_squares_42 rfl ?_
        refine QW_bipush zd_W_squares_44 (by decide) ?_
        refine QW_icmp_le zd_W_squares_46 ⟨⟨by omega, by omega⟩, by omega, by omega⟩ (fun hz => absurd hz r9) (fun hz => ?_)
        refine QW_iload zd_W_squares_49 rfl ?_
        refine QW_bipush zd_W_squares_51 (by decide) ?_
        refine QW_icmp_ge zd_W_squares_53 ⟨⟨by omega, by omega⟩, by omega, by omega⟩ (fun hz => ?_) (fun hz => by omega)
        refine QW_iload zd_W_squares_60 rfl ?_
        refine QW_bipush zd_W_squares_62 (by decide) ?_
        refine QW_icmp_ne zd_W_squares_64 ⟨⟨by omega, by omega⟩, by omega, by omega⟩ (fun hz => absurd r13 hz) (fun hz => ?_)
        refine QW_iconst zd_W_squares_67 ?_
        exact QW_goto zd_W_squares_68 (e73 1 _ (by decide) (by decide))
      · refine QW_iload zd_W_squares_42 rfl ?_
        refine QW_bipush zd_W_squares_44 (by decide) ?_
        refine QW_icmp_le zd_W_squares_46 ⟨⟨by omega, by omega⟩, by omega, by omega⟩ (fun hz => absurd hz r9) (fun hz => ?_)
        refine QW_iload zd_W_squares_49 rfl ?_
        refine QW_bipush zd_W_squares_51 (by decide) ?_
        refine QW_icmp_ge zd_W_squares_53 ⟨⟨by omega, by omega⟩, by omega, by omega⟩ (fun hz => ?_) (fun hz => by omega)
        refine QW_iload zd_W_squares_60 rfl ?_
        refine QW_bipush zd_W_squares_62 (by decide) ?_
        refine QW_icmp_ne zd_W_squares_64 ⟨⟨by omega, by omega⟩, by omega, by omega⟩ (fun hz => ?_) (fun hz => absurd hz r13)
        exact QW_bipush zd_W_squares_71 (by decide) (e73 7 _ (by decide) (by decide))
  refine QW_iload_n zd_W_squares_0 rfl ?_
  refine QW_iload_n zd_W_squares_1 rfl ?_
  refine QW_imul zd_W_squares_2 ?_
  refine QW_z hn.symm ?_
  refine QW_iconst zd_W_squares_3 ?_
  refine QW_mna (N := n) (K := 3) zd_W_squares_4 zwd_604 (zin1 64 (by decide +kernel) rfl) rfl rfl ⟨by omega, by decide⟩ ⟨by omega, by omega⟩ (fun qa ra => ?_)
  refine QW_astore zd_W_squares_8 rfl (by decide) rfl ?_
  refine QW_bipush zd_W_squares_10 (by decide) ?_
  refine QW_newa (i := 0) (N := 10) zd_W_squares_12 (by decide) rfl (zin1 64 (by decide +kernel) rfl) rfl (by decide) ⟨by omega, by omega⟩ (fun mq => ?_)
  refine QW_astore zd_W_squares_14 rfl (by decide) rfl ?_
  refine QW_iconst zd_W_squares_16 ?_
  refine QW_istore zd_W_squares_17 rfl (by decide) rfl ?_
  have := loop qa mq ra n 0 (Nat.zero_add n) none none none (fun _ _ => 0) (fun _ => 0) (fun _ => xOne_0) (fun _ _ => rfl) (fun K a b => ⟨rfl, by show (0 : Int) ≤ _; unfold xMost; split <;> (try split) <;> decide⟩)
  exact QW_widen (by omega) (by omega) this
end SQb
