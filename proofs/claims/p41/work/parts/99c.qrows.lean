/-! THE WALK over a list of cells that grows: the law's own methods, the JDK's -/
/-- what doesn't change: addresses of the constants' Strings, of their bytes; of the law's tables, Integer's digits, the script; its length, its ints -/
abbrev xEv : Type := (Nat → Nat) × (Nat → Nat) × (Nat → Nat) × Nat × (Nat → Int32)
def xTx : List (String × Nat × String) := [("BeamBoard$Tokens", 58, zOwnT), ("BeamBoardLaw", 54, "size "), ("BeamBoardLaw", 66, "lamp "), ("BeamBoardLaw", 44, "red"), ("BeamBoardLaw", 46, "green"), ("BeamBoardLaw", 48, "blue"), ("BeamBoardLaw", 50, "white"), ("BeamBoardLaw", 79, "mirror "), ("BeamBoardLaw", 81, "half "), ("BeamBoardLaw", 86, "glass "), ("BeamBoardLaw", 88, "prism"), ("BeamBoardLaw", 90, "wall"), ("BeamBoardLaw", 92, "eye e"), ("BeamBoardLaw", 94, "shutter"), ("BeamBoardLaw", 97, "vane "), ("BeamBoardLaw", 103, " when "), ("BeamBoardLaw", 105, " at "), ("BeamBoardLaw", 148, "up"), ("BeamBoardLaw", 150, "right"), ("BeamBoardLaw", 152, "down"), ("BeamBoardLaw", 154, "left"), ("BeamBoardLaw", 156, "slash"), ("BeamBoardLaw", 158, "back")]
def xLen : List Nat := [135, 5, 5, 3, 5, 4, 5, 7, 5, 6, 5, 4, 5, 7, 5, 6, 4, 2, 5, 4, 4, 5, 4]
def xByt : List (List Int32) := [zOwnB, [115, 105, 122, 101, 32], [108, 97, 109, 112, 32], [114, 101, 100], [103, 114, 101, 101, 110], [98, 108, 117, 101], [119, 104, 105, 116, 101], [109, 105, 114, 114, 111, 114, 32], [104, 97, 108, 102, 32], [103, 108, 97, 115, 115, 32], [112, 114, 105, 115, 109], [119, 97, 108, 108], [101, 121, 101, 32, 101], [115, 104, 117, 116, 116, 101, 114], [118, 97, 110, 101, 32], [32, 119, 104, 101, 110, 32], [32, 97, 116, 32], [117, 112], [114, 105, 103, 104, 116], [100, 111, 119, 110], [108, 101, 102, 116], [115, 108, 97, 115, 104], [98, 97, 99, 107]]
/-- Integer's DigitOnes -/
def xDig : List Int32 := [48, 49, 50, 51, 52, 53, 54, 55, 56, 57, 48, 49, 50, 51, 52, 53, 54, 55, 56, 57, 48, 49, 50, 51, 52, 53, 54, 55, 56, 57, 48, 49, 50, 51, 52, 53, 54, 55, 56, 57, 48, 49, 50, 51, 52, 53, 54, 55, 56, 57, 48, 49, 50, 51, 52, 53, 54, 55, 56, 57, 48, 49, 50, 51, 52, 53, 54, 55, 56, 57, 48, 49, 50, 51, 52, 53, 54, 55, 56, 57, 48, 49, 50, 51, 52, 53, 54, 55, 56, 57, 48, 49, 50, 51, 52, 53, 54, 55, 56, 57]
def xEn (v : xEv) (A : Nat → Prop) (U : State) (H : Heap) : Prop :=
  (∀ (i : Nat) (q : String × Nat × String), xTx[i]? = some q → vk_R q.1 q.2.1 q.2.2 (v.1 i) U) ∧ vk_S 23 xLen xByt v.1 v.2.1 A U H ∧
  (va_Z "java/lang/String" "COMPACT_STRINGS" "Z" (.int 1) A U H ∧ va_Zq "jdk/internal/util/Preconditions" "SIOOBE_FORMATTER" "Ljava/util/function/BiFunction;" A U H) ∧
  (va_Z "BeamBoardLaw" "WAYS" "[Ljava/lang/String;" (.ref (v.2.2.1 0)) A U H ∧ va_T (.object "java/lang/String") (v.2.2.1 0) 4 (fun j => .ref (v.1 (17 + j))) A U H) ∧
  (va_Z "BeamBoardLaw" "FORMS" "[Ljava/lang/String;" (.ref (v.2.2.1 1)) A U H ∧ va_T (.object "java/lang/String") (v.2.2.1 1) 2 (fun j => .ref (v.1 (21 + j))) A U H) ∧
  (va_Z "java/lang/Integer" "DigitOnes" "[B" (.ref (v.2.2.1 2)) A U H ∧ va_T .byte (v.2.2.1 2) 100 (fun j => .int (xDig.getD j 0)) A U H) ∧
  (va_X (v.2.2.1 3) v.2.2.2.1 v.2.2.2.2 U H ∧ v.2.2.1 3 < H.size ∧ ¬ A (v.2.2.1 3) ∧ v.2.2.2.1 ≤ 260)
theorem xEn_to {v : xEv} {A B : Nat → Prop} {s U : State} {H : Heap} (h : xEn v A s s.heap) (hz : s.heap.size ≤ H.size) (hS : ∀ a : Nat, a < s.heap.size → ¬ A a → H[a]? = s.heap[a]?) (hAB : ∀ q, B q → A q) (hW : s.WarmedH U.vm) : xEn v B U H := by
  obtain ⟨h1, h2, ⟨h3, h4⟩, ⟨h5, h6⟩, ⟨h7, h8⟩, ⟨h9, h10⟩, h11, h12, h13, h14⟩ := h
  have a := hW.alike
  exact ⟨fun i q hq => (h1 i q hq).warm hW, ((h2.kept hS).narrow hAB).moved a, ⟨((h3.kept hS).narrow hAB).moved a, ((h4.kept hS).narrow hAB).moved a⟩, ⟨((h5.kept hS).narrow hAB).moved a, ((h6.kept hS).narrow hAB).moved a⟩, ⟨((h7.kept hS).narrow hAB).moved a, ((h8.kept hS).narrow hAB).moved a⟩, ⟨((h9.kept hS).narrow hAB).moved a, ((h10.kept hS).narrow hAB).moved a⟩, (h11.kept (hS _ h12 h13)).moved a, Nat.lt_of_lt_of_le h12 hz, fun q => h13 (hAB _ q), h14⟩
theorem xEn_zStr {v : xEv} {A : Nat → Prop} {U : State} {H : Heap} (h : xEn v A U H) : zStr A U H := by
  obtain ⟨h1, h2, ⟨h3, h4⟩, -⟩ := h
  refine ⟨⟨v.1, v.2.1, h1 0 _ rfl, fun i hi => ?_, fun i j hi hj _ => by omega⟩, h3, h4⟩
  obtain rfl : i = 0 := by omega
  exact h2.1 0 (by decide)
theorem xEn_calling {v : xEv} {A : Nat → Prop} {U : State} {g : JFrame} {mk : MethodId} {a : Array Value} (h : xEn v A U U.heap) : xEn v A (U.calling g mk a) (U.calling g mk a).heap := by
  obtain ⟨h1, h2, ⟨h3, h4⟩, ⟨h5, h6⟩, ⟨h7, h8⟩, ⟨h9, h10⟩, h11, h12⟩ := h
  have r := Vm.Alike.refl U.vm
  exact ⟨fun i q hq => vk_R.same (u := U) rfl (h1 i q hq), vk_S.moved (u := U) r h2, ⟨va_Z.moved (u := U) r h3, va_Zq.moved (u := U) r h4⟩, ⟨va_Z.moved (u := U) r h5, va_T.moved (u := U) r h6⟩, ⟨va_Z.moved (u := U) r h7, va_T.moved (u := U) r h8⟩, ⟨va_Z.moved (u := U) r h9, va_T.moved (u := U) r h10⟩, va_X.moved (u := U) r h11, h12⟩
def xAO (U : State) : Prop := (Cond.arrayOver (.array .int)).before #[] U = true
theorem xAO.use {A : Array Value} {U : State} (h : xAO U) : (Cond.arrayOver (.array .int)).before A U = true := h
theorem xAO.moved {u U : State} (hvm : u.vm.Alike U.vm) (h : xAO u) : xAO U := by
  obtain ⟨comp, c, k, h1, h2, h3, h4, h5⟩ := arrayOverA_spec (show (Cond.arrayOver (.array .int)).holds #[] u none u [] = true from h)
  obtain ⟨k', hk', he⟩ := hvm.2.2 _ _ h3
  have hi : (U.vm.classes.findIdx? fun (x : Class) => match x.kind with | .array component _ => component == comp | _ => false) = some c := by
    first
      | (rw [hvm.findIdx?_eq _ (fun _ => rfl)]; exact h2)
      | (rw [← hvm.findIdx?_eq _ (fun _ => rfl)]; exact h2)
  have hkind : k'.kind = .array comp (.array .int) := by rw [he]; exact h4
  have f1 : U.vm.findClass (FieldType.array .int).toString = some comp := by rw [hvm.findClass]; exact h1
  have f2 : U.vm.findClass ("[" ++ (FieldType.array .int).toString) = some c := by rw [hvm.findClass]; exact h5
  unfold xAO Cond.before Cond.holds
  simp only [Cond.value]
  rw [f1, Option.bind_some]
  refine (congrArg (fun o : Option Nat => (o.bind (fun c => (U.vm.classes[c]?).map fun (k : Class) => match k.kind with | .array _ ty => decide (ty = FieldType.array .int) && decide (U.vm.findClass ("[" ++ (FieldType.array .int).toString) = some c) | _ => false) == some true)) hi).trans ?_
  simp [hk', hkind, f2]
/-- what of the start isn't a word that stays -/
def xSt (U : State) : Prop := zNst U ∧ xAO U ∧ va_Nw (.castable "[B" "java/lang/Cloneable") U
theorem xSt_warm {s U : State} (hW : s.WarmedH U.vm) (h : xSt s) : xSt U := ⟨zNst_warm hW h.1, h.2.1.moved hW.alike, va_Nw.warmC hW h.2.2⟩
theorem xSt_calling {U : State} {g : JFrame} {mk : MethodId} {a : Array Value} (h : xSt U) : xSt (U.calling g mk a) := ⟨zNst_calling h.1, xAO.moved (u := U) (Vm.Alike.refl U.vm) h.2.1, va_Nw.same (u := U) rfl rfl h.2.2⟩
abbrev xX : Type := Option Value → va_W → Prop
def xNt (cs : Nat → ClassId) : List (ClassId × FieldType) := [(cs 0, .int), (cs 1, .byte), (cs 2, .array .int)]
/-- a method's end -/
def xRet (cc : ByteArray) (ret : Option FieldType) (pc : Nat) (u : Option Value) : Prop :=
  (decode cc pc = .ok (.ireturn, 1) ∧ ∃ (z : Int) (ty : FieldType), u = some (iZ z) ∧ ret = some ty ∧ narrow ty (iZ z) = iZ z) ∨ (decode cc pc = .ok (.areturn, 1) ∧ ∃ (q : Nat), u = some (.ref q) ∧ ((∃ C, ret = some (.object C)) ∨ ∃ t, ret = some (.array t))) ∨ (decode cc pc = .ok (.return_, 1) ∧ u = none ∧ ret = none)
def QC (v : xEv) (D : va_G) (cs : Nat → ClassId) (M : zMi) (fr mc ms : Nat) (X : xX) (p : Program) (l : Launch) (E : Env) (R : Room) (s : State) (m : MethodId) (args : Array Value) (below : List Frame) (meth : Method) (c : Code) (Z : State → Prop) (A : Nat → Prop) (H0 : Heap) : Prop :=
  p.tables.exec = Jvm.exec ∧ c.code = M.2.1 ∧ c.maxLocals = M.2.2.1 ∧ s.vm.findClass M.1.cls = some m.cls ∧ (∀ w ∈ zU, w.before args s = true) ∧ va_K D zcl (xNt cs) s ∧ (fr ≤ R.frames ∧ mc ≤ R.cells ∧ ms ≤ R.slots) ∧ 40 * fr ≤ R.locals ∧ ((∀ q, s.heap.size ≤ q → A q) ∧ H0 = s.heap ∧ xEn v A s s.heap) ∧ ((M.1.name = "<init>" → meth.name = "<init>") ∧ xSt s) ∧
  (∀ (u : Option Value) (ws : va_W) (H : Heap) (locs : List Loc) (pc : Nat) (la : Array Slot) (cells slots : Nat), X u ws → va_P D zcl ws H → va_D A ws → va_S A H0 H locs → xRet M.2.1 M.2.2.2 pc u → cells ≤ mc → slots ≤ ms → W p l E R s m args below meth c H locs cells slots Z (F0 m pc la u.toList))
/-- from pc on, with these locals, this stack, these cells, so many cells and slots made, the method comes to its end with X -/
def QW (v : xEv) (D : va_G) (cs : Nat → ClassId) (M : zMi) (fr mc ms : Nat) (X : xX) (pc : Nat) (ls : List (Option Value)) (st : List Value) (ws : va_W) (cells slots : Nat) : Prop :=
  ∀ (p : Program) (l : Launch) (E : Env) (R : Room) (s : State) (m : MethodId) (args : Array Value) (below : List Frame) (meth : Method) (c : Code) (Z : State → Prop) (A : Nat → Prop) (H0 : Heap), QC v D cs M fr mc ms X p l E R s m args below meth c Z A H0 →
    ∀ (H : Heap) (la : Array Slot) (locs : List Loc), va_P D zcl ws H → va_D A ws → va_S A H0 H locs → zHas la M.2.2.1 ls → W p l E R s m args below meth c H locs cells slots Z (F0 m pc la st)
def xB (v : xEv) (D : va_G) (cs : Nat → ClassId) (ws : va_W) (sz : Nat) (U : State) : Prop := U.heap.size = sz ∧ va_P D zcl ws U.heap ∧ va_K D zcl (xNt cs) U ∧ va_D (fun _ => True) ws ∧ xEn v (va_A ws sz) U U.heap ∧ xSt U
def xQ (D : va_G) (cs : Nat → ClassId) (X : xX) (ws : va_W) (sz : Nat) : Array Value → State → Outcome → State → Prop := fun _ st o t => (∃ (u : Option Value) (ws' : va_W), o = .returned u ∧ X u ws' ∧ va_P D zcl ws' t.heap ∧ va_K D zcl (xNt cs) t ∧ va_D (va_A ws sz) ws') ∧ va_F (va_A ws sz) st t
/-- a method's run, told by what it answers and the cells that it leaves; mc cells of ms slots are made at most -/
def QM (v : xEv) (D : va_G) (cs : Nat → ClassId) (M : zMi) (fr mc ms : Nat) (as : List Value) (ws : va_W) (X : xX) : Prop := ∀ (l : Launch) (sz : Nat), Met l M.1 (zwd M) { frames := fr, cells := mc, slots := ms, locals := 40 * fr } (va_Pc as (xB v D cs ws sz)) (xQ D cs X ws sz) mc ms (va_A ws sz)
theorem xblind {v : xEv} {D : va_G} {cs : Nat → ClassId} {ws : va_W} {sz : Nat} {as : List Value} : FrameBlind (va_Pc as (xB v D cs ws sz)) := fun a U g mk h => ⟨h.1, h.2.1, h.2.2.1, va_K.moved (u := U) (U := U.calling g mk a) (Vm.Alike.refl U.vm) h.2.2.2.1, h.2.2.2.2.1, xEn_calling h.2.2.2.2.2.1, xSt_calling h.2.2.2.2.2.2⟩
theorem qm_of {v : xEv} {D : va_G} {cs : Nat → ClassId} {M : zMi} {fr mc ms np : Nat} {as : List Value} {ws : va_W} {X : xX} {ls : List (Option Value)} (ok : zMok M np) (hlen : (lg_sl as).length ≤ M.2.2.1) (hls : zargs M.2.2.1 as = ls) (k : QW v D cs M fr mc ms X 0 ls [] ws 0 0) : QM v D cs M fr mc ms as ws X := by
  intro l sz
  refine Met.ofW (cc := M.2.1) (maxL := M.2.2.1) (ret := M.2.2.2) ok.2.2.2.2 rfl ?_
  intro p e s m args below meth c s₁ B hml hv
  obtain ⟨rfl, hsz, hP, hK, hD0, hE, hN⟩ := hv
  have hx := B.exec
  have hb := B.bytes
  have hr := B.returns
  have hts := atoms_spec (ws := zwd M) B.pre
  have hown : s.vm.findClass M.1.cls = some m.cls := findClass_of_methodNamed B.named
  have hlocks := B.notSynchronized
  have hin : meth.name = M.1.name := (name_of_methodNamed B.named B.method).1
  subst hsz
  have hD := hD0.self (sz := s.heap.size)
  have hl := lv_entry as hlen
  rw [lg_entry_eq]
  generalize (lg_sl as ++ List.replicate (M.2.2.1 - (lg_sl as).length) Slot.unset).toArray = la at hl ⊢
  refine k p l e _ s m _ below meth c _ (va_A ws s.heap.size) s.heap ⟨hx, hb, hml, hown, fun w hw => hts w (List.mem_cons_of_mem _ hw), hK, ⟨Nat.le_refl _, Nat.le_refl _, Nat.le_refl _⟩, Nat.le_refl _, ⟨fun q h => Or.inr h, rfl, hE⟩, ⟨fun e => hin.trans e, hN⟩, ?_⟩ s.heap la [] hP hD va_S.rf ⟨hl.1, hl.2.1, fun j u hj => hl.2.2 (j, u) (zargs_in (by rw [hls]; exact hj))⟩
  intro u ws' H locs pc la' cells slots hXv hP' hD' hS' hret hc hs
  have fin : ∀ t : State, t.heap = H → s.WarmedH t.vm → xQ D cs X ws s.heap.size as.toArray s (.returned u) t := fun t ht hW => ⟨⟨u, ws', rfl, hXv, by rw [ht]; exact hP', va_K.moved hW.alike hK, hD'⟩, hS'.F ht⟩
  refine W.widen hc hs ?_
  rcases hret with ⟨d, z, ty, rfl, hty, hn⟩ | ⟨d, q, rfl, hC⟩ | ⟨d, rfl, hN'⟩
  · exact W.zret hx hb (by rw [hr]; exact hty) hn fin hS'.2.2 d
  · rcases hC with ⟨C, hC⟩ | ⟨t, hC⟩
    · exact W.aret hx hb (by rw [hr]; exact hC) (Or.inl ⟨C, rfl⟩) (Or.inr ⟨q, rfl⟩) fin hS'.2.2 d
    · exact W.aret hx hb (by rw [hr]; exact hC) (Or.inr ⟨t, rfl⟩) (Or.inr ⟨q, rfl⟩) fin hS'.2.2 d
  · exact W.vret hx hb (by rw [hr]; exact hN') fin hS'.2.2 d
theorem qm_mono {v : xEv} {D : va_G} {cs : Nat → ClassId} {M : zMi} {fr mc ms : Nat} {as : List Value} {ws : va_W} {X X' : xX} (q : QM v D cs M fr mc ms as ws X) (h : ∀ (u : Option Value) (ws' : va_W), X u ws' → X' u ws') : QM v D cs M fr mc ms as ws X' := by
  intro l sz p e ha hc hk s mm args below hf happ hP hK
  obtain ⟨n, o, h1, h2, h3, ⟨⟨u, ws', ho, hx, hB⟩, hF⟩, h4⟩ := q l sz p e ha hc hk s mm args below hf happ hP hK
  exact ⟨n, o, h1, h2, h3, ⟨⟨u, ws', ho, h _ _ hx, hB⟩, hF⟩, h4⟩
/-- worlds as sets of cells -/
theorem xP_m {D : va_G} {ws : va_W} {H : Heap} : va_P D zcl ws H ↔ ∀ q ∈ ws, va_at D zcl q H := by
  constructor
  · intro h q hq
    obtain ⟨k, hk⟩ := List.getElem?_of_mem hq
    exact h k q hk
  · exact fun h k q hk => h q (List.mem_of_getElem? hk)
theorem xD_m {A : Nat → Prop} {ws : va_W} : va_D A ws ↔ (ws.map (·.1)).Nodup ∧ ∀ q ∈ ws, A q.1 := by
  unfold List.Nodup
  rw [List.pairwise_iff_getElem]
  constructor
  · rintro ⟨h1, h2⟩
    refine ⟨fun i j hi hj hij e => ?_, fun q hq => ?_⟩
    · rw [List.getElem_map, List.getElem_map] at e
      have hi' : i < ws.length := by simpa using hi
      have hj' : j < ws.length := by simpa using hj
      have := h1 i j _ _ (List.getElem?_eq_getElem hi') (List.getElem?_eq_getElem hj') e
      omega
    · obtain ⟨k, hk⟩ := List.getElem?_of_mem hq
      exact h2 k q hk
  · rintro ⟨h1, h2⟩
    refine ⟨fun i j p q hp hq e => ?_, fun k q hk => h2 q (List.mem_of_getElem? hk)⟩
    obtain ⟨hi, ei⟩ := List.getElem?_eq_some_iff.mp hp
    obtain ⟨hj, ej⟩ := List.getElem?_eq_some_iff.mp hq
    have key : ∀ i j (hi : i < ws.length) (hj : j < ws.length), i < j → ws[i].1 ≠ ws[j].1 := fun i j hi hj hij => by
      have := h1 i j (by simpa using hi) (by simpa using hj) hij
      rwa [List.getElem_map, List.getElem_map] at this
    rcases Nat.lt_trichotomy i j with h | h | h
    · exact absurd (by rw [ei, ej]; exact e) (key i j hi hj h)
    · exact h
    · exact absurd (by rw [ei, ej]; exact e.symm) (key j i hj hi h)
theorem xP_perm {D : va_G} {ws ws' : va_W} {H : Heap} (h : ws.Perm ws') : va_P D zcl ws H ↔ va_P D zcl ws' H := by
  rw [xP_m, xP_m]
  exact ⟨fun k q hq => k q (h.mem_iff.mpr hq), fun k q hq => k q (h.mem_iff.mp hq)⟩
theorem xD_perm {A : Nat → Prop} {ws ws' : va_W} (h : ws.Perm ws') : va_D A ws ↔ va_D A ws' := by
  rw [xD_m, xD_m]
  exact ⟨fun k => ⟨(h.map _).nodup_iff.mp k.1, fun q hq => k.2 q (h.mem_iff.mpr hq)⟩, fun k => ⟨(h.map _).nodup_iff.mpr k.1, fun q hq => k.2 q (h.mem_iff.mp hq)⟩⟩
theorem xP_app {D : va_G} {a b : va_W} {H : Heap} : va_P D zcl (a ++ b) H ↔ va_P D zcl a H ∧ va_P D zcl b H := by
  rw [xP_m, xP_m, xP_m]
  exact ⟨fun h => ⟨fun q hq => h q (List.mem_append_left _ hq), fun q hq => h q (List.mem_append_right _ hq)⟩, fun h q hq => (List.mem_append.mp hq).elim (h.1 q) (h.2 q)⟩
theorem xD_app {A : Nat → Prop} {a b : va_W} : va_D A (a ++ b) ↔ va_D A a ∧ va_D A b ∧ ∀ x ∈ a, ∀ y ∈ b, x.1 ≠ y.1 := by
  rw [xD_m, xD_m, xD_m, List.map_append, List.nodup_append]
  constructor
  · rintro ⟨⟨h1, h2, h3⟩, h4⟩
    exact ⟨⟨h1, fun q hq => h4 q (List.mem_append_left _ hq)⟩, ⟨h2, fun q hq => h4 q (List.mem_append_right _ hq)⟩, fun x hx y hy => h3 _ (List.mem_map_of_mem hx) _ (List.mem_map_of_mem hy)⟩
  · rintro ⟨⟨h1, h4⟩, ⟨h2, h5⟩, h3⟩
    refine ⟨⟨h1, h2, fun x hx y hy => ?_⟩, fun q hq => (List.mem_append.mp hq).elim (h4 q) (h5 q)⟩
    obtain ⟨x', hx', rfl⟩ := List.mem_map.mp hx
    obtain ⟨y', hy', rfl⟩ := List.mem_map.mp hy
    exact h3 x' hx' y' hy'
/-- a part of the world was worked on: the rest stands beside what came back -/
theorem x_join {A : Nat → Prop} {D : va_G} {wc wr w1 : va_W} {H H1 : Heap} (hP : va_P D zcl (wc ++ wr) H) (hD : va_D A (wc ++ wr)) (hA : ∀ q, H.size ≤ q → A q) (hk : ∀ q : Nat, q < H.size → ¬ va_A wc H.size q → H1[q]? = H[q]?) (hP1 : va_P D zcl w1 H1) (hD1 : va_D (va_A wc H.size) w1) : va_P D zcl (w1 ++ wr) H1 ∧ va_D A (w1 ++ wr) := by
  obtain ⟨p1, p2⟩ := xP_app.mp hP
  obtain ⟨d1, d2, d3⟩ := xD_app.mp hD
  have lt : ∀ x ∈ wr, x.1 < H.size := fun x hx => by
    obtain ⟨k, hk⟩ := List.getElem?_of_mem hx
    exact (p2 k x hk).lt
  have na : ∀ x ∈ wr, ¬ va_A wc H.size x.1 := fun x hx h => by
    rcases h with ⟨k, e, hk⟩ | h
    · exact d3 _ (List.mem_of_getElem? hk) x hx rfl
    · have := lt x hx; omega
  refine ⟨xP_app.mpr ⟨hP1, p2.kept (fun k x hx => hk x.1 ((p2 k x hx).lt) (na x (List.mem_of_getElem? hx)))⟩, xD_app.mpr ⟨hD1.weaken (fun _ q hq h => ?_), d2, fun x hx y hy e => ?_⟩⟩
  · rcases h with ⟨k, e, hk⟩ | h
    · exact (xD_m.mp d1).2 (q.1, e) (List.mem_of_getElem? hk)
    · exact hA _ h
  · have := (xD_m.mp hD1).2 x hx
    rw [e] at this
    exact na y hy this

theorem zclo_lk : Cond.methodLink zR_JA 310 ⟨"[B", "clone", "()Ljava/lang/Object;"⟩ ∈ zU := zin3 188 (by decide +kernel) rfl
theorem zclo_sm : Cond.sameMethod "[B" "java/lang/Object" "clone" "()Ljava/lang/Object;" ∈ zU := zin3 189 (by decide +kernel) rfl
theorem zclo_nt : Cond.native ⟨"java/lang/Object", "clone", "()Ljava/lang/Object;"⟩ ∈ zU := zin3 190 (by decide +kernel) rfl
theorem zclo_im : Cond.instanceMethod ⟨"java/lang/Object", "clone", "()Ljava/lang/Object;"⟩ ∈ zU := zin3 191 (by decide +kernel) rfl
theorem zclo_se : Cond.selects "[B" ⟨"[B", "clone", "()Ljava/lang/Object;"⟩ ⟨"java/lang/Object", "clone", "()Ljava/lang/Object;"⟩ ∈ zU := zin3 192 (by decide +kernel) rfl

section QWR
variable {v : xEv} {D : va_G} {cs : Nat → ClassId} {M : zMi} {fr mc ms : Nat} {X : xX} {pc pc' tgt : Nat} {ls ls2 : List (Option Value)} {st : List Value} {ws : va_W} {cells slots : Nat} {x y z : Int}
theorem QW_iconst {n : Int} (d : decode M.2.1 pc = .ok (.iconst n, 1) ∧ pc + 1 = pc') (k : QW v D cs M fr mc ms X pc' ls (iZ n :: st) ws cells slots) : QW v D cs M fr mc ms X pc ls st ws cells slots := by
  obtain ⟨d, rfl⟩ := d
  exact fun p l e R s m args below meth c Z A H0 hc H la locs hP hD hS hl => lv_iconst hc.1 hc.2.1 d rfl (k _ _ _ _ _ _ _ _ _ _ _ _ _ hc _ _ _ hP hD hS hl)
theorem QW_bipush {n : Int} (d : decode M.2.1 pc = .ok (.bipush n, 2) ∧ pc + 2 = pc') (hn : (Int8.ofInt n).toInt32 = Int32.ofInt n) (k : QW v D cs M fr mc ms X pc' ls (iZ n :: st) ws cells slots) : QW v D cs M fr mc ms X pc ls st ws cells slots := by
  obtain ⟨d, rfl⟩ := d
  exact fun p l e R s m args below meth c Z A H0 hc H la locs hP hD hS hl => lv_bipush hc.1 hc.2.1 d hn (k _ _ _ _ _ _ _ _ _ _ _ _ _ hc _ _ _ hP hD hS hl)
theorem QW_sipush {n : Int} (d : decode M.2.1 pc = .ok (.sipush n, 3) ∧ pc + 3 = pc') (hn : (Int16.ofInt n).toInt32 = Int32.ofInt n) (k : QW v D cs M fr mc ms X pc' ls (iZ n :: st) ws cells slots) : QW v D cs M fr mc ms X pc ls st ws cells slots := by
  obtain ⟨d, rfl⟩ := d
  exact fun p l e R s m args below meth c Z A H0 hc H la locs hP hD hS hl => lv_sipush hc.1 hc.2.1 d hn (k _ _ _ _ _ _ _ _ _ _ _ _ _ hc _ _ _ hP hD hS hl)
theorem QW_ldc {i : Nat} {n : Int} (d : decode M.2.1 pc = .ok (.ldc i, 2) ∧ pc + 2 = pc') (hw : Cond.constant M.1.cls i (Int32.ofInt n) ∈ zU) (k : QW v D cs M fr mc ms X pc' ls (iZ n :: st) ws cells slots) : QW v D cs M fr mc ms X pc ls st ws cells slots := by
  obtain ⟨d, rfl⟩ := d
  exact fun p l e R s m args below meth c Z A H0 hc H la locs hP hD hS hl => lv_ldc hc.1 hc.2.1 hc.2.2.2.1 (hc.2.2.2.2.1 _ hw) d (k _ _ _ _ _ _ _ _ _ _ _ _ _ hc _ _ _ hP hD hS hl)
theorem QW_iload_n {n : Fin 4} (d : decode M.2.1 pc = .ok (.iload_n n, 1) ∧ pc + 1 = pc') (h : ls[(n : Nat)]? = some (some (iZ z))) (k : QW v D cs M fr mc ms X pc' ls (iZ z :: st) ws cells slots) : QW v D cs M fr mc ms X pc ls st ws cells slots := by
  obtain ⟨d, rfl⟩ := d
  exact fun p l e R s m args below meth c Z A H0 hc H la locs hP hD hS hl => lv_iload_n hc.1 hc.2.1 d rfl (hl.2.2 _ _ h) (k _ _ _ _ _ _ _ _ _ _ _ _ _ hc _ _ _ hP hD hS hl)
theorem QW_iload {n : Nat} (d : decode M.2.1 pc = .ok (.iload n, 2) ∧ pc + 2 = pc') (h : ls[n]? = some (some (iZ z))) (k : QW v D cs M fr mc ms X pc' ls (iZ z :: st) ws cells slots) : QW v D cs M fr mc ms X pc ls st ws cells slots := by
  obtain ⟨d, rfl⟩ := d
  exact fun p l e R s m args below meth c Z A H0 hc H la locs hP hD hS hl => lv_iload hc.1 hc.2.1 d (hl.2.2 _ _ h) (k _ _ _ _ _ _ _ _ _ _ _ _ _ hc _ _ _ hP hD hS hl)
theorem QW_aload_n {n : Fin 4} {q : Nat} (d : decode M.2.1 pc = .ok (.aload_n n, 1) ∧ pc + 1 = pc') (h : ls[(n : Nat)]? = some (some (.ref q))) (k : QW v D cs M fr mc ms X pc' ls (.ref q :: st) ws cells slots) : QW v D cs M fr mc ms X pc ls st ws cells slots := by
  obtain ⟨d, rfl⟩ := d
  exact fun p l e R s m args below meth c Z A H0 hc H la locs hP hD hS hl => lv_aload_n hc.1 hc.2.1 d rfl (hl.2.2 _ _ h) (k _ _ _ _ _ _ _ _ _ _ _ _ _ hc _ _ _ hP hD hS hl)
theorem QW_aload {n : Nat} {q : Nat} (d : decode M.2.1 pc = .ok (.aload n, 2) ∧ pc + 2 = pc') (h : ls[n]? = some (some (.ref q))) (k : QW v D cs M fr mc ms X pc' ls (.ref q :: st) ws cells slots) : QW v D cs M fr mc ms X pc ls st ws cells slots := by
  obtain ⟨d, rfl⟩ := d
  exact fun p l e R s m args below meth c Z A H0 hc H la locs hP hD hS hl => lv_aload hc.1 hc.2.1 d (hl.2.2 _ _ h) (k _ _ _ _ _ _ _ _ _ _ _ _ _ hc _ _ _ hP hD hS hl)
theorem QW_istore_n {n : Fin 4} (d : decode M.2.1 pc = .ok (.istore_n n, 1) ∧ pc + 1 = pc') (ho : zok1 ls (n : Nat) = true) (hn : (n : Nat) < M.2.2.1) (h2 : ls.set (n : Nat) (some (iZ z)) = ls2) (k : QW v D cs M fr mc ms X pc' ls2 st ws cells slots) : QW v D cs M fr mc ms X pc ls (iZ z :: st) ws cells slots := by
  obtain ⟨d, rfl⟩ := d
  subst h2
  exact fun p l e R s m args below meth c Z A H0 hc H la locs hP hD hS hl => lv_istore_n hc.1 hc.2.1 d rfl (zhas_lv hl) hn rfl (fun la' h' => k _ _ _ _ _ _ _ _ _ _ _ _ _ hc _ _ _ hP hD hS (zhas_set ho h'))
theorem QW_istore {n : Nat} (d : decode M.2.1 pc = .ok (.istore n, 2) ∧ pc + 2 = pc') (ho : zok1 ls n = true) (hn : n < M.2.2.1) (h2 : ls.set n (some (iZ z)) = ls2) (k : QW v D cs M fr mc ms X pc' ls2 st ws cells slots) : QW v D cs M fr mc ms X pc ls (iZ z :: st) ws cells slots := by
  obtain ⟨d, rfl⟩ := d
  subst h2
  exact fun p l e R s m args below meth c Z A H0 hc H la locs hP hD hS hl => lv_istore hc.1 hc.2.1 d (zhas_lv hl) hn rfl (fun la' h' => k _ _ _ _ _ _ _ _ _ _ _ _ _ hc _ _ _ hP hD hS (zhas_set ho h'))
theorem QW_astore_n {n : Fin 4} {q : Nat} (d : decode M.2.1 pc = .ok (.astore_n n, 1) ∧ pc + 1 = pc') (ho : zok1 ls (n : Nat) = true) (hn : (n : Nat) < M.2.2.1) (h2 : ls.set (n : Nat) (some (.ref q)) = ls2) (k : QW v D cs M fr mc ms X pc' ls2 st ws cells slots) : QW v D cs M fr mc ms X pc ls (.ref q :: st) ws cells slots := by
  obtain ⟨d, rfl⟩ := d
  subst h2
  exact fun p l e R s m args below meth c Z A H0 hc H la locs hP hD hS hl => lv_astore_n hc.1 hc.2.1 d rfl (zhas_lv hl) hn rfl (fun la' h' => k _ _ _ _ _ _ _ _ _ _ _ _ _ hc _ _ _ hP hD hS (zhas_set ho h'))
theorem QW_astore {n : Nat} {q : Nat} (d : decode M.2.1 pc = .ok (.astore n, 2) ∧ pc + 2 = pc') (ho : zok1 ls n = true) (hn : n < M.2.2.1) (h2 : ls.set n (some (.ref q)) = ls2) (k : QW v D cs M fr mc ms X pc' ls2 st ws cells slots) : QW v D cs M fr mc ms X pc ls (.ref q :: st) ws cells slots := by
  obtain ⟨d, rfl⟩ := d
  subst h2
  exact fun p l e R s m args below meth c Z A H0 hc H la locs hP hD hS hl => lv_astore hc.1 hc.2.1 d (zhas_lv hl) hn rfl (fun la' h' => k _ _ _ _ _ _ _ _ _ _ _ _ _ hc _ _ _ hP hD hS (zhas_set ho h'))
theorem QW_iinc {i : Nat} {n : Int} (d : decode M.2.1 pc = .ok (.iinc i n, 3) ∧ pc + 3 = pc') (h : ls[i]? = some (some (iZ z))) (ho : zok1 ls i = true) (hn : i < M.2.2.1) (h2 : ls.set i (some (iZ (z + n))) = ls2) (k : QW v D cs M fr mc ms X pc' ls2 st ws cells slots) : QW v D cs M fr mc ms X pc ls st ws cells slots := by
  obtain ⟨d, rfl⟩ := d
  subst h2
  intro p l e R s m args below meth c Z A H0 hc H la locs hP hD hS hl
  obtain ⟨j, hj⟩ := List.getElem?_of_mem (zl_mem.mpr h)
  exact lv_iinc (v := Int32.ofInt (z + n)) hc.1 hc.2.1 d (zhas_lv hl) hj (Int32.ofInt_add z n).symm hn rfl (fun la' h' => k _ _ _ _ _ _ _ _ _ _ _ _ _ hc _ _ _ hP hD hS (zhas_set ho h'))
theorem QW_iadd (d : decode M.2.1 pc = .ok (.iadd, 1) ∧ pc + 1 = pc') (k : QW v D cs M fr mc ms X pc' ls (iZ (x + y) :: st) ws cells slots) : QW v D cs M fr mc ms X pc ls (iZ y :: iZ x :: st) ws cells slots := by
  obtain ⟨d, rfl⟩ := d
  have q9 := (Int32.ofInt_add x y).symm
  exact fun p l e R s m args below meth c Z A H0 hc H la locs hP hD hS hl => lv_iadd hc.1 hc.2.1 d (by rw [q9]; exact k _ _ _ _ _ _ _ _ _ _ _ _ _ hc _ _ _ hP hD hS hl)
theorem QW_isub (d : decode M.2.1 pc = .ok (.isub, 1) ∧ pc + 1 = pc') (k : QW v D cs M fr mc ms X pc' ls (iZ (x - y) :: st) ws cells slots) : QW v D cs M fr mc ms X pc ls (iZ y :: iZ x :: st) ws cells slots := by
  obtain ⟨d, rfl⟩ := d
  have q9 := (Int32.ofInt_sub x y).symm
  exact fun p l e R s m args below meth c Z A H0 hc H la locs hP hD hS hl => lv_isub hc.1 hc.2.1 d (by rw [q9]; exact k _ _ _ _ _ _ _ _ _ _ _ _ _ hc _ _ _ hP hD hS hl)
theorem QW_imul (d : decode M.2.1 pc = .ok (.imul, 1) ∧ pc + 1 = pc') (k : QW v D cs M fr mc ms X pc' ls (iZ (x * y) :: st) ws cells slots) : QW v D cs M fr mc ms X pc ls (iZ y :: iZ x :: st) ws cells slots := by
  obtain ⟨d, rfl⟩ := d
  have q9 := (Int32.ofInt_mul x y).symm
  exact fun p l e R s m args below meth c Z A H0 hc H la locs hP hD hS hl => lv_imul hc.1 hc.2.1 d (by rw [q9]; exact k _ _ _ _ _ _ _ _ _ _ _ _ _ hc _ _ _ hP hD hS hl)
theorem QW_iand (d : decode M.2.1 pc = .ok (.iand, 1) ∧ pc + 1 = pc') (h : 0 ≤ x ∧ 0 ≤ y) (k : QW v D cs M fr mc ms X pc' ls (iZ (zand x y) :: st) ws cells slots) : QW v D cs M fr mc ms X pc ls (iZ y :: iZ x :: st) ws cells slots := by
  obtain ⟨d, rfl⟩ := d
  have q9 := zandN h.1 h.2
  exact fun p l e R s m args below meth c Z A H0 hc H la locs hP hD hS hl => lv_iand hc.1 hc.2.1 d (by rw [q9]; exact k _ _ _ _ _ _ _ _ _ _ _ _ _ hc _ _ _ hP hD hS hl)
theorem QW_ior (d : decode M.2.1 pc = .ok (.ior, 1) ∧ pc + 1 = pc') (h : 0 ≤ x ∧ 0 ≤ y) (k : QW v D cs M fr mc ms X pc' ls (iZ (zor x y) :: st) ws cells slots) : QW v D cs M fr mc ms X pc ls (iZ y :: iZ x :: st) ws cells slots := by
  obtain ⟨d, rfl⟩ := d
  have q9 := zorN h.1 h.2
  exact fun p l e R s m args below meth c Z A H0 hc H la locs hP hD hS hl => lv_ior hc.1 hc.2.1 d (by rw [q9]; exact k _ _ _ _ _ _ _ _ _ _ _ _ _ hc _ _ _ hP hD hS hl)
theorem QW_ixor (d : decode M.2.1 pc = .ok (.ixor, 1) ∧ pc + 1 = pc') (h : 0 ≤ x ∧ 0 ≤ y) (k : QW v D cs M fr mc ms X pc' ls (iZ (zxor x y) :: st) ws cells slots) : QW v D cs M fr mc ms X pc ls (iZ y :: iZ x :: st) ws cells slots := by
  obtain ⟨d, rfl⟩ := d
  have q9 := zxorN h.1 h.2
  exact fun p l e R s m args below meth c Z A H0 hc H la locs hP hD hS hl => lv_ixor hc.1 hc.2.1 d (by rw [q9]; exact k _ _ _ _ _ _ _ _ _ _ _ _ _ hc _ _ _ hP hD hS hl)
theorem QW_iandG (d : decode M.2.1 pc = .ok (.iand, 1) ∧ pc + 1 = pc') (h : Int32.ofInt x &&& Int32.ofInt y = Int32.ofInt z) (k : QW v D cs M fr mc ms X pc' ls (iZ (z) :: st) ws cells slots) : QW v D cs M fr mc ms X pc ls (iZ y :: iZ x :: st) ws cells slots := by
  obtain ⟨d, rfl⟩ := d
  have q9 := h
  exact fun p l e R s m args below meth c Z A H0 hc H la locs hP hD hS hl => lv_iand hc.1 hc.2.1 d (by rw [q9]; exact k _ _ _ _ _ _ _ _ _ _ _ _ _ hc _ _ _ hP hD hS hl)
theorem QW_iorG (d : decode M.2.1 pc = .ok (.ior, 1) ∧ pc + 1 = pc') (h : Int32.ofInt x ||| Int32.ofInt y = Int32.ofInt z) (k : QW v D cs M fr mc ms X pc' ls (iZ (z) :: st) ws cells slots) : QW v D cs M fr mc ms X pc ls (iZ y :: iZ x :: st) ws cells slots := by
  obtain ⟨d, rfl⟩ := d
  have q9 := h
  exact fun p l e R s m args below meth c Z A H0 hc H la locs hP hD hS hl => lv_ior hc.1 hc.2.1 d (by rw [q9]; exact k _ _ _ _ _ _ _ _ _ _ _ _ _ hc _ _ _ hP hD hS hl)
theorem QW_ixorG (d : decode M.2.1 pc = .ok (.ixor, 1) ∧ pc + 1 = pc') (h : Int32.ofInt x ^^^ Int32.ofInt y = Int32.ofInt z) (k : QW v D cs M fr mc ms X pc' ls (iZ (z) :: st) ws cells slots) : QW v D cs M fr mc ms X pc ls (iZ y :: iZ x :: st) ws cells slots := by
  obtain ⟨d, rfl⟩ := d
  have q9 := h
  exact fun p l e R s m args below meth c Z A H0 hc H la locs hP hD hS hl => lv_ixor hc.1 hc.2.1 d (by rw [q9]; exact k _ _ _ _ _ _ _ _ _ _ _ _ _ hc _ _ _ hP hD hS hl)
theorem QW_ishl (d : decode M.2.1 pc = .ok (.ishl, 1) ∧ pc + 1 = pc') (h : 0 ≤ y ∧ y < 32) (k : QW v D cs M fr mc ms X pc' ls (iZ (x * 2 ^ y.toNat) :: st) ws cells slots) : QW v D cs M fr mc ms X pc ls (iZ y :: iZ x :: st) ws cells slots := by
  obtain ⟨d, rfl⟩ := d
  have q9 := (zshl (a := x) h)
  exact fun p l e R s m args below meth c Z A H0 hc H la locs hP hD hS hl => lv_ishl hc.1 hc.2.1 d (by rw [q9]; exact k _ _ _ _ _ _ _ _ _ _ _ _ _ hc _ _ _ hP hD hS hl)
theorem QW_ishr (d : decode M.2.1 pc = .ok (.ishr, 1) ∧ pc + 1 = pc') (h : (-2147483648 ≤ x ∧ x < 2147483648) ∧ 0 ≤ y ∧ y < 32) (k : QW v D cs M fr mc ms X pc' ls (iZ (x / 2 ^ y.toNat) :: st) ws cells slots) : QW v D cs M fr mc ms X pc ls (iZ y :: iZ x :: st) ws cells slots := by
  obtain ⟨d, rfl⟩ := d
  have q9 := (zshr (a := x) h.1 h.2)
  exact fun p l e R s m args below meth c Z A H0 hc H la locs hP hD hS hl => lv_ishr hc.1 hc.2.1 d (by rw [q9]; exact k _ _ _ _ _ _ _ _ _ _ _ _ _ hc _ _ _ hP hD hS hl)
theorem QW_ishlC (c : Int) (d : decode M.2.1 pc = .ok (.ishl, 1) ∧ pc + 1 = pc') (h : 0 ≤ y ∧ y < 32) (hc : (2 : Int) ^ y.toNat = c) (k : QW v D cs M fr mc ms X pc' ls (iZ (x * c) :: st) ws cells slots) : QW v D cs M fr mc ms X pc ls (iZ y :: iZ x :: st) ws cells slots := QW_ishl d h (hc ▸ k)
theorem QW_ishrC (c : Int) (d : decode M.2.1 pc = .ok (.ishr, 1) ∧ pc + 1 = pc') (h : (-2147483648 ≤ x ∧ x < 2147483648) ∧ 0 ≤ y ∧ y < 32) (hc : (2 : Int) ^ y.toNat = c) (k : QW v D cs M fr mc ms X pc' ls (iZ (x / c) :: st) ws cells slots) : QW v D cs M fr mc ms X pc ls (iZ y :: iZ x :: st) ws cells slots := QW_ishr d h (hc ▸ k)
theorem QW_idiv (d : decode M.2.1 pc = .ok (.idiv, 1) ∧ pc + 1 = pc') (h : (0 ≤ x ∧ x < 2147483648) ∧ 0 < y ∧ y < 2147483648) (k : QW v D cs M fr mc ms X pc' ls (iZ (x / y) :: st) ws cells slots) : QW v D cs M fr mc ms X pc ls (iZ y :: iZ x :: st) ws cells slots := by
  obtain ⟨d, rfl⟩ := d
  have q9 := zdiv h.1 h.2
  exact fun p l e R s m args below meth c Z A H0 hc H la locs hP hD hS hl => lv_idiv hc.1 hc.2.1 d (fun q => by rw [zeq0 (by omega)] at q; omega) (by rw [q9]; exact k _ _ _ _ _ _ _ _ _ _ _ _ _ hc _ _ _ hP hD hS hl)
theorem QW_irem (d : decode M.2.1 pc = .ok (.irem, 1) ∧ pc + 1 = pc') (h : (0 ≤ x ∧ x < 2147483648) ∧ 0 < y ∧ y < 2147483648) (k : QW v D cs M fr mc ms X pc' ls (iZ (x % y) :: st) ws cells slots) : QW v D cs M fr mc ms X pc ls (iZ y :: iZ x :: st) ws cells slots := by
  obtain ⟨d, rfl⟩ := d
  have q9 := zrem h.1 h.2
  exact fun p l e R s m args below meth c Z A H0 hc H la locs hP hD hS hl => lv_irem hc.1 hc.2.1 d (fun q => by rw [zeq0 (by omega)] at q; omega) (by rw [q9]; exact k _ _ _ _ _ _ _ _ _ _ _ _ _ hc _ _ _ hP hD hS hl)
theorem QW_dup {u0 : Value} (d : decode M.2.1 pc = .ok (.dup, 1) ∧ pc + 1 = pc') (hv : u0.category = 1) (k : QW v D cs M fr mc ms X pc' ls (u0 :: u0 :: st) ws cells slots) : QW v D cs M fr mc ms X pc ls (u0 :: st) ws cells slots := by
  obtain ⟨d, rfl⟩ := d
  exact fun p l e R s m args below meth c Z A H0 hc H la locs hP hD hS hl => lv_dup hc.1 hc.2.1 d hv (k _ _ _ _ _ _ _ _ _ _ _ _ _ hc _ _ _ hP hD hS hl)
theorem QW_pop {u0 : Value} (d : decode M.2.1 pc = .ok (.pop, 1) ∧ pc + 1 = pc') (hv : u0.category = 1) (k : QW v D cs M fr mc ms X pc' ls st ws cells slots) : QW v D cs M fr mc ms X pc ls (u0 :: st) ws cells slots := by
  obtain ⟨d, rfl⟩ := d
  exact fun p l e R s m args below meth c Z A H0 hc H la locs hP hD hS hl => lv_pop hc.1 hc.2.1 d hv (k _ _ _ _ _ _ _ _ _ _ _ _ _ hc _ _ _ hP hD hS hl)
theorem QW_dup2 {u0 u1 : Value} (d : decode M.2.1 pc = .ok (.dup2, 1) ∧ pc + 1 = pc') (hv : u0.category = 1) (hu : u1.category = 1) (k : QW v D cs M fr mc ms X pc' ls (u0 :: u1 :: u0 :: u1 :: st) ws cells slots) : QW v D cs M fr mc ms X pc ls (u0 :: u1 :: st) ws cells slots := by
  obtain ⟨d, rfl⟩ := d
  exact fun p l e R s m args below meth c Z A H0 hc H la locs hP hD hS hl => lv_dup2_11 hc.1 hc.2.1 d hv hu (k _ _ _ _ _ _ _ _ _ _ _ _ _ hc _ _ _ hP hD hS hl)
theorem QW_goto {off : Int} (d : decode M.2.1 pc = .ok (.goto off, 3) ∧ (pc : Int) + off = (tgt : Int) ∧ pc + 3 = pc') (k : QW v D cs M fr mc ms X tgt ls st ws cells slots) : QW v D cs M fr mc ms X pc ls st ws cells slots :=
  fun p l e R s m args below meth c Z A H0 hc H la locs hP hD hS hl => lv_goto hc.1 hc.2.1 d.1 d.2.1 (k _ _ _ _ _ _ _ _ _ _ _ _ _ hc _ _ _ hP hD hS hl)
theorem QW_icmp_eq {off : Int} (d : decode M.2.1 pc = .ok (.if_icmp .eq off, 3) ∧ (pc : Int) + off = (tgt : Int) ∧ pc + 3 = pc') (h : (-2147483648 ≤ x ∧ x < 2147483648) ∧ (-2147483648 ≤ y ∧ y < 2147483648)) (kt : x = y → QW v D cs M fr mc ms X tgt ls st ws cells slots) (kf : x ≠ y → QW v D cs M fr mc ms X pc' ls st ws cells slots) : QW v D cs M fr mc ms X pc ls (iZ y :: iZ x :: st) ws cells slots := by
  obtain ⟨d, d2, rfl⟩ := d
  exact fun p l e R s m args below meth c Z A H0 hc H la locs hP hD hS hl => lv_icmp_eq hc.1 hc.2.1 d d2 (fun q => kt (by rw [zeq h] at q; omega) _ _ _ _ _ _ _ _ _ _ _ _ _ hc _ _ _ hP hD hS hl) (fun q => kf (by rw [zeq h] at q; omega) _ _ _ _ _ _ _ _ _ _ _ _ _ hc _ _ _ hP hD hS hl)
theorem QW_icmp_ne {off : Int} (d : decode M.2.1 pc = .ok (.if_icmp .ne off, 3) ∧ (pc : Int) + off = (tgt : Int) ∧ pc + 3 = pc') (h : (-2147483648 ≤ x ∧ x < 2147483648) ∧ (-2147483648 ≤ y ∧ y < 2147483648)) (kt : x ≠ y → QW v D cs M fr mc ms X tgt ls st ws cells slots) (kf : x = y → QW v D cs M fr mc ms X pc' ls st ws cells slots) : QW v D cs M fr mc ms X pc ls (iZ y :: iZ x :: st) ws cells slots := by
  obtain ⟨d, d2, rfl⟩ := d
  exact fun p l e R s m args below meth c Z A H0 hc H la locs hP hD hS hl => lv_icmp_ne hc.1 hc.2.1 d d2 (fun q => kt (by rw [zeq h] at q; omega) _ _ _ _ _ _ _ _ _ _ _ _ _ hc _ _ _ hP hD hS hl) (fun q => kf (by rw [zeq h] at q; omega) _ _ _ _ _ _ _ _ _ _ _ _ _ hc _ _ _ hP hD hS hl)
theorem QW_icmp_lt {off : Int} (d : decode M.2.1 pc = .ok (.if_icmp .lt off, 3) ∧ (pc : Int) + off = (tgt : Int) ∧ pc + 3 = pc') (h : (-2147483648 ≤ x ∧ x < 2147483648) ∧ (-2147483648 ≤ y ∧ y < 2147483648)) (kt : x < y → QW v D cs M fr mc ms X tgt ls st ws cells slots) (kf : y ≤ x → QW v D cs M fr mc ms X pc' ls st ws cells slots) : QW v D cs M fr mc ms X pc ls (iZ y :: iZ x :: st) ws cells slots := by
  obtain ⟨d, d2, rfl⟩ := d
  exact fun p l e R s m args below meth c Z A H0 hc H la locs hP hD hS hl => lv_icmp_lt hc.1 hc.2.1 d d2 (fun q => kt (by rw [zlt h] at q; omega) _ _ _ _ _ _ _ _ _ _ _ _ _ hc _ _ _ hP hD hS hl) (fun q => kf (by rw [zlt h] at q; omega) _ _ _ _ _ _ _ _ _ _ _ _ _ hc _ _ _ hP hD hS hl)
theorem QW_icmp_ge {off : Int} (d : decode M.2.1 pc = .ok (.if_icmp .ge off, 3) ∧ (pc : Int) + off = (tgt : Int) ∧ pc + 3 = pc') (h : (-2147483648 ≤ x ∧ x < 2147483648) ∧ (-2147483648 ≤ y ∧ y < 2147483648)) (kt : y ≤ x → QW v D cs M fr mc ms X tgt ls st ws cells slots) (kf : x < y → QW v D cs M fr mc ms X pc' ls st ws cells slots) : QW v D cs M fr mc ms X pc ls (iZ y :: iZ x :: st) ws cells slots := by
  obtain ⟨d, d2, rfl⟩ := d
  exact fun p l e R s m args below meth c Z A H0 hc H la locs hP hD hS hl => lv_icmp_ge hc.1 hc.2.1 d d2 (fun q => kt (by (try rw [zle h] at q); (try rw [zle ⟨h.2, h.1⟩] at q); (try rw [zlt h] at q); (try rw [zlt ⟨h.2, h.1⟩] at q); omega) _ _ _ _ _ _ _ _ _ _ _ _ _ hc _ _ _ hP hD hS hl) (fun q => kf (by (try rw [zle h] at q); (try rw [zle ⟨h.2, h.1⟩] at q); (try rw [zlt h] at q); (try rw [zlt ⟨h.2, h.1⟩] at q); omega) _ _ _ _ _ _ _ _ _ _ _ _ _ hc _ _ _ hP hD hS hl)
theorem QW_icmp_gt {off : Int} (d : decode M.2.1 pc = .ok (.if_icmp .gt off, 3) ∧ (pc : Int) + off = (tgt : Int) ∧ pc + 3 = pc') (h : (-2147483648 ≤ x ∧ x < 2147483648) ∧ (-2147483648 ≤ y ∧ y < 2147483648)) (kt : y < x → QW v D cs M fr mc ms X tgt ls st ws cells slots) (kf : x ≤ y → QW v D cs M fr mc ms X pc' ls st ws cells slots) : QW v D cs M fr mc ms X pc ls (iZ y :: iZ x :: st) ws cells slots := by
  obtain ⟨d, d2, rfl⟩ := d
  exact fun p l e R s m args below meth c Z A H0 hc H la locs hP hD hS hl => lv_icmp_gt hc.1 hc.2.1 d d2 (fun q => kt (by (try rw [zle h] at q); (try rw [zle ⟨h.2, h.1⟩] at q); (try rw [zlt h] at q); (try rw [zlt ⟨h.2, h.1⟩] at q); omega) _ _ _ _ _ _ _ _ _ _ _ _ _ hc _ _ _ hP hD hS hl) (fun q => kf (by (try rw [zle h] at q); (try rw [zle ⟨h.2, h.1⟩] at q); (try rw [zlt h] at q); (try rw [zlt ⟨h.2, h.1⟩] at q); omega) _ _ _ _ _ _ _ _ _ _ _ _ _ hc _ _ _ hP hD hS hl)
theorem QW_icmp_le {off : Int} (d : decode M.2.1 pc = .ok (.if_icmp .le off, 3) ∧ (pc : Int) + off = (tgt : Int) ∧ pc + 3 = pc') (h : (-2147483648 ≤ x ∧ x < 2147483648) ∧ (-2147483648 ≤ y ∧ y < 2147483648)) (kt : x ≤ y → QW v D cs M fr mc ms X tgt ls st ws cells slots) (kf : y < x → QW v D cs M fr mc ms X pc' ls st ws cells slots) : QW v D cs M fr mc ms X pc ls (iZ y :: iZ x :: st) ws cells slots := by
  obtain ⟨d, d2, rfl⟩ := d
  exact fun p l e R s m args below meth c Z A H0 hc H la locs hP hD hS hl => lv_icmp_le hc.1 hc.2.1 d d2 (fun q => kt (by (try rw [zle h] at q); (try rw [zle ⟨h.2, h.1⟩] at q); (try rw [zlt h] at q); (try rw [zlt ⟨h.2, h.1⟩] at q); omega) _ _ _ _ _ _ _ _ _ _ _ _ _ hc _ _ _ hP hD hS hl) (fun q => kf (by (try rw [zle h] at q); (try rw [zle ⟨h.2, h.1⟩] at q); (try rw [zlt h] at q); (try rw [zlt ⟨h.2, h.1⟩] at q); omega) _ _ _ _ _ _ _ _ _ _ _ _ _ hc _ _ _ hP hD hS hl)
theorem QW_if_eq {off : Int} (d : decode M.2.1 pc = .ok (.ifCond .eq off, 3) ∧ (pc : Int) + off = (tgt : Int) ∧ pc + 3 = pc') (h : -2147483648 ≤ x ∧ x < 2147483648) (kt : x = 0 → QW v D cs M fr mc ms X tgt ls st ws cells slots) (kf : x ≠ 0 → QW v D cs M fr mc ms X pc' ls st ws cells slots) : QW v D cs M fr mc ms X pc ls (iZ x :: st) ws cells slots := by
  obtain ⟨d, d2, rfl⟩ := d
  exact fun p l e R s m args below meth c Z A H0 hc H la locs hP hD hS hl => lv_if_eq hc.1 hc.2.1 d d2 (fun q => kt (by rw [zeq0 h] at q; exact q) _ _ _ _ _ _ _ _ _ _ _ _ _ hc _ _ _ hP hD hS hl) (fun q => kf (by rw [zeq0 h] at q; exact q) _ _ _ _ _ _ _ _ _ _ _ _ _ hc _ _ _ hP hD hS hl)
theorem QW_if_ne {off : Int} (d : decode M.2.1 pc = .ok (.ifCond .ne off, 3) ∧ (pc : Int) + off = (tgt : Int) ∧ pc + 3 = pc') (h : -2147483648 ≤ x ∧ x < 2147483648) (kt : x ≠ 0 → QW v D cs M fr mc ms X tgt ls st ws cells slots) (kf : x = 0 → QW v D cs M fr mc ms X pc' ls st ws cells slots) : QW v D cs M fr mc ms X pc ls (iZ x :: st) ws cells slots := by
  obtain ⟨d, d2, rfl⟩ := d
  exact fun p l e R s m args below meth c Z A H0 hc H la locs hP hD hS hl => lv_if_ne hc.1 hc.2.1 d d2 (fun q => kt (by rw [zeq0 h] at q; exact q) _ _ _ _ _ _ _ _ _ _ _ _ _ hc _ _ _ hP hD hS hl) (fun q => kf (by rw [zeq0 h] at q; exact q) _ _ _ _ _ _ _ _ _ _ _ _ _ hc _ _ _ hP hD hS hl)
theorem QW_if_lt {off : Int} (d : decode M.2.1 pc = .ok (.ifCond .lt off, 3) ∧ (pc : Int) + off = (tgt : Int) ∧ pc + 3 = pc') (h : -2147483648 ≤ x ∧ x < 2147483648) (kt : x < 0 → QW v D cs M fr mc ms X tgt ls st ws cells slots) (kf : 0 ≤ x → QW v D cs M fr mc ms X pc' ls st ws cells slots) : QW v D cs M fr mc ms X pc ls (iZ x :: st) ws cells slots := by
  obtain ⟨d, d2, rfl⟩ := d
  exact fun p l e R s m args below meth c Z A H0 hc H la locs hP hD hS hl => lv_if_lt hc.1 hc.2.1 d d2 (fun q => kt (by (try rw [zlt0 h] at q); (try rw [zle0 h] at q); (try rw [show (0 : Int32) = Int32.ofInt 0 from rfl, zle (a := 0) ⟨by decide, h⟩] at q); (try rw [show (0 : Int32) = Int32.ofInt 0 from rfl, zlt (a := 0) ⟨by decide, h⟩] at q); omega) _ _ _ _ _ _ _ _ _ _ _ _ _ hc _ _ _ hP hD hS hl) (fun q => kf (by (try rw [zlt0 h] at q); (try rw [zle0 h] at q); (try rw [show (0 : Int32) = Int32.ofInt 0 from rfl, zle (a := 0) ⟨by decide, h⟩] at q); (try rw [show (0 : Int32) = Int32.ofInt 0 from rfl, zlt (a := 0) ⟨by decide, h⟩] at q); omega) _ _ _ _ _ _ _ _ _ _ _ _ _ hc _ _ _ hP hD hS hl)
theorem QW_if_ge {off : Int} (d : decode M.2.1 pc = .ok (.ifCond .ge off, 3) ∧ (pc : Int) + off = (tgt : Int) ∧ pc + 3 = pc') (h : -2147483648 ≤ x ∧ x < 2147483648) (kt : 0 ≤ x → QW v D cs M fr mc ms X tgt ls st ws cells slots) (kf : x < 0 → QW v D cs M fr mc ms X pc' ls st ws cells slots) : QW v D cs M fr mc ms X pc ls (iZ x :: st) ws cells slots := by
  obtain ⟨d, d2, rfl⟩ := d
  exact fun p l e R s m args below meth c Z A H0 hc H la locs hP hD hS hl => lv_if_ge hc.1 hc.2.1 d d2 (fun q => kt (by (try rw [zlt0 h] at q); (try rw [zle0 h] at q); (try rw [show (0 : Int32) = Int32.ofInt 0 from rfl, zle (a := 0) ⟨by decide, h⟩] at q); (try rw [show (0 : Int32) = Int32.ofInt 0 from rfl, zlt (a := 0) ⟨by decide, h⟩] at q); omega) _ _ _ _ _ _ _ _ _ _ _ _ _ hc _ _ _ hP hD hS hl) (fun q => kf (by (try rw [zlt0 h] at q); (try rw [zle0 h] at q); (try rw [show (0 : Int32) = Int32.ofInt 0 from rfl, zle (a := 0) ⟨by decide, h⟩] at q); (try rw [show (0 : Int32) = Int32.ofInt 0 from rfl, zlt (a := 0) ⟨by decide, h⟩] at q); omega) _ _ _ _ _ _ _ _ _ _ _ _ _ hc _ _ _ hP hD hS hl)
theorem QW_if_gt {off : Int} (d : decode M.2.1 pc = .ok (.ifCond .gt off, 3) ∧ (pc : Int) + off = (tgt : Int) ∧ pc + 3 = pc') (h : -2147483648 ≤ x ∧ x < 2147483648) (kt : 0 < x → QW v D cs M fr mc ms X tgt ls st ws cells slots) (kf : x ≤ 0 → QW v D cs M fr mc ms X pc' ls st ws cells slots) : QW v D cs M fr mc ms X pc ls (iZ x :: st) ws cells slots := by
  obtain ⟨d, d2, rfl⟩ := d
  exact fun p l e R s m args below meth c Z A H0 hc H la locs hP hD hS hl => lv_if_gt hc.1 hc.2.1 d d2 (fun q => kt (by (try rw [zlt0 h] at q); (try rw [zle0 h] at q); (try rw [show (0 : Int32) = Int32.ofInt 0 from rfl, zle (a := 0) ⟨by decide, h⟩] at q); (try rw [show (0 : Int32) = Int32.ofInt 0 from rfl, zlt (a := 0) ⟨by decide, h⟩] at q); omega) _ _ _ _ _ _ _ _ _ _ _ _ _ hc _ _ _ hP hD hS hl) (fun q => kf (by (try rw [zlt0 h] at q); (try rw [zle0 h] at q); (try rw [show (0 : Int32) = Int32.ofInt 0 from rfl, zle (a := 0) ⟨by decide, h⟩] at q); (try rw [show (0 : Int32) = Int32.ofInt 0 from rfl, zlt (a := 0) ⟨by decide, h⟩] at q); omega) _ _ _ _ _ _ _ _ _ _ _ _ _ hc _ _ _ hP hD hS hl)
theorem QW_if_le {off : Int} (d : decode M.2.1 pc = .ok (.ifCond .le off, 3) ∧ (pc : Int) + off = (tgt : Int) ∧ pc + 3 = pc') (h : -2147483648 ≤ x ∧ x < 2147483648) (kt : x ≤ 0 → QW v D cs M fr mc ms X tgt ls st ws cells slots) (kf : 0 < x → QW v D cs M fr mc ms X pc' ls st ws cells slots) : QW v D cs M fr mc ms X pc ls (iZ x :: st) ws cells slots := by
  obtain ⟨d, d2, rfl⟩ := d
  exact fun p l e R s m args below meth c Z A H0 hc H la locs hP hD hS hl => lv_if_le hc.1 hc.2.1 d d2 (fun q => kt (by (try rw [zlt0 h] at q); (try rw [zle0 h] at q); (try rw [show (0 : Int32) = Int32.ofInt 0 from rfl, zle (a := 0) ⟨by decide, h⟩] at q); (try rw [show (0 : Int32) = Int32.ofInt 0 from rfl, zlt (a := 0) ⟨by decide, h⟩] at q); omega) _ _ _ _ _ _ _ _ _ _ _ _ _ hc _ _ _ hP hD hS hl) (fun q => kf (by (try rw [zlt0 h] at q); (try rw [zle0 h] at q); (try rw [show (0 : Int32) = Int32.ofInt 0 from rfl, zle (a := 0) ⟨by decide, h⟩] at q); (try rw [show (0 : Int32) = Int32.ofInt 0 from rfl, zlt (a := 0) ⟨by decide, h⟩] at q); omega) _ _ _ _ _ _ _ _ _ _ _ _ _ hc _ _ _ hP hD hS hl)
theorem QW_iandm1 (d : decode M.2.1 pc = .ok (.iand, 1) ∧ pc + 1 = pc') (k : QW v D cs M fr mc ms X pc' ls (iZ (x % 2) :: st) ws cells slots) : QW v D cs M fr mc ms X pc ls (iZ 1 :: iZ x :: st) ws cells slots := QW_iandG d (zandm_1 x) k
theorem QW_iandm255 (d : decode M.2.1 pc = .ok (.iand, 1) ∧ pc + 1 = pc') (k : QW v D cs M fr mc ms X pc' ls (iZ (x % 256) :: st) ws cells slots) : QW v D cs M fr mc ms X pc ls (iZ 255 :: iZ x :: st) ws cells slots := QW_iandG d (zandm_255 x) k
theorem QW_z {x' : Int} (h : x = x') (k : QW v D cs M fr mc ms X pc ls (iZ x' :: st) ws cells slots) : QW v D cs M fr mc ms X pc ls (iZ x :: st) ws cells slots := h ▸ k
theorem QW_ineg (d : decode M.2.1 pc = .ok (.ineg, 1) ∧ pc + 1 = pc') (k : QW v D cs M fr mc ms X pc' ls (iZ (-x) :: st) ws cells slots) : QW v D cs M fr mc ms X pc ls (iZ x :: st) ws cells slots := by
  obtain ⟨d, rfl⟩ := d
  have q9 := (Int32.ofInt_neg x).symm
  exact fun p l e R s m args below meth c Z A H0 hc H la locs hP hD hS hl => lv_ineg hc.1 hc.2.1 d (by rw [q9]; exact k _ _ _ _ _ _ _ _ _ _ _ _ _ hc _ _ _ hP hD hS hl)
theorem QW_i2b (d : decode M.2.1 pc = .ok (.i2b, 1) ∧ pc + 1 = pc') (h : (Int32.ofInt x).toInt8.toInt32 = Int32.ofInt z) (k : QW v D cs M fr mc ms X pc' ls (iZ z :: st) ws cells slots) : QW v D cs M fr mc ms X pc ls (iZ x :: st) ws cells slots := by
  obtain ⟨d, rfl⟩ := d
  exact fun p l e R s m args below meth c Z A H0 hc H la locs hP hD hS hl => lv_i2b hc.1 hc.2.1 d h (k _ _ _ _ _ _ _ _ _ _ _ _ _ hc _ _ _ hP hD hS hl)
theorem QW_i2c (d : decode M.2.1 pc = .ok (.i2c, 1) ∧ pc + 1 = pc') (h : ((Int32.ofInt x).toUInt32 % 65536).toInt32 = Int32.ofInt z) (k : QW v D cs M fr mc ms X pc' ls (iZ z :: st) ws cells slots) : QW v D cs M fr mc ms X pc ls (iZ x :: st) ws cells slots := by
  obtain ⟨d, rfl⟩ := d
  exact fun p l e R s m args below meth c Z A H0 hc H la locs hP hD hS hl => lv_i2c hc.1 hc.2.1 d h (k _ _ _ _ _ _ _ _ _ _ _ _ _ hc _ _ _ hP hD hS hl)
theorem QW_dup_x1 {u1 u2 : Value} (d : decode M.2.1 pc = .ok (.dup_x1, 1) ∧ pc + 1 = pc') (h1 : u1.category = 1) (h2 : u2.category = 1) (k : QW v D cs M fr mc ms X pc' ls (u1 :: u2 :: u1 :: st) ws cells slots) : QW v D cs M fr mc ms X pc ls (u1 :: u2 :: st) ws cells slots := by
  obtain ⟨d, rfl⟩ := d
  exact fun p l e R s m args below meth c Z A H0 hc H la locs hP hD hS hl => lv_dup_x1 hc.1 hc.2.1 d h1 h2 (k _ _ _ _ _ _ _ _ _ _ _ _ _ hc _ _ _ hP hD hS hl)
theorem QW_null (d : decode M.2.1 pc = .ok (.aconst_null, 1) ∧ pc + 1 = pc') (k : QW v D cs M fr mc ms X pc' ls (.null :: st) ws cells slots) : QW v D cs M fr mc ms X pc ls st ws cells slots := by
  obtain ⟨d, rfl⟩ := d
  exact fun p l e R s m args below meth c Z A H0 hc H la locs hP hD hS hl => lv_null hc.1 hc.2.1 d (k _ _ _ _ _ _ _ _ _ _ _ _ _ hc _ _ _ hP hD hS hl)
theorem QW_ifnonnull {q : Nat} {off : Int} (d : decode M.2.1 pc = .ok (.ifnonnull off, 3) ∧ (pc : Int) + off = (tgt : Int) ∧ pc + 3 = pc') (k : QW v D cs M fr mc ms X tgt ls st ws cells slots) : QW v D cs M fr mc ms X pc ls (.ref q :: st) ws cells slots :=
  fun p l e R s m args below meth c Z A H0 hc H la locs hP hD hS hl => lv_ifnonnull hc.1 hc.2.1 d.1 d.2.1 (k _ _ _ _ _ _ _ _ _ _ _ _ _ hc _ _ _ hP hD hS hl)
theorem QW_sub {ls' : List (Option Value)} (h : zsub ls' ls) (k : QW v D cs M fr mc ms X pc ls' st ws cells slots) : QW v D cs M fr mc ms X pc ls st ws cells slots :=
  fun p l e R s m args below meth c Z A H0 hc H la locs hP hD hS hl => k _ _ _ _ _ _ _ _ _ _ _ _ _ hc _ _ _ hP hD hS ⟨hl.1, hl.2.1, fun j u hj => hl.2.2 j u (zsub_get _ _ j u h hj)⟩
theorem QW_perm {ws' : va_W} (h : ws.Perm ws') (k : QW v D cs M fr mc ms X pc ls st ws' cells slots) : QW v D cs M fr mc ms X pc ls st ws cells slots :=
  fun p l e R s m args below meth c Z A H0 hc H la locs hP hD hS hl => k _ _ _ _ _ _ _ _ _ _ _ _ _ hc _ _ _ ((xP_perm h).mp hP) ((xD_perm h).mp hD) hS hl
theorem QW_drop {wa wb : va_W} (h : ws.Perm (wa ++ wb)) (k : QW v D cs M fr mc ms X pc ls st wa cells slots) : QW v D cs M fr mc ms X pc ls st ws cells slots :=
  fun p l e R s m args below meth c Z A H0 hc H la locs hP hD hS hl => k _ _ _ _ _ _ _ _ _ _ _ _ _ hc _ _ _ (xP_app.mp ((xP_perm h).mp hP)).1 (xD_app.mp ((xD_perm h).mp hD)).1 hS hl
theorem QW_widen {c' s' : Nat} (h1 : cells ≤ c') (h2 : slots ≤ s') (k : QW v D cs M fr mc ms X pc ls st ws c' s') : QW v D cs M fr mc ms X pc ls st ws cells slots :=
  fun p l e R s m args below meth c Z A H0 hc H la locs hP hD hS hl => W.widen h1 h2 (k _ _ _ _ _ _ _ _ _ _ _ _ _ hc _ _ _ hP hD hS hl)
theorem QW_apart (k : (∀ q ∈ ws, ∀ q' ∈ ws, q.1 = q'.1 → q = q') → QW v D cs M fr mc ms X pc ls st ws cells slots) : QW v D cs M fr mc ms X pc ls st ws cells slots :=
  fun p l e R s m args below meth c Z A H0 hc H la locs hP hD hS hl => k (fun q hq q' hq' h => by
    obtain ⟨i, hi⟩ := List.getElem?_of_mem hq
    obtain ⟨j, hj⟩ := List.getElem?_of_mem hq'
    have := hD.1 i j _ _ hi hj h
    subst this
    exact Option.some.inj (hi.symm.trans hj)) _ _ _ _ _ _ _ _ _ _ _ _ _ hc _ _ _ hP hD hS hl
theorem QW_iret (d : decode M.2.1 pc = .ok (.ireturn, 1) ∧ pc + 1 = pc') (hr : M.2.2.2 = some .int) (hcs : cells ≤ mc ∧ slots ≤ ms) (hx : X (some (iZ z)) ws) : QW v D cs M fr mc ms X pc ls [iZ z] ws cells slots :=
  fun p l e R s m args below meth c Z A H0 hc H la locs hP hD hS hl => hc.2.2.2.2.2.2.2.2.2.2 _ _ _ _ _ _ _ _ hx hP hD hS (Or.inl ⟨d.1, z, .int, rfl, hr, rfl⟩) hcs.1 hcs.2
theorem QW_zret (d : decode M.2.1 pc = .ok (.ireturn, 1) ∧ pc + 1 = pc') (hr : M.2.2.2 = some .boolean) (hz : z = 0 ∨ z = 1) (hcs : cells ≤ mc ∧ slots ≤ ms) (hx : X (some (iZ z)) ws) : QW v D cs M fr mc ms X pc ls [iZ z] ws cells slots :=
  fun p l e R s m args below meth c Z A H0 hc H la locs hP hD hS hl => hc.2.2.2.2.2.2.2.2.2.2 _ _ _ _ _ _ _ _ hx hP hD hS (Or.inl ⟨d.1, z, .boolean, rfl, hr, by rcases hz with rfl | rfl <;> rfl⟩) hcs.1 hcs.2
theorem QW_bret (d : decode M.2.1 pc = .ok (.ireturn, 1) ∧ pc + 1 = pc') (hr : M.2.2.2 = some .byte) (hz : narrow .byte (iZ z) = iZ z) (hcs : cells ≤ mc ∧ slots ≤ ms) (hx : X (some (iZ z)) ws) : QW v D cs M fr mc ms X pc ls [iZ z] ws cells slots :=
  fun p l e R s m args below meth c Z A H0 hc H la locs hP hD hS hl => hc.2.2.2.2.2.2.2.2.2.2 _ _ _ _ _ _ _ _ hx hP hD hS (Or.inl ⟨d.1, z, .byte, rfl, hr, hz⟩) hcs.1 hcs.2
theorem QW_cret (d : decode M.2.1 pc = .ok (.ireturn, 1) ∧ pc + 1 = pc') (hr : M.2.2.2 = some .char) (hz : narrow .char (iZ z) = iZ z) (hcs : cells ≤ mc ∧ slots ≤ ms) (hx : X (some (iZ z)) ws) : QW v D cs M fr mc ms X pc ls [iZ z] ws cells slots :=
  fun p l e R s m args below meth c Z A H0 hc H la locs hP hD hS hl => hc.2.2.2.2.2.2.2.2.2.2 _ _ _ _ _ _ _ _ hx hP hD hS (Or.inl ⟨d.1, z, .char, rfl, hr, hz⟩) hcs.1 hcs.2
theorem QW_aret {q : Nat} (d : decode M.2.1 pc = .ok (.areturn, 1) ∧ pc + 1 = pc') (hr : (∃ C, M.2.2.2 = some (.object C)) ∨ ∃ t, M.2.2.2 = some (.array t)) (hcs : cells ≤ mc ∧ slots ≤ ms) (hx : X (some (.ref q)) ws) : QW v D cs M fr mc ms X pc ls [.ref q] ws cells slots :=
  fun p l e R s m args below meth c Z A H0 hc H la locs hP hD hS hl => hc.2.2.2.2.2.2.2.2.2.2 _ _ _ _ _ _ _ _ hx hP hD hS (Or.inr (Or.inl ⟨d.1, _, rfl, hr⟩)) hcs.1 hcs.2
theorem QW_vret (d : decode M.2.1 pc = .ok (.return_, 1) ∧ pc + 1 = pc') (hr : M.2.2.2 = none) (hcs : cells ≤ mc ∧ slots ≤ ms) (hx : X none ws) : QW v D cs M fr mc ms X pc ls [] ws cells slots :=
  fun p l e R s m args below meth c Z A H0 hc H la locs hP hD hS hl => hc.2.2.2.2.2.2.2.2.2.2 _ _ _ _ _ _ _ _ hx hP hD hS (Or.inr (Or.inr ⟨d.1, rfl, hr⟩)) hcs.1 hcs.2
theorem QW_get {a idx ci kf : Nat} {fs : List Value} {ds : String} {u : Value} (d : decode M.2.1 pc = .ok (.getfield idx, 3) ∧ pc + 3 = pc') (f : zFL M.1.cls idx ci kf ds) (hq : (a, .inr (ci, fs)) ∈ ws) (hv : fs[kf]? = some u) (k : QW v D cs M fr mc ms X pc' ls (u :: st) ws cells slots) : QW v D cs M fr mc ms X pc ls (.ref a :: st) ws cells slots := by
  obtain ⟨d, rfl⟩ := d
  obtain ⟨C, T, N, hcl, hk, hds, hw⟩ := f
  obtain ⟨hin, -, -⟩ := zcl_ok ci _ hcl
  obtain ⟨q0, hq0⟩ := List.getElem?_of_mem hq
  intro p l e R s m args below meth c Z A H0 hc H la locs hP hD hS hl
  subst hds
  exact va_get (v := u) hc.1 hc.2.1 hc.2.2.2.2.1 hin hc.2.2.2.1 hc.2.2.2.2.2.1 hP q0 hq0 hcl kf hk (hc.2.2.2.2.1 _ hw) (fun _ h9 => h9) hv d (k _ _ _ _ _ _ _ _ _ _ _ _ _ hc _ _ _ hP hD hS hl)
theorem QW_put {a idx ci kf : Nat} {fs : List Value} {wr : va_W} {ds : String} {fty : FieldType} {u : Value} (d : decode M.2.1 pc = .ok (.putfield idx, 3) ∧ pc + 3 = pc') (f : zFL M.1.cls idx ci kf ds) (hq : ws.Perm ((a, .inr (ci, fs)) :: wr)) (hdecl : ∀ (C : String) (T : u_T) (N : Nat), zcl[ci]? = some (C, T, N) → (T kf).2.2.2 = true → M.1.name = "<init>" ∧ (T kf).1 = M.1.cls) (hd : parseFieldDescriptor ds = some fty) (hn : narrow fty u = u) (hfit : fits fty u = true) (hl0 : kf < fs.length)
    (k : QW v D cs M fr mc ms X pc' ls st ((a, .inr (ci, fs.set kf u)) :: wr) cells slots) : QW v D cs M fr mc ms X pc ls (u :: .ref a :: st) ws cells slots := by
  obtain ⟨d, rfl⟩ := d
  obtain ⟨C, T, N, hcl, hk, hds, hw⟩ := f
  obtain ⟨hin, ⟨ty0, hty⟩, hnm⟩ := zcl_ok ci _ hcl
  refine QW_perm hq ?_
  intro p l e R s m args below meth c Z A H0 hc H la locs hP hD hS hl
  have hq0 : ((a, Sum.inr (ci, fs)) :: wr : va_W)[0]? = some (a, .inr (ci, fs)) := rfl
  by_cases hf : (T kf).2.2.2 = true
  · obtain ⟨e1, e2⟩ := hdecl _ _ _ hcl hf
    refine va_putF (v := u) (ty := fty) hc.1 hc.2.1 hc.2.2.2.2.1 hin ty0 hty hnm hc.2.2.2.1 hc.2.2.2.2.2.1 hP hD hS 0 hq0 hcl kf hk (by rw [hds]; exact hc.2.2.2.2.1 _ hw) (fun _ h9 => h9) hf (hc.2.2.2.2.2.2.2.2.2.1.1 e1) e2 (by rw [hds]; exact hd) hn hfit hl0 d (fun H1 locs1 hP1 hD1 hS1 => ?_)
    exact k _ _ _ _ _ _ _ _ _ _ _ _ _ hc _ _ _ hP1 hD1 hS1 hl
  · refine va_put (v := u) (ty := fty) hc.1 hc.2.1 hc.2.2.2.2.1 hin ty0 hty hnm hc.2.2.2.1 hc.2.2.2.2.2.1 hP hD hS 0 hq0 hcl kf hk (by rw [hds]; exact hc.2.2.2.2.1 _ hw) (fun _ h9 => h9) (Bool.eq_false_iff.mpr hf) (by rw [hds]; exact hd) hn hfit hl0 d (fun H1 locs1 hP1 hD1 hS1 => ?_)
    exact k _ _ _ _ _ _ _ _ _ _ _ _ _ hc _ _ _ hP1 hD1 hS1 hl
theorem QW_iald {a n : Nat} {f : Nat → Int} (d : decode M.2.1 pc = .ok (.iaload, 1) ∧ pc + 1 = pc') (hq : (a, .inl (cs 0, zarr 0 n f)) ∈ ws) (h : 0 ≤ x ∧ x < n) (hn : n ≤ 2147483648) (k : QW v D cs M fr mc ms X pc' ls (iZ (f x.toNat) :: st) ws cells slots) : QW v D cs M fr mc ms X pc ls (iZ x :: .ref a :: st) ws cells slots := by
  obtain ⟨d, rfl⟩ := d
  obtain ⟨q0, hq0⟩ := List.getElem?_of_mem hq
  intro p l e R s m args below meth c Z A H0 hc H la locs hP hD hS hl
  refine va_iald (i := Int32.ofInt x) hc.1 hc.2.1 hc.2.2.2.2.2.1 hP q0 0 hq0 rfl (zvpin h hn) d ?_
  rw [zclamp (by omega)]
  exact k _ _ _ _ _ _ _ _ _ _ _ _ _ hc _ _ _ hP hD hS hl
theorem QW_bald {a n : Nat} {f : Nat → Int} (d : decode M.2.1 pc = .ok (.baload, 1) ∧ pc + 1 = pc') (hq : (a, .inl (cs 1, zarr 1 n f)) ∈ ws) (h : 0 ≤ x ∧ x < n) (hn : n ≤ 2147483648) (k : QW v D cs M fr mc ms X pc' ls (iZ (f x.toNat) :: st) ws cells slots) : QW v D cs M fr mc ms X pc ls (iZ x :: .ref a :: st) ws cells slots := by
  obtain ⟨d, rfl⟩ := d
  obtain ⟨q0, hq0⟩ := List.getElem?_of_mem hq
  intro p l e R s m args below meth c Z A H0 hc H la locs hP hD hS hl
  refine va_bald (i := Int32.ofInt x) hc.1 hc.2.1 hc.2.2.2.2.2.1 hP q0 1 hq0 rfl (zvpin h hn) d ?_
  rw [zclamp (by omega)]
  exact k _ _ _ _ _ _ _ _ _ _ _ _ _ hc _ _ _ hP hD hS hl
def zaU (f : Nat → Int) (k : Nat) (z : Int) : Nat → Int := fun j => if j = k then z else f j
theorem zaU_s {f : Nat → Int} {k : Nat} {z : Int} : zaU f k z k = z := if_pos rfl
theorem zaU_n {f : Nat → Int} {k j : Nat} {z : Int} (h : j ≠ k) : zaU f k z j = f j := if_neg h
theorem QW_iast {a n : Nat} {f : Nat → Int} {wr : va_W} (d : decode M.2.1 pc = .ok (.iastore, 1) ∧ pc + 1 = pc') (hq : ws.Perm ((a, .inl (cs 0, zarr 0 n f)) :: wr)) (h : 0 ≤ x ∧ x < n) (hn : n ≤ 2147483648) (k : QW v D cs M fr mc ms X pc' ls st ((a, .inl (cs 0, zarr 0 n (zaU f x.toNat z))) :: wr) cells slots) : QW v D cs M fr mc ms X pc ls (iZ z :: iZ x :: .ref a :: st) ws cells slots := by
  obtain ⟨d, rfl⟩ := d
  refine QW_perm hq ?_
  intro p l e R s m args below meth c Z A H0 hc H la locs hP hD hS hl
  have e9 : upd (fun j => Int32.ofInt (f j)) x.toNat (Int32.ofInt z) = fun j => Int32.ofInt (zaU f x.toNat z j) := by
    funext j
    by_cases hj : j = x.toNat
    · subst hj; simp [upd, zaU]
    · simp [upd, zaU, hj]
  refine va_iast (i := Int32.ofInt x) (x := Int32.ofInt z) hc.1 hc.2.1 hc.2.2.2.2.2.1 hP hD hS 0 0 (show ((a, Sum.inl (cs 0, zarr 0 n f)) :: wr : va_W)[0]? = some (a, .inl (cs 0, n, .inl (fun j => Int32.ofInt (f j)))) from rfl) rfl (zvpin h hn) d (fun H1 locs1 hP1 hD1 hS1 => ?_)
  skip
  rw [zclamp (by omega), e9] at hP1 hD1
  exact k _ _ _ _ _ _ _ _ _ _ _ _ _ hc _ _ _ hP1 hD1 hS1 hl
theorem QW_bast {a n : Nat} {f : Nat → Int} {wr : va_W} (d : decode M.2.1 pc = .ok (.bastore, 1) ∧ pc + 1 = pc') (hq : ws.Perm ((a, .inl (cs 1, zarr 1 n f)) :: wr)) (h : 0 ≤ x ∧ x < n) (hn : n ≤ 2147483648) (hz : vp_nar .byte (Int32.ofInt z) = Int32.ofInt z) (k : QW v D cs M fr mc ms X pc' ls st ((a, .inl (cs 1, zarr 1 n (zaU f x.toNat z))) :: wr) cells slots) : QW v D cs M fr mc ms X pc ls (iZ z :: iZ x :: .ref a :: st) ws cells slots := by
  obtain ⟨d, rfl⟩ := d
  refine QW_perm hq ?_
  intro p l e R s m args below meth c Z A H0 hc H la locs hP hD hS hl
  have e9 : upd (fun j => Int32.ofInt (f j)) x.toNat (Int32.ofInt z) = fun j => Int32.ofInt (zaU f x.toNat z j) := by
    funext j
    by_cases hj : j = x.toNat
    · subst hj; simp [upd, zaU]
    · simp [upd, zaU, hj]
  refine va_bast (i := Int32.ofInt x) (x := Int32.ofInt z) hc.1 hc.2.1 hc.2.2.2.2.2.1 hP hD hS 0 1 (show ((a, Sum.inl (cs 1, zarr 1 n f)) :: wr : va_W)[0]? = some (a, .inl (cs 1, n, .inl (fun j => Int32.ofInt (f j)))) from rfl) rfl (zvpin h hn) d (fun H1 locs1 hP1 hD1 hS1 => ?_)
  rw [hz] at hP1 hD1
  rw [zclamp (by omega), e9] at hP1 hD1
  exact k _ _ _ _ _ _ _ _ _ _ _ _ _ hc _ _ _ hP1 hD1 hS1 hl
theorem QW_alen {a n : Nat} {f : Nat → Int} (d : decode M.2.1 pc = .ok (.arraylength, 1) ∧ pc + 1 = pc') (hq : (a, .inl (cs 0, zarr 0 n f)) ∈ ws) (k : QW v D cs M fr mc ms X pc' ls (iZ (n : Int) :: st) ws cells slots) : QW v D cs M fr mc ms X pc ls (.ref a :: st) ws cells slots := by
  obtain ⟨d, rfl⟩ := d
  obtain ⟨q0, hq0⟩ := List.getElem?_of_mem hq
  exact fun p l e R s m args below meth c Z A H0 hc H la locs hP hD hS hl => va_alen hc.1 hc.2.1 hc.2.2.2.2.2.1 hP q0 0 hq0 rfl (v := Int32.ofInt n) Int32.ofInt_eq_ofNat.symm d (k _ _ _ _ _ _ _ _ _ _ _ _ _ hc _ _ _ hP hD hS hl)
theorem QW_blen {a n : Nat} {f : Nat → Int} (d : decode M.2.1 pc = .ok (.arraylength, 1) ∧ pc + 1 = pc') (hq : (a, .inl (cs 1, zarr 1 n f)) ∈ ws) (k : QW v D cs M fr mc ms X pc' ls (iZ (n : Int) :: st) ws cells slots) : QW v D cs M fr mc ms X pc ls (.ref a :: st) ws cells slots := by
  obtain ⟨d, rfl⟩ := d
  obtain ⟨q0, hq0⟩ := List.getElem?_of_mem hq
  exact fun p l e R s m args below meth c Z A H0 hc H la locs hP hD hS hl => va_alen hc.1 hc.2.1 hc.2.2.2.2.2.1 hP q0 1 hq0 rfl (v := Int32.ofInt n) Int32.ofInt_eq_ofNat.symm d (k _ _ _ _ _ _ _ _ _ _ _ _ _ hc _ _ _ hP hD hS hl)
theorem QW_rlen {a n : Nat} {f : Nat → Option Nat} (d : decode M.2.1 pc = .ok (.arraylength, 1) ∧ pc + 1 = pc') (hq : (a, .inl (cs 2, (n, .inr (.inr (.inr (.inr f)))))) ∈ ws) (k : QW v D cs M fr mc ms X pc' ls (iZ (n : Int) :: st) ws cells slots) : QW v D cs M fr mc ms X pc ls (.ref a :: st) ws cells slots := by
  obtain ⟨d, rfl⟩ := d
  obtain ⟨q0, hq0⟩ := List.getElem?_of_mem hq
  exact fun p l e R s m args below meth c Z A H0 hc H la locs hP hD hS hl => va_alen hc.1 hc.2.1 hc.2.2.2.2.2.1 hP q0 2 hq0 rfl (v := Int32.ofInt n) Int32.ofInt_eq_ofNat.symm d (k _ _ _ _ _ _ _ _ _ _ _ _ _ hc _ _ _ hP hD hS hl)
theorem QW_aald {a n r : Nat} {f : Nat → Option Nat} (d : decode M.2.1 pc = .ok (.aaload, 1) ∧ pc + 1 = pc') (hq : (a, .inl (cs 2, (n, .inr (.inr (.inr (.inr f)))))) ∈ ws) (h : 0 ≤ x ∧ x < n) (hn : n ≤ 2147483648) (hr : f x.toNat = some r) (k : QW v D cs M fr mc ms X pc' ls (.ref r :: st) ws cells slots) : QW v D cs M fr mc ms X pc ls (iZ x :: .ref a :: st) ws cells slots := by
  obtain ⟨d, rfl⟩ := d
  obtain ⟨q0, hq0⟩ := List.getElem?_of_mem hq
  intro p l e R s m args below meth c Z A H0 hc H la locs hP hD hS hl
  have hin := zvpin h hn
  have hlt : (Int32.ofInt x).toNatClampNeg < n := Nat.not_le.mp fun q => hin (Or.inr q)
  refine W.aald (v := .ref r) (ty := .array .int) hc.1 hc.2.1 (hP q0 _ hq0) ((hc.2.2.2.2.2.1.2 2 _ rfl).1 n (fun j => va_rf (f j))) rfl (fun q => by cases q) (by show ¬ (_ < 0 ∨ (arrV _ _ _).slots.size ≤ _); rw [arrV_size]; exact hin) (by show (arrV _ _ _).slots[_]? = _; rw [arrV_read _ _ hlt, zclamp (by omega), hr]; rfl) rfl rfl d (k _ _ _ _ _ _ _ _ _ _ _ _ _ hc _ _ _ hP hD hS hl)
theorem xNt_is {s : State} {cA : ClassId} {i : Nat} (hi : i < 2) (hK : va_K D zcl (xNt cs ++ [(cA, zety i)]) s) : cA = cs i := by
  have h1 := (hK.2 3 _ rfl).2
  rcases (show i = 0 ∨ i = 1 by omega) with rfl | rfl
  · exact Option.some.inj ((show s.vm.findClass _ = some cA from h1).symm.trans (show s.vm.findClass _ = some (cs 0) from (hK.2 0 _ rfl).2))
  · exact Option.some.inj ((show s.vm.findClass _ = some cA from h1).symm.trans (show s.vm.findClass _ = some (cs 1) from (hK.2 1 _ rfl).2))
theorem QW_newa {i N : Nat} {at' : ArrayType} (d : decode M.2.1 pc = .ok (.newarray at', 2) ∧ pc + 2 = pc') (hi : i < 2) (ht : newarray.typeOf at' = zety i) (hw : Cond.arrayClass (zety i) ∈ zU) (hx : x = (N : Int)) (hN6 : N ≤ 60000) (hcm : cells + 1 ≤ mc ∧ slots + N ≤ ms)
    (k : ∀ q : Nat, QW v D cs M fr mc ms X pc' ls (.ref q :: st) (ws ++ [(q, .inl (cs i, zarr i N (fun _ => 0)))]) (cells + 1) (slots + N)) : QW v D cs M fr mc ms X pc ls (iZ x :: st) ws cells slots := by
  obtain ⟨d, rfl⟩ := d
  subst hx
  intro p l e R s m args below meth c Z A H0 hc H la locs hP hD hS hl
  obtain ⟨hx, hb, hml, hown, hts, hK, ⟨hR1, hR2, hR3⟩, hRl, ⟨hA, rfl, hE⟩, ⟨hnm, hN⟩, hret⟩ := id hc
  have hcb : componentBytes (zety i) ≤ 4 := by
    rcases (show i = 0 ∨ i = 1 by omega) with rfl | rfl <;> decide
  have hz : ∀ cA, vp_cell cA (zarr i N (fun _ => 0)) = arrV cA N (fun _ => defaultValue (zety i)) := fun cA => by
    rcases (show i = 0 ∨ i = 1 by omega) with rfl | rfl <;> rfl
  refine va_newa hx hb (by rw [ht]; exact hts _ hw) ht hK hP hD hS hA hz (by rw [zlt0 (by omega)]; omega) (by rw [zclamp (by omega)]; omega) (Nat.le_trans (Nat.mul_le_mul hN6 hcb) (by decide)) (by omega) (by omega) d (fun q cA H1 hK1 hP1 hD1 hS1 => ?_)
  have := xNt_is hi hK1
  subst this
  exact k q _ _ _ _ _ _ _ _ _ _ _ _ _ hc _ _ _ hP1 hD1 hS1 hl
theorem QW_new {idx ci N' : Nat} {C : String} {T : u_T} {f0 : List Value} (d : decode M.2.1 pc = .ok (.new idx, 3) ∧ pc + 3 = pc') (hcl : zcl[ci]? = some (C, T, N')) (w1 : Cond.classLink M.1.cls idx C ∈ zU) (w2 : Cond.instantiable C N' ∈ zU) (w3 : Cond.initialized C ∈ zU) (hfs : ∀ ty : Nat → FieldType, (∀ k, k < N' → parseFieldDescriptor (T k).2.2.1 = some (ty k)) → ∀ j, j < N' → defaultValue (ty j) = vp_V f0 j) (hcm : cells + 1 ≤ mc ∧ slots + N' ≤ ms)
    (k : ∀ q : Nat, QW v D cs M fr mc ms X pc' ls (.ref q :: st) (ws ++ [(q, .inr (ci, f0))]) (cells + 1) (slots + N')) : QW v D cs M fr mc ms X pc ls st ws cells slots := by
  obtain ⟨d, rfl⟩ := d
  intro p l e R s m args below meth c Z A H0 hc H la locs hP hD hS hl
  obtain ⟨hx, hb, hml, hown, hts, hK, ⟨hR1, hR2, hR3⟩, hRl, ⟨hA, rfl, hE⟩, ⟨hnm, hN⟩, hret⟩ := id hc
  obtain ⟨hinU, ⟨ty0, hty⟩, hnmU⟩ := zcl_ok ci _ hcl
  refine va_new (ci := ci) (fs := f0) hx hb hts hinU ty0 hty hown (hts _ w1) (hts _ w2) (hts _ w3) hK hP hD hS hA hcl (hfs ty0 hty) (by show cells + 1 ≤ R.cells; omega) (by show slots + N' ≤ R.slots; omega) d (fun q H1 hP1 hD1 hS1 => ?_)
  exact k q _ _ _ _ _ _ _ _ _ _ _ _ _ hc _ _ _ hP1 hD1 hS1 hl
theorem QW_compact {idx : Nat} (d : decode M.2.1 pc = .ok (.getstatic idx, 3) ∧ pc + 3 = pc') (hw : Cond.fieldLink M.1.cls idx "java/lang/String" "COMPACT_STRINGS" "Z" ∈ zU) (k : QW v D cs M fr mc ms X pc' ls (iZ 1 :: st) ws cells slots) : QW v D cs M fr mc ms X pc ls st ws cells slots := by
  obtain ⟨d, rfl⟩ := d
  intro p l e R s m args below meth c Z A H0 hc H la locs hP hD hS hl
  obtain ⟨hx, hb, hml, hown, hts, hK, ⟨hR1, hR2, hR3⟩, hRl, ⟨hA, rfl, hE⟩, ⟨hnm, hN⟩, hret⟩ := id hc
  exact va_gets hx hb hE.2.2.1.1 hS hown (hts _ hw) (fun _ h => h) d (k _ _ _ _ _ _ _ _ _ _ _ _ _ hc _ _ _ hP hD hS hl)
theorem QW_ways {idx : Nat} (d : decode M.2.1 pc = .ok (.getstatic idx, 3) ∧ pc + 3 = pc') (hw : Cond.fieldLink M.1.cls idx "BeamBoardLaw" "WAYS" "[Ljava/lang/String;" ∈ zU) (k : QW v D cs M fr mc ms X pc' ls (.ref (v.2.2.1 0) :: st) ws cells slots) : QW v D cs M fr mc ms X pc ls st ws cells slots := by
  obtain ⟨d, rfl⟩ := d
  intro p l e R s m args below meth c Z A H0 hc H la locs hP hD hS hl
  obtain ⟨hx, hb, hml, hown, hts, hK, ⟨hR1, hR2, hR3⟩, hRl, ⟨hA, rfl, hE⟩, ⟨hnm, hN⟩, hret⟩ := id hc
  exact va_gets hx hb hE.2.2.2.1.1 hS hown (hts _ hw) (fun _ h => h) d (k _ _ _ _ _ _ _ _ _ _ _ _ _ hc _ _ _ hP hD hS hl)
theorem QW_forms {idx : Nat} (d : decode M.2.1 pc = .ok (.getstatic idx, 3) ∧ pc + 3 = pc') (hw : Cond.fieldLink M.1.cls idx "BeamBoardLaw" "FORMS" "[Ljava/lang/String;" ∈ zU) (k : QW v D cs M fr mc ms X pc' ls (.ref (v.2.2.1 1) :: st) ws cells slots) : QW v D cs M fr mc ms X pc ls st ws cells slots := by
  obtain ⟨d, rfl⟩ := d
  intro p l e R s m args below meth c Z A H0 hc H la locs hP hD hS hl
  obtain ⟨hx, hb, hml, hown, hts, hK, ⟨hR1, hR2, hR3⟩, hRl, ⟨hA, rfl, hE⟩, ⟨hnm, hN⟩, hret⟩ := id hc
  exact va_gets hx hb hE.2.2.2.2.1.1 hS hown (hts _ hw) (fun _ h => h) d (k _ _ _ _ _ _ _ _ _ _ _ _ _ hc _ _ _ hP hD hS hl)
theorem QW_digits {idx : Nat} (d : decode M.2.1 pc = .ok (.getstatic idx, 3) ∧ pc + 3 = pc') (hw : Cond.fieldLink M.1.cls idx "java/lang/Integer" "DigitOnes" "[B" ∈ zU) (k : QW v D cs M fr mc ms X pc' ls (.ref (v.2.2.1 2) :: st) ws cells slots) : QW v D cs M fr mc ms X pc ls st ws cells slots := by
  obtain ⟨d, rfl⟩ := d
  intro p l e R s m args below meth c Z A H0 hc H la locs hP hD hS hl
  obtain ⟨hx, hb, hml, hown, hts, hK, ⟨hR1, hR2, hR3⟩, hRl, ⟨hA, rfl, hE⟩, ⟨hnm, hN⟩, hret⟩ := id hc
  exact va_gets hx hb hE.2.2.2.2.2.1.1 hS hown (hts _ hw) (fun _ h => h) d (k _ _ _ _ _ _ _ _ _ _ _ _ _ hc _ _ _ hP hD hS hl)
theorem QW_formatter {idx : Nat} (d : decode M.2.1 pc = .ok (.getstatic idx, 3) ∧ pc + 3 = pc') (hw : Cond.fieldLink M.1.cls idx "jdk/internal/util/Preconditions" "SIOOBE_FORMATTER" "Ljava/util/function/BiFunction;" ∈ zU) (k : ∀ u : Value, u.category = 1 → QW v D cs M fr mc ms X pc' ls (u :: st) ws cells slots) : QW v D cs M fr mc ms X pc ls st ws cells slots := by
  obtain ⟨d, rfl⟩ := d
  intro p l e R s m args below meth c Z A H0 hc H la locs hP hD hS hl
  obtain ⟨hx, hb, hml, hown, hts, hK, ⟨hR1, hR2, hR3⟩, hRl, ⟨hA, rfl, hE⟩, ⟨hnm, hN⟩, hret⟩ := id hc
  rcases hE.2.2.1.2 with h | ⟨t, h⟩
  · exact va_gets hx hb h hS hown (hts _ hw) (fun _ h => h) d (k _ rfl _ _ _ _ _ _ _ _ _ _ _ _ _ hc _ _ _ hP hD hS hl)
  · exact va_gets hx hb h hS hown (hts _ hw) (fun _ h => h) d (k _ rfl _ _ _ _ _ _ _ _ _ _ _ _ _ hc _ _ _ hP hD hS hl)
theorem QW_way (d : decode M.2.1 pc = .ok (.aaload, 1) ∧ pc + 1 = pc') (h : 0 ≤ x ∧ x < 4) (k : QW v D cs M fr mc ms X pc' ls (.ref (v.1 (17 + x.toNat)) :: st) ws cells slots) : QW v D cs M fr mc ms X pc ls (iZ x :: .ref (v.2.2.1 0) :: st) ws cells slots := by
  obtain ⟨d, rfl⟩ := d
  intro p l e R s m args below meth c Z A H0 hc H la locs hP hD hS hl
  obtain ⟨hx, hb, hml, hown, hts, hK, ⟨hR1, hR2, hR3⟩, hRl, ⟨hA, rfl, hE⟩, ⟨hnm, hN⟩, hret⟩ := id hc
  exact vb_tq hx hb hE.2.2.2.1.2 hS (zvpin (n := 4) (by omega) (by decide)) (v := .ref (v.1 (17 + x.toNat))) (by rw [zclamp (by omega)]) d (k _ _ _ _ _ _ _ _ _ _ _ _ _ hc _ _ _ hP hD hS hl)
theorem QW_form (d : decode M.2.1 pc = .ok (.aaload, 1) ∧ pc + 1 = pc') (h : 0 ≤ x ∧ x < 2) (k : QW v D cs M fr mc ms X pc' ls (.ref (v.1 (21 + x.toNat)) :: st) ws cells slots) : QW v D cs M fr mc ms X pc ls (iZ x :: .ref (v.2.2.1 1) :: st) ws cells slots := by
  obtain ⟨d, rfl⟩ := d
  intro p l e R s m args below meth c Z A H0 hc H la locs hP hD hS hl
  obtain ⟨hx, hb, hml, hown, hts, hK, ⟨hR1, hR2, hR3⟩, hRl, ⟨hA, rfl, hE⟩, ⟨hnm, hN⟩, hret⟩ := id hc
  exact vb_tq hx hb hE.2.2.2.2.1.2 hS (zvpin (n := 2) (by omega) (by decide)) (v := .ref (v.1 (21 + x.toNat))) (by rw [zclamp (by omega)]) d (k _ _ _ _ _ _ _ _ _ _ _ _ _ hc _ _ _ hP hD hS hl)
theorem xDig_v : ∀ j : Fin 10, xDig.getD j.val 0 = Int32.ofInt (48 + (j.val : Int)) := by decide
theorem QW_digit (d : decode M.2.1 pc = .ok (.baload, 1) ∧ pc + 1 = pc') (h : 0 ≤ x ∧ x < 10) (k : QW v D cs M fr mc ms X pc' ls (iZ (48 + x) :: st) ws cells slots) : QW v D cs M fr mc ms X pc ls (iZ x :: .ref (v.2.2.1 2) :: st) ws cells slots := by
  obtain ⟨d, rfl⟩ := d
  intro p l e R s m args below meth c Z A H0 hc H la locs hP hD hS hl
  obtain ⟨hx, hb, hml, hown, hts, hK, ⟨hR1, hR2, hR3⟩, hRl, ⟨hA, rfl, hE⟩, ⟨hnm, hN⟩, hret⟩ := id hc
  exact va_tb hx hb hE.2.2.2.2.2.1.2 hS (zvpin (n := 100) (by omega) (by decide)) (v := iZ (48 + x)) (by rw [zclamp (by omega)]; show Value.int _ = _; rw [xDig_v ⟨x.toNat, by omega⟩]; unfold iZ; congr 2; simp only; omega) d (k _ _ _ _ _ _ _ _ _ _ _ _ _ hc _ _ _ hP hD hS hl)
theorem QW_ldcS {i idx : Nat} {tx : String} (hi : xTx[i]? = some (M.1.cls, idx, tx)) (d : decode M.2.1 pc = .ok (.ldc idx, 2) ∧ pc + 2 = pc') (k : QW v D cs M fr mc ms X pc' ls (.ref (v.1 i) :: st) ws cells slots) : QW v D cs M fr mc ms X pc ls st ws cells slots := by
  obtain ⟨d, rfl⟩ := d
  intro p l e R s m args below meth c Z A H0 hc H la locs hP hD hS hl
  obtain ⟨hx, hb, hml, hown, hts, hK, ⟨hR1, hR2, hR3⟩, hRl, ⟨hA, rfl, hE⟩, ⟨hnm, hN⟩, hret⟩ := id hc
  exact va_ldcS hx hb hown (hE.1 i _ hi) d (k _ _ _ _ _ _ _ _ _ _ _ _ _ hc _ _ _ hP hD hS hl)
theorem QW_coderC {i idx : Nat} (hi : i < 23) (d : decode M.2.1 pc = .ok (.getfield idx, 3) ∧ pc + 3 = pc') (hw : Cond.fieldLink M.1.cls idx "java/lang/String" "coder" "B" ∈ zU) (k : QW v D cs M fr mc ms X pc' ls (iZ 0 :: st) ws cells slots) : QW v D cs M fr mc ms X pc ls (.ref (v.1 i) :: st) ws cells slots := by
  obtain ⟨d, rfl⟩ := d
  intro p l e R s m args below meth c Z A H0 hc H la locs hP hD hS hl
  obtain ⟨hx, hb, hml, hown, hts, hK, ⟨hR1, hR2, hR3⟩, hRl, ⟨hA, rfl, hE⟩, ⟨hnm, hN⟩, hret⟩ := id hc
  exact vk_getf hx hb (hE.2.1.1 i hi).2.1 hS hown (hts _ hw) (fun _ h => h) d (k _ _ _ _ _ _ _ _ _ _ _ _ _ hc _ _ _ hP hD hS hl)
theorem QW_valueC {i idx : Nat} (hi : i < 23) (d : decode M.2.1 pc = .ok (.getfield idx, 3) ∧ pc + 3 = pc') (hw : Cond.fieldLink M.1.cls idx "java/lang/String" "value" "[B" ∈ zU) (k : QW v D cs M fr mc ms X pc' ls (.ref (v.2.1 i) :: st) ws cells slots) : QW v D cs M fr mc ms X pc ls (.ref (v.1 i) :: st) ws cells slots := by
  obtain ⟨d, rfl⟩ := d
  intro p l e R s m args below meth c Z A H0 hc H la locs hP hD hS hl
  obtain ⟨hx, hb, hml, hown, hts, hK, ⟨hR1, hR2, hR3⟩, hRl, ⟨hA, rfl, hE⟩, ⟨hnm, hN⟩, hret⟩ := id hc
  exact vk_getf hx hb (hE.2.1.1 i hi).2.2.1 hS hown (hts _ hw) (fun _ h => h) d (k _ _ _ _ _ _ _ _ _ _ _ _ _ hc _ _ _ hP hD hS hl)
theorem QW_tlenC {i : Nat} (hi : i < 23) (d : decode M.2.1 pc = .ok (.arraylength, 1) ∧ pc + 1 = pc') (k : QW v D cs M fr mc ms X pc' ls (iZ ((xLen.getD i 0 : Nat) : Int) :: st) ws cells slots) : QW v D cs M fr mc ms X pc ls (.ref (v.2.1 i) :: st) ws cells slots := by
  obtain ⟨d, rfl⟩ := d
  intro p l e R s m args below meth c Z A H0 hc H la locs hP hD hS hl
  obtain ⟨hx, hb, hml, hown, hts, hK, ⟨hR1, hR2, hR3⟩, hRl, ⟨hA, rfl, hE⟩, ⟨hnm, hN⟩, hret⟩ := id hc
  exact va_tlen hx hb (hE.2.1.1 i hi).2.2.2 hS (v := Int32.ofInt (xLen.getD i 0 : Nat)) Int32.ofInt_eq_ofNat.symm d (k _ _ _ _ _ _ _ _ _ _ _ _ _ hc _ _ _ hP hD hS hl)
theorem QW_sld (d : decode M.2.1 pc = .ok (.iaload, 1) ∧ pc + 1 = pc') (h : 0 ≤ x ∧ x < v.2.2.2.1) (k : QW v D cs M fr mc ms X pc' ls (iZ (v.2.2.2.2 x.toNat).toInt :: st) ws cells slots) : QW v D cs M fr mc ms X pc ls (iZ x :: .ref (v.2.2.1 3) :: st) ws cells slots := by
  obtain ⟨d, rfl⟩ := d
  intro p l e R s m args below meth c Z A H0 hc H la locs hP hD hS hl
  obtain ⟨hx, hb, hml, hown, hts, hK, ⟨hR1, hR2, hR3⟩, hRl, ⟨hA, rfl, hE⟩, ⟨hnm, hN⟩, hret⟩ := id hc
  have hL := hE.2.2.2.2.2.2.2.2.2
  refine va_sld hx hb hE.2.2.2.2.2.2.1 hE.2.2.2.2.2.2.2.1 hE.2.2.2.2.2.2.2.2.1 hS (zvpin h (by omega)) d ?_
  rw [zclamp (by omega), show (Value.int (v.2.2.2.2 x.toNat)) = iZ (v.2.2.2.2 x.toNat).toInt by unfold iZ; rw [Int32.ofInt_toInt]]
  exact k _ _ _ _ _ _ _ _ _ _ _ _ _ hc _ _ _ hP hD hS hl
theorem QW_slen (d : decode M.2.1 pc = .ok (.arraylength, 1) ∧ pc + 1 = pc') (k : v.2.2.2.1 ≤ 260 → QW v D cs M fr mc ms X pc' ls (iZ (v.2.2.2.1 : Int) :: st) ws cells slots) : QW v D cs M fr mc ms X pc ls (.ref (v.2.2.1 3) :: st) ws cells slots := by
  obtain ⟨d, rfl⟩ := d
  intro p l e R s m args below meth c Z A H0 hc H la locs hP hD hS hl
  obtain ⟨hx, hb, hml, hown, hts, hK, ⟨hR1, hR2, hR3⟩, hRl, ⟨hA, rfl, hE⟩, ⟨hnm, hN⟩, hret⟩ := id hc
  exact va_slen hx hb hE.2.2.2.2.2.2.1 hE.2.2.2.2.2.2.2.1 hE.2.2.2.2.2.2.2.2.1 hS d (by have := k hE.2.2.2.2.2.2.2.2.2 _ _ _ _ _ _ _ _ _ _ _ _ _ hc _ _ _ hP hD hS hl; exact this)
def zcpyF (f g : Nat → Int) (sp dp n : Nat) : Nat → Int := fun j => if dp ≤ j ∧ j < dp + n then f (sp + (j - dp)) else g j
theorem zcpy_e (f g : Nat → Int) (sp dp n : Nat) : va_cpy (fun j => Int32.ofInt (f j)) (fun j => Int32.ofInt (g j)) sp dp n = fun j => Int32.ofInt (zcpyF f g sp dp n j) := by
  funext j
  unfold zcpyF
  by_cases h : dp ≤ j ∧ j < dp + n
  · rw [if_pos h, pk_cpy_in h.1 h.2]
  · rw [if_neg h, pk_cpy_out (by omega)]
def xBy (i : Nat) : Nat → Int := fun j => ((xByt.getD i []).getD j 0).toInt
theorem xBy_v (i j : Nat) : ((xByt.getD i []).getD j 0) = Int32.ofInt (xBy i j) := (Int32.ofInt_toInt _).symm
theorem QW_copyC {i a n1 idx : Nat} {g : Nat → Int} {wr : va_W} {dp n : Int} (hi : i < 23) (d : decode M.2.1 pc = .ok (.invokestatic idx, 3) ∧ pc + 3 = pc') (lk : Cond.methodLink M.1.cls idx arraycopyName ∈ zU) (hq : ws.Perm ((a, .inl (cs 1, zarr 1 n1 g)) :: wr)) (hn : n = ((xLen.getD i 0 : Nat) : Int)) (hln : xLen.getD i 0 ≤ 200) (h : 0 ≤ dp ∧ dp + n ≤ n1 ∧ n1 ≤ 60000) (hfit : ∀ j : Nat, j < xLen.getD i 0 → fits .byte (iZ (xBy i j)) = true) (hcat : (st.map fun u => u.category).sum ≤ 8) (hfr : 6 ≤ fr)
    (k : QW v D cs M fr mc ms X pc' ls st ((a, .inl (cs 1, zarr 1 n1 (zcpyF (xBy i) g 0 dp.toNat n.toNat))) :: wr) cells slots) : QW v D cs M fr mc ms X pc ls (iZ n :: iZ dp :: .ref a :: iZ 0 :: .ref (v.2.1 i) :: st) ws cells slots := by
  obtain ⟨d, rfl⟩ := d
  refine QW_perm hq ?_
  intro p l e R s m args below meth c Z A H0 hc H la locs hP hD hS hl
  obtain ⟨hx, hb, hml, hown, hts, hK, ⟨hR1, hR2, hR3⟩, hRl, ⟨hA, rfl, hE⟩, ⟨hnm, hN⟩, hret⟩ := id hc
  have hT := (hE.2.1.1 i hi).2.2.2
  have e8 : (fun j => Value.int ((xByt.getD i []).getD j 0)) = fun j => .int (Int32.ofInt (xBy i j)) := funext fun j => by rw [← xBy_v]
  rw [e8] at hT
  have hnw : nativeFrameWords "java/lang/System" "arraycopy" 5 ≤ 200 := by decide
  refine vk_copyt (n := Int32.ofInt n) (sp := Int32.ofInt 0) (dp := Int32.ofInt dp) hx hb (by rw [hml]; exact hl.1.symm) hown (hts _ lk) (hts _ zcpy_nt) (hts _ zcpy_st) (hts _ zcpy_in) hK hP hD hS hT 0 1 (show ((a, Sum.inl (cs 1, zarr 1 n1 g)) :: wr : va_W)[0]? = some (a, .inl (cs 1, n1, .inl (fun j => Int32.ofInt (g j)))) from rfl) rfl (by decide) (by rw [zlt0 (by omega)]; omega) (by rw [zlt0 (by omega)]; omega) ?_ ?_ ?_ (by omega) (by omega) d (fun H1 locs1 hP1 hD1 hS1 => ?_)
  · rw [zclamp (by decide), zclamp (by omega)]; show 0 + _ ≤ _; omega
  · rw [zclamp (by omega), zclamp (by omega)]; omega
  · intro j hj
    rw [zclamp (by omega)] at hj
    rw [zclamp (by decide), show (0 : Int).toNat + j = j by simp]
    exact hfit j (by omega)
  · rw [show (Int32.ofInt 0).toNatClampNeg = 0 by decide, zclamp (i := dp) (by omega), zclamp (i := n) (by omega), zcpy_e] at hP1 hD1
    exact k _ _ _ _ _ _ _ _ _ _ _ _ _ hc _ _ _ hP1 hD1 hS1 hl
theorem QW_copyB {a0 n0 a n1 idx : Nat} {f g : Nat → Int} {wr : va_W} {sp dp n : Int} (d : decode M.2.1 pc = .ok (.invokestatic idx, 3) ∧ pc + 3 = pc') (lk : Cond.methodLink M.1.cls idx arraycopyName ∈ zU) (hq : ws.Perm ((a, .inl (cs 1, zarr 1 n1 g)) :: wr)) (hq0 : (a0, .inl (cs 1, zarr 1 n0 f)) ∈ wr) (h : (0 ≤ sp ∧ 0 ≤ dp ∧ 0 ≤ n) ∧ sp + n ≤ n0 ∧ dp + n ≤ n1 ∧ n0 ≤ 60000 ∧ n1 ≤ 60000) (hfit : ∀ j : Nat, fits .byte (iZ (f j)) = true) (hcat : (st.map fun u => u.category).sum ≤ 8) (hfr : 6 ≤ fr)
    (k : QW v D cs M fr mc ms X pc' ls st ((a, .inl (cs 1, zarr 1 n1 (zcpyF f g sp.toNat dp.toNat n.toNat))) :: wr) cells slots) : QW v D cs M fr mc ms X pc ls (iZ n :: iZ dp :: .ref a :: iZ sp :: .ref a0 :: st) ws cells slots := by
  obtain ⟨d, rfl⟩ := d
  refine QW_perm hq ?_
  obtain ⟨i0, hi0⟩ := List.getElem?_of_mem hq0
  intro p l e R s m args below meth c Z A H0 hc H la locs hP hD hS hl
  obtain ⟨hx, hb, hml, hown, hts, hK, ⟨hR1, hR2, hR3⟩, hRl, ⟨hA, rfl, hE⟩, ⟨hnm, hN⟩, hret⟩ := id hc
  have hnw : nativeFrameWords "java/lang/System" "arraycopy" 5 ≤ 200 := by decide
  refine va_copyi (sp := Int32.ofInt sp) (dp := Int32.ofInt dp) (n := Int32.ofInt n) (ty := .byte) hx hb (by rw [hml]; exact hl.1.symm) hown (hts _ lk) (hts _ zcpy_nt) (hts _ zcpy_st) (hts _ zcpy_in) hK hP hD hS (i0 + 1) 0 1 1 (show ((a, Sum.inl (cs 1, zarr 1 n1 g)) :: wr : va_W)[i0 + 1]? = some (a0, .inl (cs 1, n0, .inl (fun j => Int32.ofInt (f j)))) from hi0) (show ((a, Sum.inl (cs 1, zarr 1 n1 g)) :: wr : va_W)[0]? = some (a, .inl (cs 1, n1, .inl (fun j => Int32.ofInt (g j)))) from rfl) rfl rfl rfl (by rw [zlt0 (by omega)]; omega) (by rw [zlt0 (by omega)]; omega) (by rw [zlt0 (by omega)]; omega) (by rw [zclamp (by omega), zclamp (by omega)]; omega) (by rw [zclamp (by omega), zclamp (by omega)]; omega) (fun j _ => hfit _) (by omega) (by omega) d (fun H1 locs1 hP1 hD1 hS1 => ?_)
  rw [zclamp (i := sp) (by omega), zclamp (i := dp) (by omega), zclamp (i := n) (by omega), zcpy_e] at hP1 hD1
  exact k _ _ _ _ _ _ _ _ _ _ _ _ _ hc _ _ _ hP1 hD1 hS1 hl
theorem QW_mmin {idx : Nat} (d : decode M.2.1 pc = .ok (.invokestatic idx, 3) ∧ pc + 3 = pc') (lk : Cond.methodLink M.1.cls idx Lib.Math.min.name ∈ zU) (h : zI x ∧ zI y) (hcat : (st.map fun u => u.category).sum ≤ 8) (hfr : 1 ≤ fr) (hcm : cells ≤ mc ∧ slots ≤ ms) (k : QW v D cs M fr mc ms X pc' ls (iZ (if y < x then y else x) :: st) ws cells slots) : QW v D cs M fr mc ms X pc ls (iZ y :: iZ x :: st) ws cells slots := by
  obtain ⟨d, rfl⟩ := d
  intro p l e R s m args below meth c Z A H0 hc H la locs hP hD hS hl
  obtain ⟨hx, hb, hml, hown, hts, hK, ⟨hR1, hR2, hR3⟩, hRl, ⟨hA, rfl, hE⟩, ⟨hnm, hN⟩, hret⟩ := id hc
  refine va_mmin hx hb (by rw [hml]; exact hl.1.symm) hown (hts _ lk) (hts _ zmin_st) (hts _ zmin_in) (hts _ zmin_co) (by omega) (by omega) (by omega) (by omega) d ?_
  have e9 : (Value.int (if Int32.ofInt y < Int32.ofInt x then Int32.ofInt y else Int32.ofInt x)) = iZ (if y < x then y else x) := by
    by_cases q : y < x
    · rw [if_pos q, if_pos ((zlt ⟨h.2, h.1⟩).mpr q)]; rfl
    · rw [if_neg q, if_neg (fun z => q ((zlt ⟨h.2, h.1⟩).mp z))]; rfl
  rw [e9]
  exact k _ _ _ _ _ _ _ _ _ _ _ _ _ hc _ _ _ hP hD hS hl
theorem QW_mmax {idx : Nat} (d : decode M.2.1 pc = .ok (.invokestatic idx, 3) ∧ pc + 3 = pc') (lk : Cond.methodLink M.1.cls idx Lib.Math.max.name ∈ zU) (h : zI x ∧ zI y) (hcat : (st.map fun u => u.category).sum ≤ 8) (hfr : 1 ≤ fr) (hcm : cells ≤ mc ∧ slots ≤ ms) (k : QW v D cs M fr mc ms X pc' ls (iZ (if x < y then y else x) :: st) ws cells slots) : QW v D cs M fr mc ms X pc ls (iZ y :: iZ x :: st) ws cells slots := by
  obtain ⟨d, rfl⟩ := d
  intro p l e R s m args below meth c Z A H0 hc H la locs hP hD hS hl
  obtain ⟨hx, hb, hml, hown, hts, hK, ⟨hR1, hR2, hR3⟩, hRl, ⟨hA, rfl, hE⟩, ⟨hnm, hN⟩, hret⟩ := id hc
  refine va_mmax hx hb (by rw [hml]; exact hl.1.symm) hown (hts _ lk) (hts _ zmax_st) (hts _ zmin_in) (hts _ zmax_co) (by omega) (by omega) (by omega) (by omega) d ?_
  have e9 : (Value.int (if Int32.ofInt x < Int32.ofInt y then Int32.ofInt y else Int32.ofInt x)) = iZ (if x < y then y else x) := by
    by_cases q : x < y
    · rw [if_pos q, if_pos ((zlt h).mpr q)]; rfl
    · rw [if_neg q, if_neg (fun z => q ((zlt h).mp z))]; rfl
  rw [e9]
  exact k _ _ _ _ _ _ _ _ _ _ _ _ _ hc _ _ _ hP hD hS hl
theorem QW_clone {a n idx : Nat} {f : Nat → Int} (d : decode M.2.1 pc = .ok (.invokevirtual idx, 3) ∧ pc + 3 = pc') (lk : Cond.methodLink M.1.cls idx ⟨"[B", "clone", "()Ljava/lang/Object;"⟩ ∈ zU) (hq : (a, .inl (cs 1, zarr 1 n f)) ∈ ws) (hfit : ∀ j : Nat, fits .byte (iZ (f j)) = true) (hcat : (st.map fun u => u.category).sum ≤ 8) (hfr : 1 ≤ fr) (hcm : cells + 1 ≤ mc ∧ slots + n ≤ ms) (k : ∀ q : Nat, QW v D cs M fr mc ms X pc' ls (.ref q :: st) (ws ++ [(q, .inl (cs 1, zarr 1 n f))]) (cells + 1) (slots + n)) : QW v D cs M fr mc ms X pc ls (.ref a :: st) ws cells slots := by
  obtain ⟨d, rfl⟩ := d
  obtain ⟨q0, hq0⟩ := List.getElem?_of_mem hq
  intro p l e R s m args below meth c Z A H0 hc H la locs hP hD hS hl
  obtain ⟨hx, hb, hml, hown, hts, hK, ⟨hR1, hR2, hR3⟩, hRl, ⟨hA, rfl, hE⟩, ⟨hnm, hN⟩, hret⟩ := id hc
  refine va_clone (ty := .byte) hx hb (by rw [hml]; exact hl.1.symm) hown (hts _ lk) (hts _ zclo_sm) (hts _ zclo_nt) (hts _ zclo_im) (hts _ zclo_se) hN.2.2 hK hP hD hS hA q0 1 hq0 rfl (hK.2 1 _ rfl).2 (fun i u hu => ?_) (by omega) (by omega) (by omega) (by show slots + n ≤ R.slots; omega) d (fun q H1 hK1 hP1 hD1 hS1 => ?_)
  · have hu' : (arrV (cs 1) n (fun j => .int (Int32.ofInt (f j)))).slots[i]? = some u := hu
    have hi : i < n := by
      have := (Array.getElem?_eq_some_iff.mp hu').1
      rwa [arrV_size] at this
    rw [arrV_read _ _ hi] at hu'
    cases hu'
    exact hfit i
  · exact k q _ _ _ _ _ _ _ _ _ _ _ _ _ hc _ _ _ hP1 hD1 hS1 hl
theorem QW_castB {a n idx : Nat} {f : Nat → Int} (d : decode M.2.1 pc = .ok (.checkcast idx, 3) ∧ pc + 3 = pc') (lk : Cond.classLink M.1.cls idx "[B" ∈ zU) (hq : (a, .inl (cs 1, zarr 1 n f)) ∈ ws) (k : QW v D cs M fr mc ms X pc' ls (.ref a :: st) ws cells slots) : QW v D cs M fr mc ms X pc ls (.ref a :: st) ws cells slots := by
  obtain ⟨d, rfl⟩ := d
  obtain ⟨q0, hq0⟩ := List.getElem?_of_mem hq
  intro p l e R s m args below meth c Z A H0 hc H la locs hP hD hS hl
  exact va_castA hc.1 hc.2.1 hc.2.2.2.1 (hc.2.2.2.2.1 _ lk) hP q0 hq0 (hc.2.2.2.2.2.1.2 1 _ rfl).2 d (k _ _ _ _ _ _ _ _ _ _ _ _ _ hc _ _ _ hP hD hS hl)

end QWR
