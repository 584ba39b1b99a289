/-- the classes of the three sorts of arrays -/
def zNt (cs : Nat → ClassId) : List (ClassId × FieldType) := [(cs 0, .int), (cs 1, .byte), (cs 2, .array .int)]
/-- the links to the nested classes' constructors -/
def zNst (U : State) : Prop := va_Nw (.methodLinkNest zR_R 17 zy_K_init zR_B) U ∧ va_Nw (.methodLinkNest zR_R 24 zy_T_init zR_B) U ∧ va_Nw (.methodLinkNest zR_B 15 zy_R_init zR_B) U ∧ va_Nw (.methodLinkNest zR_B 22 zy_T_init zR_B) U ∧ va_Nw (.methodLinkNest zR_B 29 zy_C_init zR_B) U ∧ va_Nw (.methodLinkNest zR_C 11 zy_L_init zR_B) U ∧ va_Nw (.methodLinkNest zR_B 36 zy_L_init zR_B) U ∧ va_Nw (.methodLinkNest zR_B 46 zy_S_init zR_B) U
theorem zNst_warm {s U : State} (hW : s.WarmedH U.vm) (h : zNst s) : zNst U := by
  obtain ⟨h1, h2, h3, h4, h5, h6, h7, h8⟩ := h
  exact ⟨va_Nw.warmM hW h1, va_Nw.warmM hW h2, va_Nw.warmM hW h3, va_Nw.warmM hW h4, va_Nw.warmM hW h5, va_Nw.warmM hW h6, va_Nw.warmM hW h7, va_Nw.warmM hW h8⟩
theorem zNst_calling {U : State} {g : JFrame} {mk : MethodId} {a : Array Value} (h : zNst U) : zNst (U.calling g mk a) := by
  obtain ⟨h1, h2, h3, h4, h5, h6, h7, h8⟩ := h
  exact ⟨va_Nw.same (u := U) rfl rfl h1, va_Nw.same (u := U) rfl rfl h2, va_Nw.same (u := U) rfl rfl h3, va_Nw.same (u := U) rfl rfl h4, va_Nw.same (u := U) rfl rfl h5, va_Nw.same (u := U) rfl rfl h6, va_Nw.same (u := U) rfl rfl h7, va_Nw.same (u := U) rfl rfl h8⟩
/-- a constructor's world: a list of cells that grows -/
def zNC (D : va_G) (cs : Nat → ClassId) (M : zMi) (fr mc ms : Nat) (XF : va_W → Prop) (p : Program) (l : Launch) (e : Env) (R : Room) (s : State) (m : MethodId) (args : Array Value) (below : List Frame) (meth : Method) (c : Code) (Z : State → Prop) (A : Nat → Prop) (H0 : Heap) : Prop :=
  p.tables.exec = Jvm.exec ∧ c.code = M.2.1 ∧ c.maxLocals = M.2.2.1 ∧ s.vm.findClass M.1.cls = some m.cls ∧ (∀ w ∈ zU, w.before args s = true) ∧ va_K D zcl (zNt cs) s ∧ (fr ≤ R.frames ∧ mc ≤ R.cells ∧ ms ≤ R.slots) ∧ 40 * fr ≤ R.locals ∧ (∀ q, H0.size ≤ q → A q) ∧ (meth.name = "<init>" ∧ zNst s) ∧
  (∀ (ws : va_W) (H : Heap) (locs : List Loc) (pc : Nat) (la : Array Slot), XF ws → va_P D zcl ws H → va_D A ws → va_S A H0 H locs → decode M.2.1 pc = .ok (.return_, 1) → W p l e R s m args below meth c H locs mc ms Z (F0 m pc la []))
def NW (D : va_G) (cs : Nat → ClassId) (M : zMi) (fr mc ms : Nat) (XF : va_W → Prop) (a : Nat) (pc : Nat) (st : List Value) (ws : va_W) (cells slots : Nat) : Prop :=
  ∀ (p : Program) (l : Launch) (e : Env) (R : Room) (s : State) (m : MethodId) (args : Array Value) (below : List Frame) (meth : Method) (c : Code) (Z : State → Prop) (A : Nat → Prop) (H0 : Heap), zNC D cs M fr mc ms XF p l e R s m args below meth c Z A H0 →
    ∀ (H : Heap) (la : Array Slot) (locs : List Loc), va_P D zcl ws H → va_D A ws → va_S A H0 H locs → zHas la M.2.2.1 [some (.ref a)] → W p l e R s m args below meth c H locs cells slots Z (F0 m pc la st)
section NW
variable {D : va_G} {cs : Nat → ClassId} {M : zMi} {fr mc ms : Nat} {XF : va_W → Prop} {a pc pc' : Nat} {st : List Value} {ws : va_W} {cells slots : Nat}
theorem NW_aload (d : decode M.2.1 pc = .ok (.aload_n 0, 1) ∧ pc + 1 = pc') (k : NW D cs M fr mc ms XF a pc' (.ref a :: st) ws cells slots) : NW D cs M fr mc ms XF a pc st ws cells slots := by
  obtain ⟨d, rfl⟩ := d
  exact fun p l e R s m args below meth c Z A H0 hc H la locs hP hD hS hl => lv_aload_n hc.1 hc.2.1 d rfl (hl.2.2 0 _ rfl) (k _ _ _ _ _ _ _ _ _ _ _ _ _ hc _ _ _ hP hD hS hl)
theorem NW_iconst {n : Int} (d : decode M.2.1 pc = .ok (.iconst n, 1) ∧ pc + 1 = pc') (k : NW D cs M fr mc ms XF a pc' (iZ n :: st) ws cells slots) : NW D cs M fr mc ms XF a pc st ws cells slots := by
  obtain ⟨d, rfl⟩ := d
  exact fun p l e R s m args below meth c Z A H0 hc H la locs hP hD hS hl => lv_iconst hc.1 hc.2.1 d rfl (k _ _ _ _ _ _ _ _ _ _ _ _ _ hc _ _ _ hP hD hS hl)
theorem NW_bipush {n : Int} (d : decode M.2.1 pc = .ok (.bipush n, 2) ∧ pc + 2 = pc') (hn : (Int8.ofInt n).toInt32 = Int32.ofInt n) (k : NW D cs M fr mc ms XF a pc' (iZ n :: st) ws cells slots) : NW D cs M fr mc ms XF a pc st ws cells slots := by
  obtain ⟨d, rfl⟩ := d
  exact fun p l e R s m args below meth c Z A H0 hc H la locs hP hD hS hl => lv_bipush hc.1 hc.2.1 d hn (k _ _ _ _ _ _ _ _ _ _ _ _ _ hc _ _ _ hP hD hS hl)
theorem NW_sipush {n : Int} (d : decode M.2.1 pc = .ok (.sipush n, 3) ∧ pc + 3 = pc') (hn : (Int16.ofInt n).toInt32 = Int32.ofInt n) (k : NW D cs M fr mc ms XF a pc' (iZ n :: st) ws cells slots) : NW D cs M fr mc ms XF a pc st ws cells slots := by
  obtain ⟨d, rfl⟩ := d
  exact fun p l e R s m args below meth c Z A H0 hc H la locs hP hD hS hl => lv_sipush hc.1 hc.2.1 d hn (k _ _ _ _ _ _ _ _ _ _ _ _ _ hc _ _ _ hP hD hS hl)
theorem NW_lconst {n : Fin 2} (d : decode M.2.1 pc = .ok (.lconst n, 1) ∧ pc + 1 = pc') (k : NW D cs M fr mc ms XF a pc' (lZ ((n : Nat) : Int) :: st) ws cells slots) : NW D cs M fr mc ms XF a pc st ws cells slots := by
  obtain ⟨d, rfl⟩ := d
  exact fun p l e R s m args below meth c Z A H0 hc H la locs hP hD hS hl => lv_lconst hc.1 hc.2.1 d (by exact (Int64.ofInt_eq_ofNat).symm) (k _ _ _ _ _ _ _ _ _ _ _ _ _ hc _ _ _ hP hD hS hl)
theorem NW_dup {x : Nat} (d : decode M.2.1 pc = .ok (.dup, 1) ∧ pc + 1 = pc') (k : NW D cs M fr mc ms XF a pc' (.ref x :: .ref x :: st) ws cells slots) : NW D cs M fr mc ms XF a pc (.ref x :: st) ws cells slots := by
  obtain ⟨d, rfl⟩ := d
  exact fun p l e R s m args below meth c Z A H0 hc H la locs hP hD hS hl => lv_dup hc.1 hc.2.1 d rfl (k _ _ _ _ _ _ _ _ _ _ _ _ _ hc _ _ _ hP hD hS hl)
/-- a field of the cell itself, final or not -/
theorem NW_put {idx ci kf q0 : Nat} {fs : List Value} {ds : String} {fty : FieldType} {v : Value} (d : decode M.2.1 pc = .ok (.putfield idx, 3) ∧ pc + 3 = pc') (f : zFL M.1.cls idx ci kf ds) (hq : ws[q0]? = some (a, .inr (ci, fs))) (hdecl : ∀ (C : String) (T : u_T) (N : Nat), zcl[ci]? = some (C, T, N) → (T kf).1 = M.1.cls) (hd : parseFieldDescriptor ds = some fty) (hn : narrow fty v = v) (hfit : fits fty v = true) (hl0 : kf < fs.length)
    (k : NW D cs M fr mc ms XF a pc' st (ws.set q0 (a, .inr (ci, fs.set kf v))) cells slots) : NW D cs M fr mc ms XF a pc (v :: .ref a :: st) ws cells slots := by
  obtain ⟨d, rfl⟩ := d
  obtain ⟨C, T, N, hcl, hk, hds, hw⟩ := f
  obtain ⟨hin, ⟨ty0, hty⟩, hnm⟩ := zcl_ok ci _ hcl
  intro p l e R s m args below meth c Z A H0 hc H la locs hP hD hS hl
  obtain ⟨hx, hb, hml, hown, hts, hK, hR, hR2, hA, hnam, hret⟩ := id hc
  by_cases hf : (T kf).2.2.2 = true
  · refine va_putF (v := v) (ty := fty) hx hb hts hin ty0 hty hnm hown hK hP hD hS q0 hq hcl kf hk (by rw [hds]; exact hts _ hw) (fun _ h9 => h9) hf hnam.1 (hdecl _ _ _ hcl) (by rw [hds]; exact hd) hn hfit hl0 d (fun H1 locs1 hP1 hD1 hS1 => ?_)
    exact k _ _ _ _ _ _ _ _ _ _ _ _ _ hc _ _ _ hP1 hD1 hS1 hl
  · refine va_put (v := v) (ty := fty) hx hb hts hin ty0 hty hnm hown hK hP hD hS q0 hq hcl kf hk (by rw [hds]; exact hts _ hw) (fun _ h9 => h9) (Bool.eq_false_iff.mpr hf) (by rw [hds]; exact hd) hn hfit hl0 d (fun H1 locs1 hP1 hD1 hS1 => ?_)
    exact k _ _ _ _ _ _ _ _ _ _ _ _ _ hc _ _ _ hP1 hD1 hS1 hl
theorem NW_ret (d : decode M.2.1 pc = .ok (.return_, 1)) (hX : XF ws) : NW D cs M fr mc ms XF a pc [] ws mc ms :=
  fun p l e R s m args below meth c Z A H0 hc H la locs hP hD hS hl => by
    obtain ⟨hx, hb, hml, hown, hts, hK, hR, hR2, hA, hnam, hret⟩ := id hc
    exact hret ws H locs pc la hX hP hD hS d
theorem NW_objI {idx : Nat} (d : decode M.2.1 pc = .ok (.invokespecial idx, 3) ∧ pc + 3 = pc') (lk : Cond.methodLink M.1.cls idx objectInit ∈ zU) (hfr : 1 ≤ fr) (hst : (st.map fun v => v.category).sum ≤ 8) (k : NW D cs M fr mc ms XF a pc' st ws cells slots) : NW D cs M fr mc ms XF a pc (.ref a :: st) ws cells slots := by
  obtain ⟨d, rfl⟩ := d
  intro p l e R s m args below meth c Z A H0 hc H la locs hP hD hS hl
  obtain ⟨hx, hb, hml, hown, hts, hK, hR, hR2, hA, hnam, hret⟩ := id hc
  have h1 : Cond.instanceMethod objectInit ∈ zU := zin1 26 (by decide +kernel) rfl
  have h2 : Cond.code objectInit ⟨#[0xb1]⟩ 1 none ∈ zU := zin1 27 (by decide +kernel) rfl
  refine W.objInit hx hb hown (hts _ lk) (hts _ h1) (hts _ h2) rfl (by rw [hml]; exact hl.1) rfl d (by omega) (Nat.le_trans (Nat.add_le_add_right (lv_room hst) 12) (by omega)) ?_
  exact W.eq (g2 := F0 m (pc + 3) la st) rfl (k _ _ _ _ _ _ _ _ _ _ _ _ _ hc _ _ _ hP hD hS hl)
theorem zNt_is {s : State} {cA : ClassId} {i : Nat} (hi : i < 2) (hK : va_K D zcl (zNt cs ++ [(cA, zety i)]) s) : cA = cs i := by
  have h1 := (hK.2 3 _ rfl).2
  rcases (show i = 0 ∨ i = 1 by omega) with rfl | rfl
  · exact Option.some.inj ((show s.vm.findClass _ = some cA from h1).symm.trans (show s.vm.findClass _ = some (cs 0) from (hK.2 0 _ rfl).2))
  · exact Option.some.inj ((show s.vm.findClass _ = some cA from h1).symm.trans (show s.vm.findClass _ = some (cs 1) from (hK.2 1 _ rfl).2))
theorem zarr_0 {i N : Nat} (hi : i < 2) (cA : ClassId) : vp_cell cA (zarr i N (fun _ => 0)) = arrV cA N (fun _ => defaultValue (zety i)) := by
  rcases (show i = 0 ∨ i = 1 by omega) with rfl | rfl <;> rfl
theorem NW_newa {i N : Nat} {at' : ArrayType} (d : decode M.2.1 pc = .ok (.newarray at', 2) ∧ pc + 2 = pc') (hi : i < 2) (ht : newarray.typeOf at' = zety i) (hw : Cond.arrayClass (zety i) ∈ zU) (hn : ¬ Int32.ofInt (N : Int) < 0 ∧ (Int32.ofInt (N : Int)).toNatClampNeg = N) (hN : N ≤ 60000) (hcm : cells + 1 ≤ mc ∧ slots + N ≤ ms)
    (k : ∀ q : Nat, NW D cs M fr mc ms XF a pc' (.ref q :: st) (ws ++ [(q, .inl (cs i, zarr i N (fun _ => 0)))]) (cells + 1) (slots + N)) : NW D cs M fr mc ms XF a pc (iZ (N : Int) :: st) ws cells slots := by
  obtain ⟨d, rfl⟩ := d
  intro p l e R s m args below meth c Z A H0 hc H la locs hP hD hS hl
  obtain ⟨hx, hb, hml, hown, hts, hK, hR, hR2, hA, hnam, hret⟩ := id hc
  have hcb : componentBytes (zety i) ≤ 8 := by
    rcases (show i = 0 ∨ i = 1 by omega) with rfl | rfl <;> decide
  refine va_newa hx hb (by rw [ht]; exact hts _ hw) ht hK hP hD hS hA (zarr_0 hi) hn.1 hn.2 (Nat.le_trans (Nat.mul_le_mul hN hcb) (by decide)) (by omega) (by omega) d (fun q cA H1 hK1 hP1 hD1 hS1 => ?_)
  have := zNt_is hi hK1
  subst this
  exact k q _ _ _ _ _ _ _ _ _ _ _ _ _ hc _ _ _ hP1 hD1 hS1 hl
end NW
