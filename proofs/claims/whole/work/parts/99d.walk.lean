/-! THE LAW's own walk: both objects made, between calls -/
def zlA (s : State) (q : Nat) : Prop := s.heap.size ≤ q
def zLC (G : zG) (p : Program) (s : State) (m : MethodId) (c : Code) (b L : Nat) (xs : Nat → Int32) : Prop :=
  p.tables.exec = Jvm.exec ∧ c.code = zb_W_law ∧ c.maxLocals = 4 ∧ s.vm.findClass zR_W = some m.cls ∧ (∀ w ∈ zU, w.before #[Value.ref b] s = true) ∧ va_K G.2.1 zcl (ztys G) s ∧ zStr (zlA s) s s.heap ∧ (∀ q, zA G q → zlA s q) ∧ (va_X b L xs s s.heap ∧ b < s.heap.size ∧ L ≤ 3072)
def LW (G : zG) (p : Program) (l : Launch) (e : Env) (s : State) (m : MethodId) (below : List Frame) (meth : Method) (c : Code) (b : Nat) (Z : State → Prop) (i : Int) (pc : Nat) (st : List Value) (σ : zPH) : Prop :=
  ∀ (H : Heap) (la : Array Slot) (locs : List Loc), va_P G.2.1 zcl (zws G σ) H → va_D (zlA s) (zws G σ) → va_S (zlA s) s.heap H locs → zHas la 4 [some (.ref b), some (zr G 0), some (zr G 58), some (iZ i)] → W p l e room_1 s m #[Value.ref b] below meth c H locs 93 39678 Z (F0 m pc la st)
theorem zxI (x : Int32) : zI x.toInt := by
  have h1 := Int32.le_toInt x
  have h2 := Int32.toInt_lt x
  exact ⟨by omega, by omega⟩
theorem zxV (x : Int32) : (Value.int x) = iZ x.toInt := by unfold iZ; rw [Int32.ofInt_toInt]
section LWS
variable {G : zG} {p : Program} {l : Launch} {e : Env} {s : State} {m : MethodId} {below : List Frame} {meth : Method} {c : Code} {b L : Nat} {xs : Nat → Int32} {Z : State → Prop} {i : Int} {pc pc1 pc2 pc3 pc4 pc' : Nat} {st st0 : List Value} {σ : zPH}
theorem LW_v {v : Value} (k : LW G p l e s m below meth c b Z i pc (v :: st) σ) : LW G p l e s m below meth c b Z i pc ((some v).toList ++ st) σ := k
theorem LW_x (C : zLC G p s m c b L xs) (d : decode zb_W_law pc = .ok (.aload_n 1, 1) ∧ pc + 1 = pc') (k : LW G p l e s m below meth c b Z i pc' (zr G 0 :: st) σ) : LW G p l e s m below meth c b Z i pc st σ := by
  obtain ⟨d, rfl⟩ := d
  exact fun H la locs hP hD hS hl => lv_aload_n C.1 C.2.1 d rfl (hl.2.2 1 _ rfl) (k H la locs hP hD hS hl)
theorem LW_m (C : zLC G p s m c b L xs) (d : decode zb_W_law pc = .ok (.aload_n 2, 1) ∧ pc + 1 = pc') (k : LW G p l e s m below meth c b Z i pc' (zr G 58 :: st) σ) : LW G p l e s m below meth c b Z i pc st σ := by
  obtain ⟨d, rfl⟩ := d
  exact fun H la locs hP hD hS hl => lv_aload_n C.1 C.2.1 d rfl (hl.2.2 2 _ rfl) (k H la locs hP hD hS hl)
theorem LW_s (C : zLC G p s m c b L xs) (d : decode zb_W_law pc = .ok (.aload_n 0, 1) ∧ pc + 1 = pc') (k : LW G p l e s m below meth c b Z i pc' (.ref b :: st) σ) : LW G p l e s m below meth c b Z i pc st σ := by
  obtain ⟨d, rfl⟩ := d
  exact fun H la locs hP hD hS hl => lv_aload_n C.1 C.2.1 d rfl (hl.2.2 0 _ rfl) (k H la locs hP hD hS hl)
theorem LW_i (C : zLC G p s m c b L xs) (d : decode zb_W_law pc = .ok (.iload_n 3, 1) ∧ pc + 1 = pc') (k : LW G p l e s m below meth c b Z i pc' (iZ i :: st) σ) : LW G p l e s m below meth c b Z i pc st σ := by
  obtain ⟨d, rfl⟩ := d
  exact fun H la locs hP hD hS hl => lv_iload_n C.1 C.2.1 d rfl (hl.2.2 3 _ rfl) (k H la locs hP hD hS hl)
theorem LW_iconst (C : zLC G p s m c b L xs) {n : Int} (d : decode zb_W_law pc = .ok (.iconst n, 1) ∧ pc + 1 = pc') (k : LW G p l e s m below meth c b Z i pc' (iZ n :: st) σ) : LW G p l e s m below meth c b Z i pc st σ := by
  obtain ⟨d, rfl⟩ := d
  exact fun H la locs hP hD hS hl => lv_iconst C.1 C.2.1 d rfl (k H la locs hP hD hS hl)
theorem LW_bipush (C : zLC G p s m c b L xs) {n : Int} (d : decode zb_W_law pc = .ok (.bipush n, 2) ∧ pc + 2 = pc') (hn : (Int8.ofInt n).toInt32 = Int32.ofInt n) (k : LW G p l e s m below meth c b Z i pc' (iZ n :: st) σ) : LW G p l e s m below meth c b Z i pc st σ := by
  obtain ⟨d, rfl⟩ := d
  exact fun H la locs hP hD hS hl => lv_bipush C.1 C.2.1 d hn (k H la locs hP hD hS hl)
theorem LW_iadd (C : zLC G p s m c b L xs) {x y : Int} (d : decode zb_W_law pc = .ok (.iadd, 1) ∧ pc + 1 = pc') (k : LW G p l e s m below meth c b Z i pc' (iZ (x + y) :: st) σ) : LW G p l e s m below meth c b Z i pc (iZ y :: iZ x :: st) σ := by
  obtain ⟨d, rfl⟩ := d
  have q9 := (Int32.ofInt_add x y).symm
  exact fun H la locs hP hD hS hl => lv_iadd C.1 C.2.1 d (by rw [q9]; exact k H la locs hP hD hS hl)
theorem LW_isub (C : zLC G p s m c b L xs) {x y : Int} (d : decode zb_W_law pc = .ok (.isub, 1) ∧ pc + 1 = pc') (k : LW G p l e s m below meth c b Z i pc' (iZ (x - y) :: st) σ) : LW G p l e s m below meth c b Z i pc (iZ y :: iZ x :: st) σ := by
  obtain ⟨d, rfl⟩ := d
  have q9 := (Int32.ofInt_sub x y).symm
  exact fun H la locs hP hD hS hl => lv_isub C.1 C.2.1 d (by rw [q9]; exact k H la locs hP hD hS hl)
theorem LW_iand63 (C : zLC G p s m c b L xs) {x : Int} (d : decode zb_W_law pc = .ok (.iand, 1) ∧ pc + 1 = pc') (k : LW G p l e s m below meth c b Z i pc' (iZ (x % 64) :: st) σ) : LW G p l e s m below meth c b Z i pc (iZ 63 :: iZ x :: st) σ := by
  obtain ⟨d, rfl⟩ := d
  have q9 := zandm_63 x
  exact fun H la locs hP hD hS hl => lv_iand C.1 C.2.1 d (by rw [q9]; exact k H la locs hP hD hS hl)
theorem LW_len (C : zLC G p s m c b L xs) (d : decode zb_W_law pc = .ok (.arraylength, 1) ∧ pc + 1 = pc') (k : LW G p l e s m below meth c b Z i pc' (iZ (L : Int) :: st) σ) : LW G p l e s m below meth c b Z i pc (.ref b :: st) σ := by
  obtain ⟨d, rfl⟩ := d
  exact fun H la locs hP hD hS hl => va_slen C.1 C.2.1 C.2.2.2.2.2.2.2.2.1 C.2.2.2.2.2.2.2.2.2.1 (Nat.not_le.mpr C.2.2.2.2.2.2.2.2.2.1) hS d (k H la locs hP hD hS hl)
theorem LW_ald (C : zLC G p s m c b L xs) {z : Int} (d : decode zb_W_law pc = .ok (.iaload, 1) ∧ pc + 1 = pc') (h : 0 ≤ z ∧ z < L) (k : LW G p l e s m below meth c b Z i pc' (iZ (xs z.toNat).toInt :: st) σ) : LW G p l e s m below meth c b Z i pc (iZ z :: .ref b :: st) σ := by
  obtain ⟨d, rfl⟩ := d
  have hL := C.2.2.2.2.2.2.2.2.2.2
  refine fun H la locs hP hD hS hl => va_sld C.1 C.2.1 C.2.2.2.2.2.2.2.2.1 C.2.2.2.2.2.2.2.2.2.1 (Nat.not_le.mpr C.2.2.2.2.2.2.2.2.2.1) hS (zvpin h (by omega)) d ?_
  rw [zclamp (by omega), zxV]
  exact k H la locs hP hD hS hl
/-- a component of the script -/
theorem LW_arg (C : zLC G p s m c b L xs) {j : Int} (h : 0 ≤ i ∧ i + 6 ≤ L) (hj : 0 ≤ j ∧ j < 6) (d1 : decode zb_W_law pc = .ok (.aload_n 0, 1) ∧ pc + 1 = pc1) (d2 : decode zb_W_law pc1 = .ok (.iload_n 3, 1) ∧ pc1 + 1 = pc2) (d3 : decode zb_W_law pc2 = .ok (.iconst j, 1) ∧ pc2 + 1 = pc3) (d4 : decode zb_W_law pc3 = .ok (.iadd, 1) ∧ pc3 + 1 = pc4) (d5 : decode zb_W_law pc4 = .ok (.iaload, 1) ∧ pc4 + 1 = pc')
    (k : LW G p l e s m below meth c b Z i pc' (iZ (xs (i + j).toNat).toInt :: st) σ) : LW G p l e s m below meth c b Z i pc st σ :=
  LW_s C d1 (LW_i C d2 (LW_iconst C d3 (LW_iadd C d4 (LW_ald C d5 (by omega) k))))
theorem LW_goto {off : Int} (C : zLC G p s m c b L xs) (d : decode zb_W_law pc = .ok (.goto off, 3) ∧ (pc : Int) + off = (pc' : Int) ∧ pc + 3 = pc1) (k : LW G p l e s m below meth c b Z i pc' st σ) : LW G p l e s m below meth c b Z i pc st σ :=
  fun H la locs hP hD hS hl => lv_goto C.1 C.2.1 d.1 d.2.1 (k H la locs hP hD hS hl)
/-- whether it isn't 0 -/
theorem LW_ne0 (C : zLC G p s m c b L xs) {x off off2 : Int} (hx : zI x) (d1 : decode zb_W_law pc = .ok (.ifCond .eq off, 3) ∧ (pc : Int) + off = (pc3 : Int) ∧ pc + 3 = pc1) (d2 : decode zb_W_law pc1 = .ok (.iconst 1, 1) ∧ pc1 + 1 = pc2) (d3 : decode zb_W_law pc2 = .ok (.goto off2, 3) ∧ (pc2 : Int) + off2 = (pc' : Int) ∧ pc2 + 3 = pc3) (d4 : decode zb_W_law pc3 = .ok (.iconst 0, 1) ∧ pc3 + 1 = pc')
    (k : ∀ w : Int, zI w → w = (if x = 0 then 0 else 1) → LW G p l e s m below meth c b Z i pc' (iZ w :: st) σ) : LW G p l e s m below meth c b Z i pc (iZ x :: st) σ := by
  intro H la locs hP hD hS hl
  obtain ⟨e1, e2, rfl⟩ := d1
  refine lv_if_eq C.1 C.2.1 e1 e2 (fun q => ?_) (fun q => ?_)
  · exact LW_iconst C d4 (k 0 (by decide) (by rw [if_pos ((zeq0 hx).mp q)])) H la locs hP hD hS hl
  · exact LW_iconst C d2 (LW_goto C d3 (k 1 (by decide) (by rw [if_neg (fun z => q ((zeq0 hx).mpr z))]))) H la locs hP hD hS hl
theorem LW_cmp (C : zLC G p s m c b L xs) {x off : Int} (d : decode zb_W_law pc = .ok (.if_icmp .eq off, 3) ∧ (pc : Int) + off = (pc' : Int) ∧ pc + 3 = pc1) (k : LW G p l e s m below meth c b Z i pc' st σ) : LW G p l e s m below meth c b Z i pc (iZ x :: iZ x :: st) σ :=
  fun H la locs hP hD hS hl => lv_icmp_eq C.1 C.2.1 d.1 d.2.1 (fun _ => k H la locs hP hD hS hl) (fun q => absurd rfl q)
/-- a call of the class's or of the model's -/
theorem LW_call (C : zLC G p s m c b L xs) {M' : zMi} {fr' np idx q ci : Nat} {tys : List Nat} {as : List Value} {vc : vw_C} (d : decode zb_W_law pc = .ok (.invokevirtual idx, 3) ∧ pc + 3 = pc') (lk : zLk zR_W idx M') (ok : zMok M' np) (mv : zMv M') (hfr : fr' ≤ 100) (hs : zsh G.2.2.2 q = .inl (ci, tys)) (hci : zcl[ci]? = some vc) (hcls : vc.1 = M'.1.cls) (hn : as.length = np) (hst : st0 = as.reverse ++ zr G q :: st) (hcat : (st.map fun v => v.category).sum ≤ 8)
    (call : MS G M' fr' (zr G q :: as) σ (fun v σ' => LW G p l e s m below meth c b Z i pc' (v.toList ++ st) σ')) : LW G p l e s m below meth c b Z i pc st0 σ := by
  obtain ⟨d, rfl⟩ := d
  intro H la locs hP hD hS hl
  obtain ⟨hx, hb, hml, hown, hts, hK, hZ, hAA, hX, hbl, hL⟩ := id C
  have hq := zws_at (G := G) (σ := σ) (zlt94 hs)
  simp only [zcell, hs, zent] at hq
  have hrec := va_recv hK hP hci hq
  rw [hcls] at hrec
  have hm := ok.2.2.2.1
  have cw : CallW room_1 s #[Value.ref b] zR_W M'.1.cls idx M'.1 M'.2.1 M'.2.2.1 M'.2.2.2 (zwd M') (zrm fr') 0 0 np :=
    ⟨callB_of np hts (zgood ok) rfl rfl rfl (hts _ ok.2.1) (hts _ lk) ok.2.2.1 ⟨by show fr' + 1 ≤ 2048; omega, by show 8 + (M'.2.2.1 + 11) + 40 * fr' ≤ 84000; omega⟩, hts _ mv.1, hts _ mv.2⟩
  have run := va_runV (l := l) (e := e) (below := below) (meth := meth) (locs := locs) (cells := 93) (slots := 39678) (g := F0 m pc la st0) (rest := st) ⟨hx, hb, hml, hown, hts⟩ (call l) cw ⟨zblind, hrec, fun U hU hW => ⟨rfl, by rw [hU]; exact hP, va_K.moved hW.alike hK, zD_to hD (fun _ _ => trivial), by rw [hU]; exact zStr_to hZ hS.2.1 hAA hW⟩⟩ rfl hn hl.1 hst (lv_room hcat) d ⟨Nat.le_of_ble_eq_true rfl, Nat.le_of_ble_eq_true rfl⟩
  intro T hT S
  obtain ⟨v, st₀, t, T', L', h0, S', hL', e1, e2, ⟨⟨v', σ', ho, hXv, hPt, hKt, hDt, -⟩, hz, hk⟩, st'⟩ := run T hT S
  cases ho
  rw [h0] at hz hk
  obtain ⟨t2, a1, b1⟩ := hXv T'.heap la (locs ++ L') (by rw [e1]; exact hPt) (zD_to hDt hAA) ⟨Nat.le_trans hS.1 (by rw [e1]; exact hz), fun q h1 h2 => by rw [e1, hk q (Nat.lt_of_lt_of_le h1 hS.1) (fun z => h2 (hAA q z))]; exact hS.2.1 q h1 h2, fun q hq => by
      rcases List.mem_append.mp hq with h | h
      · exact hS.2.2 q h
      · exact hAA _ (hL' q h)⟩ hl T' rfl S'
  exact ⟨t2, st' t2 a1, b1⟩
end LWS
