/-! THE CLAIM OUT OF ONE WALK OF THE LAW'S BODY. Your part is whole_start (and what it stands on); all else here is the same for every law, but numbers. -/
def R_law : String := "BeamBoardLaw"
def lw_P (b : Addr) (xs : List Int32) (args : Array Value) (s : State) : Prop := args = #[.ref b] ∧ s.IntsAt b xs ∧ xs.length ≤ 3072 ∧ (Jvm.Cond.and given_1 narrow_1).before args s = true
def lw_Q (_ : Array Value) (s : State) (o : Outcome) (t : State) : Prop := o = .returned (some (.int 1)) ∧ Framed s o t [] 600000 7302250
def lw_Z (below : List Frame) (a : Array Value) (s : State) : State → Prop := fun t => ∃ o, t.status = .running ∧ Ended t below o ∧ lw_Q a s o t
/-- the law's own end, with 1 on the stack, nothing written that was there before, its room as the claim has it -/
theorem lw_ret {p : Program} {l : Launch} {e : Env} {s : State} {m : MethodId} {below : List Frame} {meth : Method} {c : Code} {b : Nat} (hx : p.tables.exec = Jvm.exec) (hb : c.code = code) (hr : meth.sig.returnType = ret) (hlocks : meth.locks = false) {pc : Nat} {H : Heap} {ls : Array Slot} (hdg : decode code pc = .ok (.ireturn, 1)) : W p l e room_1 s m #[Value.ref b] below meth c H [] 600000 7302250 (lw_Z below #[Value.ref b] s) (F0 m pc ls [.int 1]) := by
  intro T hT X
  obtain ⟨fs, hret, hrun, hended, hW, hframe⟩ := X.leave (v := some (.int 1)) (hlocks := hlocks) (fun h => by rw [hr] at h; cases h)
  have hmeth' : T.vm.method? m = some meth := X.method'
  refine ⟨T.setFrames fs, ?_, .returned (some (.int 1)), hrun, hended, rfl, ⟨_, rfl⟩, hW, hframe⟩
  jvm_step X.here [X.here.top, hx, hb, hdg, hmeth', hr, ret, narrow_b1]
  (try refine ⟨rfl, ?_⟩); (try refine ⟨rfl, ?_⟩)
  first | (intro acts; rw [hret _ acts rfl rfl rfl]) | rw [hret _ _ rfl rfl rfl]
  exact Steps.refl _
/-- what holds at the law's entry: the machine, the code, the tables' words (any of lw_tbl by 'hts w (by decide +kernel)'), the script of L ints xs at the cell b, what the Statement gives of the start (any of its parts by flat_of_before) -/
def lw_At (p : Program) (s : State) (m : MethodId) (meth : Method) (c : Code) (b L : Nat) (xs : Nat → Int32) : Prop :=
  p.tables.exec = Jvm.exec ∧ c.code = code ∧ meth.sig.returnType = ret ∧ c.maxLocals = 4 ∧ s.vm.findClass R_law = some m.cls ∧ (∀ w ∈ lw_tbl, w.before #[Value.ref b] s = true) ∧ va_X b L xs s s.heap ∧ b < s.heap.size ∧ meth.locks = false ∧ (Jvm.Cond.and given_1 narrow_1).before #[Value.ref b] s = true
section LOOP
variable {G : zG} {p : Program} {l : Launch} {e : Env} {s : State} {m : MethodId} {below : List Frame} {meth : Method} {c : Code} {b L : Nat} {xs : Nat → Int32} {Z : State → Prop} {i : Int} {pc pc1 pc' : Nat} {st : List Value} {σ : zPH}
theorem LW_gt (C : zLC G p s m c b L xs) {x y off : Int} (d : decode zb_W_law pc = .ok (.if_icmp .gt off, 3) ∧ (pc : Int) + off = (pc' : Int) ∧ pc + 3 = pc1) (hx : zI x) (hy : zI y) (kt : y < x → LW G p l e s m below meth c b Z i pc' st σ) (kf : x ≤ y → LW G p l e s m below meth c b Z i pc1 st σ) : LW G p l e s m below meth c b Z i pc (iZ y :: iZ x :: st) σ := by
  obtain ⟨d1, d2, rfl⟩ := d
  exact fun H la locs hP hD hS hl => lv_icmp_gt C.1 C.2.1 d1 d2 (fun q => kt ((zlt ⟨hy, hx⟩).mp q) H la locs hP hD hS hl) (fun q => kf (Int.not_lt.mp (fun z => q ((zlt ⟨hy, hx⟩).mpr z))) H la locs hP hD hS hl)
theorem LW_tsin (C : zLC G p s m c b L xs) {x dflt lo hi off : Int} {offs : Array Int} {len : Nat} (d : decode zb_W_law pc = .ok (.tableswitch dflt lo hi offs, len) ∧ pc + len = pc1) (k : Int) (hx : x = k) (hk : zI k ∧ lo ≤ k ∧ k ≤ hi) (ho : offs[(k - lo).toNat]? = some off) (ht : (pc : Int) + off = (pc' : Int)) (kk : LW G p l e s m below meth c b Z i pc' st σ) : LW G p l e s m below meth c b Z i pc (iZ x :: st) σ := by
  subst hx
  have e1 : (Int32.ofInt x).toInt = x := Int32.toInt_ofInt_of_le (by omega) (by omega)
  exact fun H la locs hP hD hS hl => lv_tableIn C.1 C.2.1 d.1 (by rw [e1]; omega) (by rw [e1]; omega) (by rw [e1]; exact ho) ht (kk H la locs hP hD hS hl)
theorem LW_tsout (C : zLC G p s m c b L xs) {x dflt lo hi : Int} {offs : Array Int} {len : Nat} (d : decode zb_W_law pc = .ok (.tableswitch dflt lo hi offs, len) ∧ pc + len = pc1) (hx : zI x ∧ (x < lo ∨ hi < x)) (ht : (pc : Int) + dflt = (pc' : Int)) (kk : LW G p l e s m below meth c b Z i pc' st σ) : LW G p l e s m below meth c b Z i pc (iZ x :: st) σ := by
  have e1 : (Int32.ofInt x).toInt = x := Int32.toInt_ofInt_of_le (by omega) (by omega)
  exact fun H la locs hP hD hS hl => lv_tableOut C.1 C.2.1 d.1 (by rw [e1]; exact hx.2) ht (kk H la locs hP hD hS hl)
theorem LW_next (C : zLC G p s m c b L xs) (k : LW G p l e s m below meth c b Z (i + 6) 18 [] σ) : LW G p l e s m below meth c b Z i 1206 [] σ := by
  intro H la locs hP hD hS hl
  refine lv_iinc (k := 3) (v := Int32.ofInt (i + 6)) C.1 C.2.1 zd_W_law_1206.1 (zhas_lv hl) rfl (Int32.ofInt_add i 6).symm (by decide) rfl (fun la' h' => ?_)
  exact lv_goto C.1 C.2.1 zd_W_law_1209.1 zd_W_law_1209.2.1 (k H la' locs hP hD hS (zhas_set rfl h'))
theorem zend (C : zLC G p s m c b L xs) (hr : meth.sig.returnType = ret) (hlocks : meth.locks = false) : LW G p l e s m below meth c b (lw_Z below #[Value.ref b] s) i 1212 [] σ := by
  intro H la locs hP hD hS hl
  refine lv_iconst (v := 1) C.1 C.2.1 zd_W_law_1212.1 (by decide) ?_
  refine va_forget (fun q hq => hS.2.2 q hq) ?_
  refine W.widen (k := 600000) (n := 7302250) (Nat.le_of_ble_eq_true rfl) (Nat.le_of_ble_eq_true rfl) ?_
  exact lw_ret C.1 C.2.1 hr hlocks zd_W_law_1213.1
theorem zloop (C : zLC G p s m c b L xs) (hr : meth.sig.returnType = ret) (hlocks : meth.locks = false) : ∀ (n i : Nat) (σ : zPH), L < i + n → i ≤ L + 6 → zInv σ → LW G p l e s m below meth c b (lw_Z below #[Value.ref b] s) (i : Int) 18 [] σ := by
  have hL := C.2.2.2.2.2.2.2.2.2.2
  intro n
  induction n with
  | zero =>
    intro i σ h1 h2 hI
    refine LW_i C zd_W_law_18 (LW_s C zd_W_law_19 (LW_len C zd_W_law_20 (LW_bipush C zd_W_law_21 (by decide) (LW_isub C zd_W_law_23 (LW_gt C zd_W_law_24 (by omega) (by omega) (fun _ => ?_) (fun q => by omega))))))
    exact (zend C hr hlocks)
  | succ n ih =>
    intro i σ h1 h2 hI
    refine LW_i C zd_W_law_18 (LW_s C zd_W_law_19 (LW_len C zd_W_law_20 (LW_bipush C zd_W_law_21 (by decide) (LW_isub C zd_W_law_23 (LW_gt C zd_W_law_24 (by omega) (by omega) (fun _ => (zend C hr hlocks)) (fun q => ?_))))))
    have hi : 0 ≤ (i : Int) ∧ (i : Int) + 6 ≤ L := ⟨by omega, by omega⟩
    have nx : ∀ σ', zInv σ' → LW G p l e s m below meth c b (lw_Z below #[Value.ref b] s) (i : Int) 1206 [] σ' := fun σ' hI' => LW_next C (ih (i + 6) σ' (by omega) (by omega) hI')
    refine LW_s C zd_W_law_27 (LW_i C zd_W_law_28 (LW_ald C zd_W_law_29 (by omega) (LW_bipush C zd_W_law_30 (by decide) (LW_iand63 C zd_W_law_32 ?_))))
    generalize hx : (xs (i : Int).toNat).toInt % 64 = x
    have hxr : 0 ≤ x ∧ x < 64 := by omega
    clear hx
    by_cases q37 : x ≤ 37
    · rcases (show x = 0 ∨ x = 1 ∨ x = 2 ∨ x = 3 ∨ x = 4 ∨ x = 5 ∨ x = 6 ∨ x = 7 ∨ x = 8 ∨ x = 9 ∨ x = 10 ∨ x = 11 ∨ x = 12 ∨ x = 13 ∨ x = 14 ∨ x = 15 ∨ x = 16 ∨ x = 17 ∨ x = 18 ∨ x = 19 ∨ x = 20 ∨ x = 21 ∨ x = 22 ∨ x = 23 ∨ x = 24 ∨ x = 25 ∨ x = 26 ∨ x = 27 ∨ x = 28 ∨ x = 29 ∨ x = 30 ∨ x = 31 ∨ x = 32 ∨ x = 33 ∨ x = 34 ∨ x = 35 ∨ x = 36 ∨ x = 37 by omega) with hx | hx | hx | hx | hx | hx | hx | hx | hx | hx | hx | hx | hx | hx | hx | hx | hx | hx | hx | hx | hx | hx | hx | hx | hx | hx | hx | hx | hx | hx | hx | hx | hx | hx | hx | hx | hx | hx
      · exact LW_tsin C zd_W_law_33 0 hx (by decide) (off := 167) (pc' := 200) rfl (by decide) (zcase_0 C hi hI nx)
      · exact LW_tsin C zd_W_law_33 1 hx (by decide) (off := 230) (pc' := 263) rfl (by decide) (zcase_1 C hi hI nx)
      · exact LW_tsin C zd_W_law_33 2 hx (by decide) (off := 253) (pc' := 286) rfl (by decide) (zcase_2 C hi hI nx)
      · exact LW_tsin C zd_W_law_33 3 hx (by decide) (off := 266) (pc' := 299) rfl (by decide) (zcase_3 C hi hI nx)
      · exact LW_tsin C zd_W_law_33 4 hx (by decide) (off := 289) (pc' := 322) rfl (by decide) (zcase_4 C hi hI nx)
      · exact LW_tsin C zd_W_law_33 5 hx (by decide) (off := 312) (pc' := 345) rfl (by decide) (zcase_5 C hi hI nx)
      · exact LW_tsin C zd_W_law_33 6 hx (by decide) (off := 345) (pc' := 378) rfl (by decide) (zcase_6 C hi hI nx)
      · exact LW_tsin C zd_W_law_33 7 hx (by decide) (off := 388) (pc' := 421) rfl (by decide) (zcase_7 C hi hI nx)
      · exact LW_tsin C zd_W_law_33 8 hx (by decide) (off := 411) (pc' := 444) rfl (by decide) (zcase_8 C hi hI nx)
      · exact LW_tsin C zd_W_law_33 9 hx (by decide) (off := 424) (pc' := 457) rfl (by decide) (zcase_9 C hi hI nx)
      · exact LW_tsin C zd_W_law_33 10 hx (by decide) (off := 447) (pc' := 480) rfl (by decide) (zcase_10 C hi hI nx)
      · exact LW_tsin C zd_W_law_33 11 hx (by decide) (off := 460) (pc' := 493) rfl (by decide) (zcase_11 C hi hI nx)
      · exact LW_tsin C zd_W_law_33 12 hx (by decide) (off := 503) (pc' := 536) rfl (by decide) (zcase_12 C hi hI nx)
      · exact LW_tsin C zd_W_law_33 13 hx (by decide) (off := 526) (pc' := 559) rfl (by decide) (zcase_13 C hi hI nx)
      · exact LW_tsin C zd_W_law_33 14 hx (by decide) (off := 549) (pc' := 582) rfl (by decide) (zcase_14 C hi hI nx)
      · exact LW_tsin C zd_W_law_33 15 hx (by decide) (off := 572) (pc' := 605) rfl (by decide) (zcase_15 C hi hI nx)
      · exact LW_tsin C zd_W_law_33 16 hx (by decide) (off := 595) (pc' := 628) rfl (by decide) (zcase_16 C hi hI nx)
      · exact LW_tsin C zd_W_law_33 17 hx (by decide) (off := 618) (pc' := 651) rfl (by decide) (zcase_17 C hi hI nx)
      · exact LW_tsin C zd_W_law_33 18 hx (by decide) (off := 641) (pc' := 674) rfl (by decide) (zcase_18 C hi hI nx)
      · exact LW_tsin C zd_W_law_33 19 hx (by decide) (off := 674) (pc' := 707) rfl (by decide) (zcase_19 C hi hI nx)
      · exact LW_tsin C zd_W_law_33 20 hx (by decide) (off := 687) (pc' := 720) rfl (by decide) (zcase_20 C hi hI nx)
      · exact LW_tsin C zd_W_law_33 21 hx (by decide) (off := 726) (pc' := 759) rfl (by decide) (zcase_21 C hi hI nx)
      · exact LW_tsin C zd_W_law_33 22 hx (by decide) (off := 759) (pc' := 792) rfl (by decide) (zcase_22 C hi hI nx)
      · exact LW_tsin C zd_W_law_33 23 hx (by decide) (off := 792) (pc' := 825) rfl (by decide) (zcase_23 C hi hI nx)
      · exact LW_tsin C zd_W_law_33 24 hx (by decide) (off := 815) (pc' := 848) rfl (by decide) (zcase_24 C hi hI nx)
      · exact LW_tsin C zd_W_law_33 25 hx (by decide) (off := 838) (pc' := 871) rfl (by decide) (zcase_25 C hi hI nx)
      · exact LW_tsin C zd_W_law_33 26 hx (by decide) (off := 861) (pc' := 894) rfl (by decide) (zcase_26 C hi hI nx)
      · exact LW_tsin C zd_W_law_33 27 hx (by decide) (off := 874) (pc' := 907) rfl (by decide) (zcase_27 C hi hI nx)
      · exact LW_tsin C zd_W_law_33 28 hx (by decide) (off := 907) (pc' := 940) rfl (by decide) (zcase_28 C hi hI nx)
      · exact LW_tsin C zd_W_law_33 29 hx (by decide) (off := 960) (pc' := 993) rfl (by decide) (zcase_29 C hi hI nx)
      · exact LW_tsin C zd_W_law_33 30 hx (by decide) (off := 1003) (pc' := 1036) rfl (by decide) (zcase_30 C hi hI nx)
      · exact LW_tsin C zd_W_law_33 31 hx (by decide) (off := 1026) (pc' := 1059) rfl (by decide) (zcase_31 C hi hI nx)
      · exact LW_tsin C zd_W_law_33 32 hx (by decide) (off := 1049) (pc' := 1082) rfl (by decide) (zcase_32 C hi hI nx)
      · exact LW_tsin C zd_W_law_33 33 hx (by decide) (off := 1088) (pc' := 1121) rfl (by decide) (zcase_33 C hi hI nx)
      · exact LW_tsin C zd_W_law_33 34 hx (by decide) (off := 1111) (pc' := 1144) rfl (by decide) (zcase_34 C hi hI nx)
      · exact LW_tsin C zd_W_law_33 35 hx (by decide) (off := 1124) (pc' := 1157) rfl (by decide) (zcase_35 C hi hI nx)
      · exact LW_tsin C zd_W_law_33 36 hx (by decide) (off := 1137) (pc' := 1170) rfl (by decide) (zcase_36 C hi hI nx)
      · exact LW_tsin C zd_W_law_33 37 hx (by decide) (off := 1160) (pc' := 1193) rfl (by decide) (zcase_37 C hi hI nx)
    · exact LW_tsout C zd_W_law_33 ⟨⟨by omega, by omega⟩, Or.inr (by omega)⟩ (pc' := 1206) (by decide) (nx σ hI)
end LOOP
set_option maxHeartbeats 4000000 in
/-- from the entry, for every script of at most 3072 ints, the law comes to its end with true -/
theorem whole_start {p : Program} {e : Env} {s : State} {m : MethodId} {below : List Frame} {meth : Method} {c : Code} (l : Launch) (hflags : l.flags = flags0) {b L : Nat} {xs : Nat → Int32} (hL : L ≤ 3072) (C0 : lw_At p s m meth c b L xs) : W p l e room_1 s m #[Value.ref b] below meth c s.heap [] 0 0 (lw_Z below #[Value.ref b] s) (entryFrame m ([Value.ref b] : List Value).toArray 4) := by
  obtain ⟨hx, hb, hr, hml, hown, hts, hX, hbl, hlocks, hgv⟩ := id C0
  have hU : ∀ w ∈ zU, w.before #[Value.ref b] s = true := fun w hw => hts w (List.mem_filter.mp hw).1
  obtain ⟨D, cs, hK⟩ := zst_K hU
  have hN := zst_N hts
  have hZ := zst_S hts hgv
  have hP : va_P D zcl [] s.heap := fun k q h => by simp at h
  have hD : va_D (zlA s) [] := ⟨fun i j p q h => by simp at h, fun k q h => by simp at h⟩
  have hS : va_S (zlA s) s.heap s.heap [] := va_S.rf
  have hl := lv_entry ([.ref b]) (n := 4) (Nat.le_of_ble_eq_true rfl)
  rw [lg_entry_eq]
  generalize (lg_sl ([.ref b]) ++ List.replicate (4 - (lg_sl ([.ref b])).length) Slot.unset).toArray = ls at hl ⊢
  have hl : lv_has ls 4 [(0, .ref b)] := hl
  refine zlw_new (ws := []) (idx := 7) (ci' := 6) (st := []) hx hb hml hown hU hK hN hl.1 hP hD hS zd_W_law_0 zd_W_law_3 zd_W_law_4 rfl (zin1 17 (by decide +kernel) rfl) (zin1 18 (by decide +kernel) rfl) (zin1 1 (by decide +kernel) rfl) zo_B zinit_B zk_B_init rfl zl_W_9 rfl (zin1 20 (by decide +kernel) rfl) (Nat.le_of_ble_eq_true rfl) ⟨Nat.le_of_ble_eq_true rfl, Nat.le_of_ble_eq_true rfl⟩ (by decide) (fun q1 w1 H1 locs1 hX1 hP1 hD1 hS1 => ?_)
  refine lv_astore_n (lv' := [(1, .ref q1), (0, .ref b)]) hx hb zd_W_law_7.1 rfl hl (by decide) rfl (fun ls1 hl1 => ?_)
  refine zlw_new (ws := [] ++ w1) (idx := 10) (ci' := 7) (st := []) hx hb hml hown hU hK hN hl1.1 hP1 hD1 hS1 zd_W_law_8 zd_W_law_11 zd_W_law_12 rfl (zin4 144 (by decide +kernel) rfl) (zin4 145 (by decide +kernel) rfl) (zin1 8 (by decide +kernel) rfl) zo_M zinit_M zk_M_init rfl zl_W_12 rfl (zin4 147 (by decide +kernel) rfl) (Nat.le_of_ble_eq_true rfl) ⟨Nat.le_of_ble_eq_true rfl, Nat.le_of_ble_eq_true rfl⟩ (by decide) (fun q2 w2 H2 locs2 hX2 hP2 hD2 hS2 => ?_)
  refine lv_astore_n (lv' := [(2, .ref q2), (1, .ref q1), (0, .ref b)]) hx hb zd_W_law_15.1 rfl hl1 (by decide) rfl (fun ls2 hl2 => ?_)
  refine lv_iconst (v := 0) hx hb zd_W_law_16.1 (by decide) ?_
  refine lv_istore_n (lv' := [(3, .int 0), (2, .ref q2), (1, .ref q1), (0, .ref b)]) hx hb zd_W_law_17.1 rfl hl2 (by decide) rfl (fun ls3 hl3 => ?_)
  obtain ⟨ad, e0, e58, hperm⟩ := zst_p (D := D) (L := L) hX1 hX2
  have hP3 : va_P D zcl (zws (ad, D, cs, L) zs0) H2 := hP2.sub zperm (zfm hperm)
  have hD3 : va_D (zlA s) (zws (ad, D, cs, L) zs0) := hD2.sub zperm zperm_nd hperm
  have C : zLC (ad, D, cs, L) p s m c b L xs := ⟨hx, hb, hml, hown, hU, hK, hZ, fun q hq => by
    obtain ⟨a, ha, rfl⟩ := hq
    exact hD3.2 a _ (zws_at (G := (ad, D, cs, L)) (σ := zs0) ha), hX, hbl, hL⟩
  refine zloop C hr hlocks (L + 1) 0 zs0 (by omega) (by omega) zInv0 H2 ls3 locs2 hP3 hD3 hS2 ⟨hl3.1, hl3.2.1, fun j w hj => ?_⟩
  match j, hj with
  | 0, hj => cases hj; exact hl3.2.2 (0, .ref b) (by simp)
  | 1, hj => cases hj; show ls3[1]? = some (.val (.ref (ad 0))); rw [e0]; exact hl3.2.2 (1, .ref q1) (by simp)
  | 2, hj => cases hj; show ls3[2]? = some (.val (.ref (ad 58))); rw [e58]; exact hl3.2.2 (2, .ref q2) (by simp)
  | 3, hj => cases hj; exact hl3.2.2 (3, .int 0) (by simp)
  | j + 4, hj => simp at hj
set_option maxHeartbeats 4000000 in
theorem lw_walk (l : Launch) (hflags : l.flags = flags0) (b : Addr) (xs : List Int32) : MetFree l x (headSpec (Jvm.Cond.code x code maxLocals ret :: tables_1) room_1) (lw_P b xs) (fun _ _ _ _ _ => True) lw_Q := by
  refine MetFree.of_bodyS (code := code) (maxLocals := maxLocals) (ret := ret) (by decide) ?_ ?_
  · intro args s m h hn
    obtain ⟨meth, c, h1, h2, h3, h4, h5, h6, -, -⟩ := Cond.code_spec hn (atoms_spec (ws := Jvm.Cond.code x code maxLocals ret :: tables_1) h _ List.mem_cons_self)
    exact ⟨meth, c, h1, h2, h3, h4, h5, h6⟩
  · intro p e s m args below meth c s₁ B hml0 hP _
    obtain ⟨rfl, hx, hbd, hgv⟩ := hP
    obtain ⟨scr, harrAt, hlist, hof, hsmall⟩ := hx
    obtain ⟨hcb, hkn, -, -⟩ := State.arrayAt?_spec harrAt
    have hown : s.vm.findClass R_law = some m.cls := findClass_of_methodNamed B.named
    have hts0 : ∀ c ∈ (Jvm.Cond.code x code maxLocals ret :: tables_1), c.before #[Value.ref b] s = true := atoms_spec (ws := Jvm.Cond.code x code maxLocals ret :: tables_1) B.pre
    have hts : ∀ w ∈ lw_tbl, w.before #[Value.ref b] s = true := k2_hts_sels lw_privs (fun w hw => hts0 w (List.mem_cons_of_mem _ hw)) lw_privs_ok
    have hml : c.maxLocals = 4 := B.maxLocals_eq (hts0 _ List.mem_cons_self)
    have X₀ : Stand p l e room_1 s m #[Value.ref b] below meth c s₁ [] 0 0 := Stand.of_body B
    have hh0 : s₁.heap = s.heap := by rw [B.state]; rfl
    have hsz : scr.slots.size = xs.length := by rw [← Array.length_toList, hlist, List.length_map]
    have hval : ∀ j : Nat, j < xs.length → scr.slots[j]? = some (.int (xs.getD j 0)) := fun j hj => by
      rw [← Array.getElem?_toList, hlist]
      simp [hj]
    have hbl : b < s.heap.size := (Array.getElem?_eq_some_iff.mp hcb).1
    have hX : va_X b xs.length (fun j => xs.getD j 0) s s.heap := ⟨scr, hcb, hof, hkn, hsz, hval⟩
    have K : W p l e room_1 s m #[Value.ref b] below meth c s₁.heap [] 0 0 (lw_Z below #[Value.ref b] s) (entryFrame m ([Value.ref b] : List Value).toArray 4) := by
      rw [hh0]
      exact whole_start l hflags hbd ⟨B.exec, B.bytes, B.returns, hml, hown, hts, hX, hbl, B.notSynchronized, hgv⟩
    obtain ⟨t, a1, o, b1, b2, b3⟩ := K s₁ rfl X₀
    exact ⟨t, o, a1, b1, b2, b3⟩
theorem lw_pre_spec {args : Array Value} {s : State} (h : (Jvm.Cond.and given_1 narrow_1).before args s = true) (hr : rest_1_c.before args s = true) : ∃ (b : Addr) (xs : List Int32), lw_P b xs args s := by
  have hs := flat_of_before _ h
  have hq := flat_of_before _ hr
  have hc : (Cond.count 1).before args s = true := hs _ (by decide +kernel)
  have harr : (Cond.arrayOf (.arg 0) .int).before args s = true := hs _ (by decide +kernel)
  have hle : (Cond.le (.length (.arg 0)) (.int 3072)).before args s = true := hs _ (by decide +kernel)
  have hlen : (Cond.isInt (.length (.arg 0))).before args s = true := hq _ (by decide +kernel)
  have hall : (Cond.all (.arg 0) (.isInt (.elem (.arg 0) (.index 0)))).before args s = true := hq _ (by decide +kernel)
  obtain ⟨b, xs, hb, hx⟩ := State.ints_of_pre rfl harr hlen hall
  have hsm : xs.length < 2 ^ 31 := hx.choose_spec.2.2.2
  have hev : (Term.length (.arg 0)).eval args s none [] s = some (.int xs.length.toInt32) := hx.length_eval hb
  have hv := Cond.le_ints hev (show (Term.int 3072).eval args s none [] s = some (.int 3072) from rfl)
  have hd : xs.length.toInt32 ≤ 3072 := by
    simpa [Cond.before, Cond.holds, hv] using hle
  have hN : xs.length ≤ 3072 := (Int32.ofNat_le_ofNat hsm (by decide)).mp (show Int32.ofNat xs.length ≤ Int32.ofNat 3072 from hd)
  exact ⟨b, xs, Cond.one_arg hc (show args[0]? = some (.ref b) from hb), hx, hN, h⟩
theorem lw_comes (l : Launch) (hflags : l.flags = flags0) : Comes l x (Jvm.Cond.code x code maxLocals ret :: tables_1) room_1 (fun tb e args s => Calls_1 tb e args s ∧ rest_1 tb e args s ∧ Pre_1 tb e args s)
    (fun _ _ args s o t => lw_Q args s o t) := by
  intro p e ha hc hk s m args below hf hfit hheap happ hpre
  obtain ⟨b, xs, hP⟩ := lw_pre_spec hpre.2.2 hpre.2.1
  obtain ⟨k, o, h1, h2, h3, hQ⟩ := lw_walk l hflags b xs p e ha hc hk s m args below hf ((Spec.applies_iff_loose hf).mp happ).1 hP trivial
  exact ⟨k, o, h1, h2, h3, hQ⟩
theorem lw_frame {s t : State} {o : Outcome} {args : Array Value} (h : Framed s o t [] 600000 7302250) :
    Framed s o t (fieldLocs frame_1_writes args s ++ arrayLocs frame_1_arrays args s ++ staticLocs frame_1_statics s) 600000 7302250 := h
theorem lw_limb (L : Cond) (hL : ∀ (args : Array Value) (s t : State), L.after args s (.returned (some (.int 1))) t = true) :
    ArmFor flags0 classFile x code maxLocals ret World_1 tables_1 room_1 Calls_1 rest_1 Pre_1
      (fun tb e a s o t => postC L tb e a s o t ∧ Framed s o t (fieldLocs frame_1_writes a s ++ arrayLocs frame_1_arrays a s ++ staticLocs frame_1_statics s) 600000 7302250) := by
  intro l hflags _ _ p e ha hc hk s m args below hf hfit hheap happ hpre
  obtain ⟨k, o, h1, h2, h3, rfl, hF⟩ := lw_comes l hflags p e ha hc hk s m args below hf hfit hheap happ hpre
  exact ⟨k, _, h1, h2, h3, hL args s _, lw_frame hF⟩
theorem i_vc : Claimed_1_1 ∧ Claimed_1_2 := ⟨lw_limb limb_1_1 (fun args s t => by simp [limb_1_1, Cond.after, Cond.holds, Cond.value]), lw_limb limb_1_2 (fun args s t => Cond.after_iff.mpr (by
  first | (rw [show limb_1_2 = Cond.eq .result (.int 1) from rfl, Cond.eq_ints (x := 1) (y := 1) rfl rfl]; simp; done) | (simp [limb_1_2, Cond.value, Term.eval]; done)))⟩
