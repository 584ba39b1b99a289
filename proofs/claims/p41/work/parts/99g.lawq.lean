theorem xofWF {l : Launch} {y : MethodName} {ws ws' : List Cond} {rm : Room} {Pc : Array Value → State → Prop} {Qc : Array Value → State → Outcome → State → Prop} {mc ms : Nat} {free : Addr → Prop} {cc : ByteArray} {maxL : Nat} {ret : Option FieldType}
    (hy : plainFor y = true) (hw : ws = Cond.code y cc maxL ret :: ws')
    (body : ∀ p e s m args below meth c s₁, BodyLoose p l y (headSpec ws rm) cc maxL ret e s m args below meth c s₁ → c.maxLocals = maxL → Pc args s →
      W p l e (headSpec ws rm).room s m args below meth c s.heap [] 0 0 (MQ below Qc args s mc ms free) (entryFrame m args maxL)) : Met l y ws rm Pc Qc mc ms free := by
  refine MetFree.of_bodySF (code := cc) (maxLocals := maxL) (ret := ret) hy ?_ ?_
  · intro args s m h hn
    obtain ⟨meth, c, h1, h2, h3, h4, h5, h6, -, -⟩ := Cond.code_spec hn (atoms_spec (ws := ws) h _ (by rw [hw]; exact List.mem_cons_self))
    exact ⟨meth, c, h1, h2, h3, h4, h5, h6⟩
  · intro p e s m args below meth c s₁ B hml hP _
    have hh0 : s₁.heap = s.heap := by rw [B.state]; rfl
    obtain ⟨t, a1, o, b1, b2, b3⟩ := body p e s m args below meth c s₁ B hml hP s₁ hh0 (Stand.of_body B)
    exact ⟨t, o, a1, b1, b2, ⟨b3.1, b3.2⟩⟩
theorem qm_ofF {v : xEv} {D : va_G} {cs : Nat → ClassId} {M : zMi} {fr mc ms : Nat} {as : List Value} {ws : va_W} {X : xX} {ls : List (Option Value)} (hpf : plainFor M.1 = true) (hlen : (lg_sl as).length ≤ M.2.2.1) (hls : zargs M.2.2.1 as = ls) (k : QW v D cs M fr mc ms X 0 ls [] ws 0 0) : QM v D cs M fr mc ms as ws X := by
  intro l sz
  refine xofWF (cc := M.2.1) (maxL := M.2.2.1) (ret := M.2.2.2) hpf rfl ?_
  intro p e s m args below meth c s₁ B hml hv
  obtain ⟨rfl, hsz, hP, hK, hD0, hE, hN⟩ := hv
  have hx := B.exec
  have hb := B.bytes
  have hr := B.returns
  have hts := atoms_spec (ws := zwd M) B.pre
  have hown : s.vm.findClass M.1.cls = some m.cls := findClass_of_methodNamed B.named
  have hlocks := B.notSynchronized
  have hin : meth.name = M.1.name := (name_of_methodNamed B.named B.method).1
  subst hsz
  have hD := hD0.self (sz := s.heap.size)
  have hl := lv_entry as hlen
  rw [lg_entry_eq]
  generalize (lg_sl as ++ List.replicate (M.2.2.1 - (lg_sl as).length) Slot.unset).toArray = la at hl ⊢
  refine k p l e _ s m _ below meth c _ (va_A ws s.heap.size) s.heap ⟨hx, hb, hml, hown, fun w hw => hts w (List.mem_cons_of_mem _ hw), hK, ⟨Nat.le_refl _, Nat.le_refl _, Nat.le_refl _⟩, Nat.le_refl _, ⟨fun q h => Or.inr h, rfl, hE⟩, ⟨fun e => hin.trans e, hN⟩, ?_⟩ s.heap la [] hP hD va_S.rf ⟨hl.1, hl.2.1, fun j u hj => hl.2.2 (j, u) (zargs_in (by rw [hls]; exact hj))⟩
  intro u ws' H locs pc la' cells slots hXv hP' hD' hS' hret hc hs
  have fin : ∀ t : State, t.heap = H → s.WarmedH t.vm → xQ D cs X ws s.heap.size as.toArray s (.returned u) t := fun t ht hW => ⟨⟨u, ws', rfl, hXv, by rw [ht]; exact hP', va_K.moved hW.alike hK, hD'⟩, hS'.F ht⟩
  refine W.widen hc hs ?_
  rcases hret with ⟨d, z, ty, rfl, hty, hn⟩ | ⟨d, q, rfl, hC⟩ | ⟨d, rfl, hN'⟩
  · exact W.zret hx hb (by rw [hr]; exact hty) hn fin hS'.2.2 d
  · rcases hC with ⟨C, hC⟩ | ⟨t, hC⟩
    · exact W.aret hx hb (by rw [hr]; exact hC) (Or.inl ⟨C, rfl⟩) (Or.inr ⟨q, rfl⟩) fin hS'.2.2 d
    · exact W.aret hx hb (by rw [hr]; exact hC) (Or.inr ⟨t, rfl⟩) (Or.inr ⟨q, rfl⟩) fin hS'.2.2 d
  · exact W.vret hx hb (by rw [hr]; exact hN') fin hS'.2.2 d
theorem zgood0 {M : zMi} (oc : Cond.code M.1 M.2.1 M.2.2.1 M.2.2.2 ∈ zU) : GoodIn zU (zwd M) := by
  intro w hw
  have hU : w ∈ zU := by
    rcases List.mem_cons.mp hw with rfl | h
    · exact oc
    · exact h
  exact ⟨hU, good_of_word (List.mem_filter.mp hU).2⟩
theorem xxor {x y : Int} (hx : zI x) (hy : 0 ≤ y ∧ y < 2147483648) : ((Int32.ofInt x ^^^ Int32.ofInt y).toInt < 0 ↔ x < 0) := by
  have hm : ∀ a : Int32, (a.toInt < 0 ↔ a.toBitVec.msb = true) := fun a => by
    show a.toBitVec.toInt < 0 ↔ _
    rw [BitVec.msb_eq_toInt]
    simp
  have ex : (Int32.ofInt x).toInt = x := Int32.toInt_ofInt_of_le (by have := hx.1; simpa using this) (by have := hx.2; simpa using this)
  have ey : (Int32.ofInt y).toInt = y := Int32.toInt_ofInt_of_le (by simp; omega) (by simpa using hy.2)
  have h1 := hm (Int32.ofInt x)
  have h2 := hm (Int32.ofInt y)
  rw [ex] at h1
  rw [ey] at h2
  rw [hm, h1]
  have hy0 : (Int32.ofInt y).toBitVec.msb = false := by
    cases h : (Int32.ofInt y).toBitVec.msb
    · rfl
    · have := h2.mpr h; omega
  rw [Int32.toBitVec_xor, BitVec.msb_xor, hy0, Bool.xor_false]
theorem xtmod {x y : Int} (hx : zI x) (hy : 0 < y ∧ y < 2147483648) : Int32.ofInt x - Int32.ofInt x / Int32.ofInt y * Int32.ofInt y = Int32.ofInt (x.tmod y) := by
  have ex : (Int32.ofInt x).toInt = x := Int32.toInt_ofInt_of_le (by have := hx.1; simpa using this) (by have := hx.2; simpa using this)
  have ey : (Int32.ofInt y).toInt = y := Int32.toInt_ofInt_of_le (by simp; omega) (by simpa using hy.2)
  have ed : Int32.ofInt x / Int32.ofInt y = Int32.ofInt (x.tdiv y) := by
    apply Int32.toInt_inj.mp
    rw [Int32.toInt_div, ex, ey]
    rw [Int32.toInt_ofInt]
  rw [ed, ← Int32.ofInt_mul, ← Int32.ofInt_sub]
  congr 1
  have := Int.tmod_add_mul_tdiv x y
  have h2 : x.tdiv y * y = y * x.tdiv y := Int.mul_comm _ _
  omega
section LAWq
variable {v : xEv} {D : va_G} {cs : Nat → ClassId} {M M' : zMi} {fr mc ms fr' mc' ms' : Nat} {X X' : xX} {pc pc' pc1 pc2 : Nat} {ls : List (Option Value)} {st st0 : List Value} {ws wc wr : va_W} {cells slots : Nat} {x y z : Int}
theorem QW_iremT (d : decode M.2.1 pc = .ok (.irem, 1) ∧ pc + 1 = pc') (h : zI x ∧ 0 < y ∧ y < 2147483648) (k : QW v D cs M fr mc ms X pc' ls (iZ (x.tmod y) :: st) ws cells slots) : QW v D cs M fr mc ms X pc ls (iZ y :: iZ x :: st) ws cells slots := by
  obtain ⟨d, rfl⟩ := d
  have q9 := xtmod h.1 h.2
  exact fun p l e R s m args below meth c Z A H0 hc H la locs hP hD hS hl => lv_irem hc.1 hc.2.1 d (fun q => by rw [zeq0 (by omega)] at q; omega) (by rw [q9]; exact k _ _ _ _ _ _ _ _ _ _ _ _ _ hc _ _ _ hP hD hS hl)
theorem QW_callS0 {np idx : Nat} {as : List Value} (d : decode M.2.1 pc = .ok (.invokestatic idx, 3) ∧ pc + 3 = pc') (lk : zLk M.1.cls idx M') (oc : Cond.code M'.1 M'.2.1 M'.2.2.1 M'.2.2.2 ∈ zU) (oi : Cond.initialized M'.1.cls ∈ zU) (oh : M'.1.cls ≠ "java/lang/invoke/MethodHandle" ∧ M'.1.cls ≠ "java/lang/invoke/VarHandle" ∧ (parseMethodDescriptor M'.1.desc).map (fun d => d.parameters.length) = some np) (om : M'.2.2.1 ≤ 21) (mv : zMs M') (hfr : fr' + 1 ≤ fr) (hn : as.length = np) (hst : st0 = as.reverse ++ st) (hcat : (st.map fun u => u.category).sum ≤ 8) (hp : ws.Perm (wc ++ wr)) (hcm : cells + mc' ≤ mc ∧ slots + ms' ≤ ms) (call : QM v D cs M' fr' mc' ms' as wc X') (hX : ∀ u w1, X' u w1 → QW v D cs M fr mc ms X pc' ls (u.toList ++ st) (w1 ++ wr) (cells + mc') (slots + ms')) : QW v D cs M fr mc ms X pc ls st0 ws cells slots := by
  obtain ⟨d, rfl⟩ := d
  refine QW_perm hp ?_
  intro p l e R s m args below meth c Z A H0 hc H la locs hP hD hS hl
  obtain ⟨hx, hb, hml, hown, hts, hK, ⟨hR1, hR2, hR3⟩, hRl, ⟨hA, rfl, hE⟩, ⟨hnm, hN⟩, hret⟩ := id hc
  have hm := om
  have cw : CallB R s args M.1.cls idx M'.1 M'.2.1 M'.2.2.1 M'.2.2.2 (zwd M') { frames := fr', cells := mc', slots := ms', locals := 40 * fr' } mc' ms' np ∧ (Cond.static M'.1).before args s = true := ⟨callB_of np hts (zgood0 oc) rfl rfl rfl (hts _ oi) (hts _ lk) oh ⟨by show fr' + 1 ≤ _; omega, by show 8 + (M'.2.2.1 + 11) + 40 * fr' ≤ _; omega⟩, hts _ mv⟩
  exact xafter hX hc hP hD hS hl (va_runS (rest := st) ⟨hx, hb, hml, hown, hts⟩ (call l H.size) cw ⟨xblind, fun U hU hW => ⟨rfl, xpre hP hD hS hA hK hE hN U hU hW⟩⟩ rfl hn hl.1 hst (lv_room hcat) d ⟨by omega, by omega⟩)
end LAWq
section LAWr
variable {v : xEv} {D : va_G} {cs : Nat → ClassId} {X : xX}
set_option maxHeartbeats 1000000 in
theorem q_floorMod {x y : Int} (hx : zI x) (hy : 0 < y ∧ y < 2147483648) (hX : ∀ r, 0 ≤ r → r < y → X (some (iZ r)) []) : QM v D cs zm_JM_floorMod 0 0 0 [iZ x, iZ y] [] X := by
  refine qm_ofF (by decide +kernel) (Nat.le_of_ble_eq_true rfl) (ls := [some (iZ x), some (iZ y), none]) rfl ?_
  have hr1 := Int.tmod_lt_of_pos x hy.1
  have hr2 := Int.lt_tmod_of_pos x hy.1
  have hr3 : 0 ≤ x → 0 ≤ x.tmod y := fun h => Int.tmod_nonneg y h
  have e := xxor hx ⟨Int.le_of_lt hy.1, hy.2⟩
  have hz : zI (Int32.ofInt x ^^^ Int32.ofInt y).toInt := ⟨Int32.le_toInt _, Int32.toInt_lt _⟩
  have ez : Int32.ofInt x ^^^ Int32.ofInt y = Int32.ofInt (Int32.ofInt x ^^^ Int32.ofInt y).toInt := (Int32.ofInt_toInt _).symm
  generalize (Int32.ofInt x ^^^ Int32.ofInt y).toInt = z at e hz ez
  have hr4 : x < 0 → x.tmod y ≤ 0 := fun h => by
    have := Int.tmod_nonneg y (a := -x) (by omega)
    rw [Int.neg_tmod] at this
    omega
  refine QW_iload_n zd_JM_floorMod_0 rfl ?_
  refine QW_iload_n zd_JM_floorMod_1 rfl ?_
  refine QW_iremT zd_JM_floorMod_2 ⟨hx, hy⟩ ?_
  refine QW_istore_n zd_JM_floorMod_3 rfl (by decide) rfl ?_
  refine QW_iload_n zd_JM_floorMod_4 rfl ?_
  refine QW_iload_n zd_JM_floorMod_5 rfl ?_
  refine QW_ixorG zd_JM_floorMod_6 ez ?_
  have f18 : 0 ≤ x.tmod y → QW v D cs zm_JM_floorMod 0 0 0 X 18 [some (iZ x), some (iZ y), some (iZ (x.tmod y))] [] [] 0 0 := fun h => by
    refine QW_iload_n zd_JM_floorMod_18 rfl ?_
    exact QW_iret zd_JM_floorMod_19 rfl ⟨Nat.le_refl _, Nat.le_refl _⟩ (hX _ h hr1)
  have hzi : -2147483648 ≤ z ∧ z < 2147483648 := by have h1 := hz.1; have h2 := hz.2; constructor <;> (first | exact h1 | exact h2 | (simp at h1 h2; omega))
  refine QW_if_ge zd_JM_floorMod_7 hzi (fun hz => f18 (hr3 (by omega))) (fun hz => ?_)
  refine QW_iload_n zd_JM_floorMod_10 rfl ?_
  refine QW_if_eq zd_JM_floorMod_11 (by omega) (fun hz => f18 (by omega)) (fun hz => ?_)
  have hx0 : x < 0 := by omega
  have := hr4 hx0
  refine QW_iload_n zd_JM_floorMod_14 rfl ?_
  refine QW_iload_n zd_JM_floorMod_15 rfl ?_
  refine QW_iadd zd_JM_floorMod_16 ?_
  exact QW_iret zd_JM_floorMod_17 rfl ⟨Nat.le_refl _, Nat.le_refl _⟩ (hX _ (by omega) (by omega))
set_option maxHeartbeats 1000000 in
theorem q_pick {k : Int} (hk : zI k) (hX : ∀ r, zI r → X (some (iZ r)) []) : QM v D cs zm_W_pick 0 0 0 [.ref (v.2.2.1 3), iZ k] [] X := by
  refine qm_of zk_W_pick (Nat.le_of_ble_eq_true rfl) (ls := [some (.ref (v.2.2.1 3)), some (iZ k)]) rfl ?_
  have f17 : ∀ r, zI r → QW v D cs zm_W_pick 0 0 0 X 17 [some (.ref (v.2.2.1 3)), some (iZ k)] [iZ r] [] 0 0 := fun r h => QW_iret zd_W_pick_17 rfl ⟨Nat.le_refl _, Nat.le_refl _⟩ (hX r h)
  have f16 : QW v D cs zm_W_pick 0 0 0 X 16 [some (.ref (v.2.2.1 3)), some (iZ k)] [] [] 0 0 := QW_iconst zd_W_pick_16 (f17 0 (by decide))
  have hki : -2147483648 ≤ k ∧ k < 2147483648 := by have h1 := hk.1; have h2 := hk.2; constructor <;> (first | exact h1 | exact h2 | (simp at h1 h2; omega))
  refine QW_iload_n zd_W_pick_0 rfl ?_
  refine QW_if_lt zd_W_pick_1 hki (fun hz => f16) (fun hz => ?_)
  refine QW_iload_n zd_W_pick_4 rfl ?_
  refine QW_aload_n zd_W_pick_5 rfl ?_
  refine QW_slen zd_W_pick_6 (fun hL => ?_)
  refine QW_icmp_ge zd_W_pick_7 ⟨hki, by omega, by omega⟩ (fun hz => f16) (fun hz => ?_)
  refine QW_aload_n zd_W_pick_10 rfl ?_
  refine QW_iload_n zd_W_pick_11 rfl ?_
  refine QW_sld zd_W_pick_12 ⟨by omega, by omega⟩ ?_
  exact QW_goto zd_W_pick_13 (f17 _ ⟨Int32.le_toInt _, Int32.toInt_lt _⟩)
set_option maxHeartbeats 1000000 in
theorem q_pickn {k n : Int} (hk : zI k) (hn : 0 < n ∧ n < 2147483648) (hX : ∀ r, 0 ≤ r → r < n → X (some (iZ r)) []) : QM v D cs zm_W_pick_ 1 0 0 [.ref (v.2.2.1 3), iZ k, iZ n] [] X := by
  refine qm_of zk_W_pick_ (Nat.le_of_ble_eq_true rfl) (ls := [some (.ref (v.2.2.1 3)), some (iZ k), some (iZ n)]) rfl ?_
  refine QW_aload_n zd_W_pick__0 rfl ?_
  refine QW_iload_n zd_W_pick__1 rfl ?_
  refine QW_callS (wc := []) (wr := []) (as := [.ref (v.2.2.1 3), iZ k]) (mc' := 0) (ms' := 0) (X' := fun u w => ∃ r, zI r ∧ u = some (iZ r) ∧ w = []) zd_W_pick__2 zl_W_7 zk_W_pick zv_W_pick (fr' := 0) (by decide) rfl rfl (Nat.le_of_ble_eq_true rfl) (List.Perm.refl _) ⟨by omega, by omega⟩ (q_pick hk (fun r h => ⟨r, h, rfl, rfl⟩)) (fun u w h => ?_)
  obtain ⟨r, hr, rfl, rfl⟩ := h
  refine QW_iload_n zd_W_pick__5 rfl ?_
  refine QW_callS0 (np := 2) (wc := []) (wr := []) (as := [iZ r, iZ n]) (mc' := 0) (ms' := 0) (X' := fun u w => ∃ r, (0 ≤ r ∧ r < n) ∧ u = some (iZ r) ∧ w = []) zd_W_pick__6 zlfloorMod_W_13 zfm_co zmin_in (by decide +kernel) (by decide) zfm_st (fr' := 0) (by decide) rfl rfl (Nat.le_of_ble_eq_true rfl) (List.Perm.refl _) ⟨by omega, by omega⟩ (q_floorMod hr hn (fun r h1 h2 => ⟨r, ⟨h1, h2⟩, rfl, rfl⟩)) (fun u w h => ?_)
  obtain ⟨r2, hr2, rfl, rfl⟩ := h
  exact QW_iret zd_W_pick__9 rfl ⟨by omega, by omega⟩ (hX _ hr2.1 hr2.2)
/-- which constant is a colour's word -/
def xCol (c : Int) : Nat := if c = 1 then 3 else if c = 2 then 4 else if c = 4 then 5 else 6
theorem xCol_r (c : Int) : xCol c < 23 := by unfold xCol; split <;> (try split) <;> (try split) <;> decide
set_option maxHeartbeats 1000000 in
theorem q_colour {c : Int} (hc : 0 ≤ c ∧ c < 8) (hX : X (some (.ref (v.1 (xCol c)))) []) : QM v D cs zm_W_colour 0 0 0 [iZ c] [] X := by
  refine qm_of zk_W_colour (Nat.le_of_ble_eq_true rfl) (ls := [some (iZ c)]) rfl ?_
  have f32 : ∀ i, i = xCol c → QW v D cs zm_W_colour 0 0 0 X 32 [some (iZ c)] [.ref (v.1 i)] [] 0 0 := fun i h => by subst h; exact QW_aret zd_W_colour_32 (Or.inl ⟨_, rfl⟩) ⟨Nat.le_refl _, Nat.le_refl _⟩ hX
  refine QW_iload_n zd_W_colour_0 rfl ?_
  refine QW_iconst zd_W_colour_1 ?_
  refine QW_icmp_ne zd_W_colour_2 ⟨⟨by omega, by omega⟩, by decide, by decide⟩ (fun h1 => ?_) (fun h1 => ?_)
  rotate_left
  · exact QW_ldcS (i := 3) rfl zd_W_colour_5 (QW_goto zd_W_colour_7 (f32 3 (by unfold xCol; rw [if_pos h1])))
  refine QW_iload_n zd_W_colour_10 rfl ?_
  refine QW_iconst zd_W_colour_11 ?_
  refine QW_icmp_ne zd_W_colour_12 ⟨⟨by omega, by omega⟩, by decide, by decide⟩ (fun h2 => ?_) (fun h2 => ?_)
  rotate_left
  · exact QW_ldcS (i := 4) rfl zd_W_colour_15 (QW_goto zd_W_colour_17 (f32 4 (by unfold xCol; rw [if_neg h1, if_pos h2])))
  refine QW_iload_n zd_W_colour_20 rfl ?_
  refine QW_iconst zd_W_colour_21 ?_
  refine QW_icmp_ne zd_W_colour_22 ⟨⟨by omega, by omega⟩, by decide, by decide⟩ (fun h3 => ?_) (fun h3 => ?_)
  rotate_left
  · exact QW_ldcS (i := 5) rfl zd_W_colour_25 (QW_goto zd_W_colour_27 (f32 5 (by unfold xCol; rw [if_neg h1, if_neg h2, if_pos h3])))
  exact QW_ldcS (i := 6) rfl zd_W_colour_30 (f32 6 (by unfold xCol; rw [if_neg h1, if_neg h2, if_neg h3]))
abbrev xRow (cs : Nat → ClassId) (ra : Nat → Nat) (g : Nat → Nat → Int) (k : Nat) : Nat × va_E := (ra k, .inl (cs 0, zarr 0 3 (g k)))
abbrev xTop (cs : Nat → ClassId) (qa n : Nat) (ra : Nat → Nat) : Nat × va_E := (qa, .inl (cs 2, (n, .inr (.inr (.inr (.inr (fun k => if k < n then some (ra k) else none)))))))
/-- the law's int[n][3] at qa -/
def xGr (cs : Nat → ClassId) (qa n : Nat) (ra : Nat → Nat) (g : Nat → Nat → Int) : va_W := xTop cs qa n ra :: (List.range n).map (xRow cs ra g)
theorem xGr_top {cs : Nat → ClassId} {qa n : Nat} {ra : Nat → Nat} {g : Nat → Nat → Int} : xTop cs qa n ra ∈ xGr cs qa n ra g := List.mem_cons_self
theorem xGr_row {cs : Nat → ClassId} {qa n : Nat} {ra : Nat → Nat} {g : Nat → Nat → Int} {k : Nat} (h : k < n) : xRow cs ra g k ∈ xGr cs qa n ra g := List.mem_cons_of_mem _ (List.mem_map.mpr ⟨k, List.mem_range.mpr h, rfl⟩)
/-- one row beside the others -/
theorem xGr_split {cs : Nat → ClassId} {qa n : Nat} {ra : Nat → Nat} {g : Nat → Nat → Int} {k : Nat} (h : k < n) : ∃ rest : va_W, ∀ g' : Nat → Nat → Int, (∀ j, j ≠ k → g' j = g j) → (xGr cs qa n ra g').Perm (xRow cs ra g' k :: rest) := by
  refine ⟨xTop cs qa n ra :: ((List.range n).erase k).map (xRow cs ra g), fun g' hg => ?_⟩
  have p := List.perm_cons_erase (List.mem_range.mpr h)
  have e : ((List.range n).erase k).map (xRow cs ra g') = ((List.range n).erase k).map (xRow cs ra g) := List.map_congr_left fun j hj => by
    have : j ≠ k := fun e => by
      subst e
      exact (List.nodup_range.mem_erase_iff.mp hj).1 rfl
    simp only [xRow, hg j this]
  unfold xGr
  refine (List.Perm.cons _ (p.map (xRow cs ra g'))).trans ?_
  rw [List.map_cons, e]
  exact List.Perm.swap _ _ _
/-- how many of the first squares hold a sort of these -/
def xMany (g : Nat → Nat → Int) (lo hi : Int) : Nat → Nat
  | 0 => 0
  | k + 1 => xMany g lo hi k + if lo ≤ g k 0 ∧ g k 0 ≤ hi then 1 else 0
theorem xMany_le (g : Nat → Nat → Int) (lo hi : Int) : ∀ k, xMany g lo hi k ≤ k
  | 0 => Nat.le_refl _
  | k + 1 => by have := xMany_le g lo hi k; unfold xMany; split <;> omega
/-- the squares' sorts, colours or forms, ways, all in reach -/
def xOkR (g : Nat → Nat → Int) (n : Nat) : Prop := ∀ k, k < n → 0 ≤ g k 0 ∧ g k 0 < 10
set_option maxHeartbeats 1000000 in
theorem q_many {qa n : Nat} {ra : Nat → Nat} {g : Nat → Nat → Int} {lo hi : Int} (hn : n ≤ 100) (hg : xOkR g n) (hlo : 0 ≤ lo ∧ lo < 100) (hhi : 0 ≤ hi ∧ hi < 100) (hX : X (some (iZ (xMany g lo hi n : Nat))) (xGr cs qa n ra g)) : QM v D cs zm_W_many 0 0 0 [.ref qa, iZ lo, iZ hi] (xGr cs qa n ra g) X := by
  refine qm_of zk_W_many (Nat.le_of_ble_eq_true rfl) (ls := [some (.ref qa), some (iZ lo), some (iZ hi), none, none]) rfl ?_
  have loop : ∀ d i : Nat, i + d = n → QW v D cs zm_W_many 0 0 0 X 5 [some (.ref qa), some (iZ lo), some (iZ hi), some (iZ (xMany g lo hi i : Nat)), some (iZ (i : Int))] [] (xGr cs qa n ra g) 0 0 := by
    intro d
    induction d with
    | zero =>
      intro i hi'
      obtain rfl : i = n := hi'
      refine QW_iload zd_W_many_5 rfl ?_
      refine QW_aload_n zd_W_many_7 rfl ?_
      refine QW_rlen zd_W_many_8 xGr_top ?_
      refine QW_icmp_ge zd_W_many_9 ⟨⟨by omega, by omega⟩, by omega, by omega⟩ (fun hz => ?_) (fun hz => by omega)
      refine QW_iload_n zd_W_many_46 rfl ?_
      exact QW_iret zd_W_many_47 rfl ⟨Nat.le_refl _, Nat.le_refl _⟩ hX
    | succ d ih =>
      intro i hi'
      have hin : i < n := by omega
      have hgi := hg i hin
      have hle := xMany_le g lo hi i
      have e38 : ∀ z : Int, (xMany g lo hi (i + 1) : Nat) = (xMany g lo hi i : Nat) + z → QW v D cs zm_W_many 0 0 0 X 38 [some (.ref qa), some (iZ lo), some (iZ hi), some (iZ (xMany g lo hi i : Nat)), some (iZ (i : Int))] [iZ z, iZ (xMany g lo hi i : Nat)] (xGr cs qa n ra g) 0 0 := fun z hz => by
        refine QW_iadd zd_W_many_38 ?_
        refine QW_z hz.symm ?_
        refine QW_istore_n zd_W_many_39 rfl (by decide) rfl ?_
        refine QW_iinc zd_W_many_40 rfl rfl (by decide) rfl ?_
        exact QW_goto zd_W_many_43 (by have := ih (i + 1) (by omega); rwa [Int.natCast_add] at this)
      have e37 : ¬ (lo ≤ g i 0 ∧ g i 0 ≤ hi) → QW v D cs zm_W_many 0 0 0 X 37 [some (.ref qa), some (iZ lo), some (iZ hi), some (iZ (xMany g lo hi i : Nat)), some (iZ (i : Int))] [iZ (xMany g lo hi i : Nat)] (xGr cs qa n ra g) 0 0 := fun h => QW_iconst zd_W_many_37 (e38 0 (by rw [show xMany g lo hi (i + 1) = xMany g lo hi i + _ from rfl, if_neg h]; omega))
      refine QW_iload zd_W_many_5 rfl ?_
      refine QW_aload_n zd_W_many_7 rfl ?_
      refine QW_rlen zd_W_many_8 xGr_top ?_
      refine QW_icmp_ge zd_W_many_9 ⟨⟨by omega, by omega⟩, by omega, by omega⟩ (fun hz => by omega) (fun hz => ?_)
      refine QW_iload_n zd_W_many_12 rfl ?_
      refine QW_aload_n zd_W_many_13 rfl ?_
      refine QW_iload zd_W_many_14 rfl ?_
      refine QW_aald zd_W_many_16 (r := ra i) xGr_top ⟨by omega, by omega⟩ (by omega) (by rw [Int.toNat_natCast]; exact if_pos hin) ?_
      refine QW_iconst zd_W_many_17 ?_
      refine QW_iald zd_W_many_18 (xGr_row hin) ⟨by decide, by decide⟩ (by decide) ?_
      refine QW_z (show _ = g i 0 from rfl) ?_
      refine QW_iload_n zd_W_many_19 rfl ?_
      refine QW_icmp_lt zd_W_many_20 ⟨⟨by omega, by omega⟩, by omega, by omega⟩ (fun hz => e37 (by omega)) (fun hz => ?_)
      refine QW_aload_n zd_W_many_23 rfl ?_
      refine QW_iload zd_W_many_24 rfl ?_
      refine QW_aald zd_W_many_26 (r := ra i) xGr_top ⟨by omega, by omega⟩ (by omega) (by rw [Int.toNat_natCast]; exact if_pos hin) ?_
      refine QW_iconst zd_W_many_27 ?_
      refine QW_iald zd_W_many_28 (xGr_row hin) ⟨by decide, by decide⟩ (by decide) ?_
      refine QW_z (show _ = g i 0 from rfl) ?_
      refine QW_iload_n zd_W_many_29 rfl ?_
      refine QW_icmp_gt zd_W_many_30 ⟨⟨by omega, by omega⟩, by omega, by omega⟩ (fun hz => e37 (by omega)) (fun hz => ?_)
      refine QW_iconst zd_W_many_33 ?_
      refine QW_goto zd_W_many_34 (e38 1 (by rw [show xMany g lo hi (i + 1) = xMany g lo hi i + _ from rfl, if_pos (by omega)]; omega))
  refine QW_iconst zd_W_many_0 ?_
  refine QW_istore_n zd_W_many_1 rfl (by decide) rfl ?_
  refine QW_iconst zd_W_many_2 ?_
  refine QW_istore zd_W_many_3 rfl (by decide) rfl ?_
  exact loop n 0 (Nat.zero_add n)
end LAWr
