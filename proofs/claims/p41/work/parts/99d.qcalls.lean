section QWC
variable {v : xEv} {D : va_G} {cs : Nat → ClassId} {M M' : zMi} {fr mc ms fr' mc' ms' : Nat} {X X' : xX} {pc pc' pc1 pc2 : Nat} {ls : List (Option Value)} {st st0 : List Value} {ws wc wr : va_W} {cells slots : Nat} {x y z : Int}
theorem xfree {A : Nat → Prop} {wc wr : va_W} {H : Heap} (hD : va_D A (wc ++ wr)) (hA : ∀ q, H.size ≤ q → A q) : ∀ q, va_A wc H.size q → A q := by
  rintro q (⟨k, e, hk⟩ | h)
  · exact (xD_m.mp (xD_app.mp hD).1).2 _ (List.mem_of_getElem? hk)
  · exact hA _ h
theorem xafter {p : Program} {l : Launch} {e : Env} {R : Room} {s : State} {m : MethodId} {args : Array Value} {below : List Frame} {meth : Method} {c : Code} {Z : State → Prop} {A : Nat → Prop} {H0 H : Heap} {la : Array Slot} {locs : List Loc} {a : Array Value}
    (hX : ∀ u w1, X' u w1 → QW v D cs M fr mc ms X (pc + 3) ls (u.toList ++ st) (w1 ++ wr) (cells + mc') (slots + ms')) (hc : QC v D cs M fr mc ms X p l e R s m args below meth c Z A H0) (hP : va_P D zcl (wc ++ wr) H) (hD : va_D A (wc ++ wr)) (hS : va_S A H0 H locs) (hl : zHas la M.2.2.1 ls)
    (run : va_Run p l e R s m args below meth c H locs cells slots mc' ms' (F0 m pc la st0) st (xQ D cs X' wc H.size a) (va_A wc H.size)) : W p l e R s m args below meth c H locs cells slots Z (F0 m pc la st0) := by
  intro T hT S
  obtain ⟨u, st₀, t, T', L, h0, S', hL, e1, e2, ⟨⟨u', w1, ho, hXu, hPt, hKt, hDt⟩, hz, hk⟩, st'⟩ := run T hT S
  cases ho
  have hAs := hc.2.2.2.2.2.2.2.2.1.1
  have hH0 := hc.2.2.2.2.2.2.2.2.1.2.1
  have hA : ∀ q, H.size ≤ q → A q := fun q h => hAs q (by have := hS.1; rw [hH0] at this; omega)
  have hfr := xfree hD hA
  rw [h0] at hz hk
  obtain ⟨hP3, hD3⟩ := x_join (H1 := t.heap) hP hD hA hk hPt hDt
  obtain ⟨t2, a1, b1⟩ := hX u w1 hXu p l e R s m args below meth c Z A H0 hc T'.heap la (locs ++ L) (by rw [e1]; exact hP3) hD3 ⟨Nat.le_trans hS.1 (by rw [e1]; exact hz), fun q h1 h2 => by rw [e1, hk q (Nat.lt_of_lt_of_le h1 hS.1) (fun z => h2 (hfr q z))]; exact hS.2.1 q h1 h2, fun q hq => by
      rcases List.mem_append.mp hq with h | h
      · exact hS.2.2 q h
      · exact hfr _ (hL q h)⟩ hl T' rfl S'
  exact ⟨t2, st' t2 a1, b1⟩
theorem xpre {s : State} {A : Nat → Prop} {H : Heap} {locs : List Loc} (hP : va_P D zcl (wc ++ wr) H) (hD : va_D A (wc ++ wr)) (hS : va_S A s.heap H locs) (hA : ∀ q, s.heap.size ≤ q → A q) (hK : va_K D zcl (xNt cs) s) (hE : xEn v A s s.heap) (hN : xSt s) : ∀ U : State, U.heap = H → s.WarmedH U.vm → xB v D cs wc H.size U := fun U hU hW =>
  ⟨by rw [hU], by rw [hU]; exact (xP_app.mp hP).1, va_K.moved hW.alike hK, (xD_app.mp hD).1.weaken (fun _ _ _ _ => trivial), by rw [hU]; exact xEn_to hE hS.1 hS.2.1 (xfree hD (fun q h => hA q (Nat.le_trans hS.1 h))) hW, xSt_warm hW hN⟩
theorem zgoodU {w : Cond} (h : w ∈ zU) : w ∈ zU ∧ ((w.onTables && w.keeps) = true ∨ ∃ ty, w = .arrayClass ty) := ⟨h, good_of_word (List.mem_filter.mp h).2⟩
theorem QW_callS {np idx : Nat} {as : List Value} (d : decode M.2.1 pc = .ok (.invokestatic idx, 3) ∧ pc + 3 = pc') (lk : zLk M.1.cls idx M') (ok : zMok M' np) (mv : zMs M') (hfr : fr' + 1 ≤ fr) (hn : as.length = np) (hst : st0 = as.reverse ++ st) (hcat : (st.map fun u => u.category).sum ≤ 8) (hp : ws.Perm (wc ++ wr)) (hcm : cells + mc' ≤ mc ∧ slots + ms' ≤ ms) (call : QM v D cs M' fr' mc' ms' as wc X') (hX : ∀ u w1, X' u w1 → QW v D cs M fr mc ms X pc' ls (u.toList ++ st) (w1 ++ wr) (cells + mc') (slots + ms')) : QW v D cs M fr mc ms X pc ls st0 ws cells slots := by
  obtain ⟨d, rfl⟩ := d
  refine QW_perm hp ?_
  intro p l e R s m args below meth c Z A H0 hc H la locs hP hD hS hl
  obtain ⟨hx, hb, hml, hown, hts, hK, ⟨hR1, hR2, hR3⟩, hRl, ⟨hA, rfl, hE⟩, ⟨hnm, hN⟩, hret⟩ := id hc
  have hm := ok.2.2.2.1
  have cw : CallB R s args M.1.cls idx M'.1 M'.2.1 M'.2.2.1 M'.2.2.2 (zwd M') { frames := fr', cells := mc', slots := ms', locals := 40 * fr' } mc' ms' np ∧ (Cond.static M'.1).before args s = true := ⟨callB_of np hts (zgood ok) rfl rfl rfl (hts _ ok.2.1) (hts _ lk) ok.2.2.1 ⟨by show fr' + 1 ≤ _; omega, by show 8 + (M'.2.2.1 + 11) + 40 * fr' ≤ _; omega⟩, hts _ mv⟩
  exact xafter hX hc hP hD hS hl (va_runS (rest := st) ⟨hx, hb, hml, hown, hts⟩ (call l H.size) cw ⟨xblind, fun U hU hW => ⟨rfl, xpre hP hD hS hA hK hE hN U hU hW⟩⟩ rfl hn hl.1 hst (lv_room hcat) d ⟨by omega, by omega⟩)
theorem QW_callV {np idx b ci : Nat} {fs as : List Value} {vc : vw_C} (d : decode M.2.1 pc = .ok (.invokevirtual idx, 3) ∧ pc + 3 = pc') (lk : zLk M.1.cls idx M') (ok : zMok M' np) (mv : zMv M') (hfr : fr' + 1 ≤ fr) (hb0 : (b, .inr (ci, fs)) ∈ wc) (hci : zcl[ci]? = some vc) (hcls : vc.1 = M'.1.cls) (hn : as.length = np) (hst : st0 = as.reverse ++ .ref b :: st) (hcat : (st.map fun u => u.category).sum ≤ 8) (hp : ws.Perm (wc ++ wr)) (hcm : cells + mc' ≤ mc ∧ slots + ms' ≤ ms) (call : QM v D cs M' fr' mc' ms' (.ref b :: as) wc X') (hX : ∀ u w1, X' u w1 → QW v D cs M fr mc ms X pc' ls (u.toList ++ st) (w1 ++ wr) (cells + mc') (slots + ms')) : QW v D cs M fr mc ms X pc ls st0 ws cells slots := by
  obtain ⟨d, rfl⟩ := d
  refine QW_perm hp ?_
  intro p l e R s m args below meth c Z A H0 hc H la locs hP hD hS hl
  obtain ⟨hx, hb, hml, hown, hts, hK, ⟨hR1, hR2, hR3⟩, hRl, ⟨hA, rfl, hE⟩, ⟨hnm, hN⟩, hret⟩ := id hc
  have hm := ok.2.2.2.1
  obtain ⟨q0, hq0⟩ := List.getElem?_of_mem (List.mem_append_left wr hb0)
  have hrec := va_recv hK hP hci hq0
  rw [hcls] at hrec
  have cw : CallW R s args M.1.cls M'.1.cls idx M'.1 M'.2.1 M'.2.2.1 M'.2.2.2 (zwd M') { frames := fr', cells := mc', slots := ms', locals := 40 * fr' } mc' ms' np := ⟨callB_of np hts (zgood ok) rfl rfl rfl (hts _ ok.2.1) (hts _ lk) ok.2.2.1 ⟨by show fr' + 1 ≤ _; omega, by show 8 + (M'.2.2.1 + 11) + 40 * fr' ≤ _; omega⟩, hts _ mv.1, hts _ mv.2⟩
  exact xafter hX hc hP hD hS hl (va_runV (rest := st) ⟨hx, hb, hml, hown, hts⟩ (call l H.size) cw ⟨xblind, hrec, fun U hU hW => ⟨rfl, xpre hP hD hS hA hK hE hN U hU hW⟩⟩ rfl hn hl.1 hst (lv_room hcat) d ⟨by omega, by omega⟩)
theorem QW_callK {np idx i : Nat} {as : List Value} (d : decode M.2.1 pc = .ok (.invokevirtual idx, 3) ∧ pc + 3 = pc') (lk : zLk M.1.cls idx M') (ok : zMok M' np) (mv : zMv M') (hfr : fr' + 1 ≤ fr) (hi : i < 23) (hcls : M'.1.cls = "java/lang/String") (hn : as.length = np) (hst : st0 = as.reverse ++ .ref (v.1 i) :: st) (hcat : (st.map fun u => u.category).sum ≤ 8) (hp : ws.Perm (wc ++ wr)) (hcm : cells + mc' ≤ mc ∧ slots + ms' ≤ ms) (call : QM v D cs M' fr' mc' ms' (.ref (v.1 i) :: as) wc X') (hX : ∀ u w1, X' u w1 → QW v D cs M fr mc ms X pc' ls (u.toList ++ st) (w1 ++ wr) (cells + mc') (slots + ms')) : QW v D cs M fr mc ms X pc ls st0 ws cells slots := by
  obtain ⟨d, rfl⟩ := d
  refine QW_perm hp ?_
  intro p l e R s m args below meth c Z A H0 hc H la locs hP hD hS hl
  obtain ⟨hx, hb, hml, hown, hts, hK, ⟨hR1, hR2, hR3⟩, hRl, ⟨hA, rfl, hE⟩, ⟨hnm, hN⟩, hret⟩ := id hc
  have hm := ok.2.2.2.1
  have hrec := vk_recv hE.2.1 hi hS
  rw [← hcls] at hrec
  have cw : CallW R s args M.1.cls M'.1.cls idx M'.1 M'.2.1 M'.2.2.1 M'.2.2.2 (zwd M') { frames := fr', cells := mc', slots := ms', locals := 40 * fr' } mc' ms' np := ⟨callB_of np hts (zgood ok) rfl rfl rfl (hts _ ok.2.1) (hts _ lk) ok.2.2.1 ⟨by show fr' + 1 ≤ _; omega, by show 8 + (M'.2.2.1 + 11) + 40 * fr' ≤ _; omega⟩, hts _ mv.1, hts _ mv.2⟩
  exact xafter hX hc hP hD hS hl (va_runV (rest := st) ⟨hx, hb, hml, hown, hts⟩ (call l H.size) cw ⟨xblind, hrec, fun U hU hW => ⟨rfl, xpre hP hD hS hA hK hE hN U hU hW⟩⟩ rfl hn hl.1 hst (lv_room hcat) d ⟨by omega, by omega⟩)
/-- a member that the receiver's class inherits -/
theorem QW_callU {np idx b ci : Nat} {fs as : List Value} {vc : vw_C} (d : decode M.2.1 pc = .ok (.invokevirtual idx, 3) ∧ pc + 3 = pc') (lk : zLk M.1.cls idx M') (ok : zMok M' np) (hsm : Cond.sameMethod M'.1.cls M'.1.cls M'.1.name M'.1.desc ∈ zU) (hse : Cond.selects vc.1 M'.1 M'.1 ∈ zU) (him : Cond.instanceMethod M'.1 ∈ zU) (hfr : fr' + 1 ≤ fr) (hb0 : (b, .inr (ci, fs)) ∈ wc) (hci : zcl[ci]? = some vc) (hn : as.length = np) (hst : st0 = as.reverse ++ .ref b :: st) (hcat : (st.map fun u => u.category).sum ≤ 8) (hp : ws.Perm (wc ++ wr)) (hcm : cells + mc' ≤ mc ∧ slots + ms' ≤ ms) (call : QM v D cs M' fr' mc' ms' (.ref b :: as) wc X') (hX : ∀ u w1, X' u w1 → QW v D cs M fr mc ms X pc' ls (u.toList ++ st) (w1 ++ wr) (cells + mc') (slots + ms')) : QW v D cs M fr mc ms X pc ls st0 ws cells slots := by
  obtain ⟨d, rfl⟩ := d
  refine QW_perm hp ?_
  intro p l e R s m args below meth c Z A H0 hc H la locs hP hD hS hl
  obtain ⟨hx, hb, hml, hown, hts, hK, ⟨hR1, hR2, hR3⟩, hRl, ⟨hA, rfl, hE⟩, ⟨hnm, hN⟩, hret⟩ := id hc
  have hm := ok.2.2.2.1
  obtain ⟨q0, hq0⟩ := List.getElem?_of_mem (List.mem_append_left wr hb0)
  have hrec := va_recv hK hP hci hq0
  have gi : GoodIn zU (va_wsU M.1.cls idx vc.1 M'.1.cls M'.1 M'.1 (zwd M')) := by
    intro w hw
    rcases List.mem_append.mp hw with h | h
    · simp only [List.mem_cons, List.not_mem_nil, or_false] at h
      rcases h with rfl | rfl | rfl | rfl | rfl
      · exact zgoodU lk
      · exact zgoodU hsm
      · exact zgoodU hse
      · exact zgoodU him
      · exact zgoodU ok.2.1
    · exact zgood ok w h
  have cw : va_CU R s args M.1.cls vc.1 M'.1.cls idx M'.1 M'.1 M'.2.1 M'.2.2.1 M'.2.2.2 (zwd M') { frames := fr', cells := mc', slots := ms', locals := 40 * fr' } mc' ms' np := va_cwU np hts gi rfl rfl rfl rfl ok.2.2.1 ⟨by show fr' + 1 ≤ _; omega, by show 8 + (M'.2.2.1 + 11) + 40 * fr' ≤ _; omega⟩
  exact xafter hX hc hP hD hS hl (va_runU (rest := st) ⟨hx, hb, hml, hown, hts⟩ (call l H.size) cw ⟨xblind, hrec, fun U hU hW => ⟨rfl, xpre hP hD hS hA hK hE hN U hU hW⟩⟩ rfl hn hl.1 hst (lv_room hcat) d ⟨by omega, by omega⟩)
/-- a member that the receiver's class has anew: xm named, M' selected -/
theorem QW_callO {np idx b ci : Nat} {fs as : List Value} {vc : vw_C} {xm : zMi} (d : decode M.2.1 pc = .ok (.invokevirtual idx, 3) ∧ pc + 3 = pc') (lk : zLk M.1.cls idx xm) (okx : zMok xm np) (ok : zMok M' np) (hsm : Cond.sameMethod xm.1.cls xm.1.cls xm.1.name xm.1.desc ∈ zU) (hix : Cond.instanceMethod xm.1 ∈ zU) (hse : Cond.selects vc.1 xm.1 M'.1 ∈ zU) (him : Cond.instanceMethod M'.1 ∈ zU) (hfr : fr' + 1 ≤ fr) (hb0 : (b, .inr (ci, fs)) ∈ wc) (hci : zcl[ci]? = some vc) (hn : as.length = np) (hst : st0 = as.reverse ++ .ref b :: st) (hcat : (st.map fun u => u.category).sum ≤ 8) (hp : ws.Perm (wc ++ wr)) (hcm : cells + mc' ≤ mc ∧ slots + ms' ≤ ms) (call : QM v D cs M' fr' mc' ms' (.ref b :: as) wc X') (hX : ∀ u w1, X' u w1 → QW v D cs M fr mc ms X pc' ls (u.toList ++ st) (w1 ++ wr) (cells + mc') (slots + ms')) : QW v D cs M fr mc ms X pc ls st0 ws cells slots := by
  obtain ⟨d, rfl⟩ := d
  refine QW_perm hp ?_
  intro p l e R s m args below meth c Z A H0 hc H la locs hP hD hS hl
  obtain ⟨hx, hb, hml, hown, hts, hK, ⟨hR1, hR2, hR3⟩, hRl, ⟨hA, rfl, hE⟩, ⟨hnm, hN⟩, hret⟩ := id hc
  have hm := ok.2.2.2.1
  obtain ⟨q0, hq0⟩ := List.getElem?_of_mem (List.mem_append_left wr hb0)
  have hrec := va_recv hK hP hci hq0
  have gi : GoodIn zU (va_wsO M.1.cls idx vc.1 xm.1.cls xm.1 M'.1 (zwd M')) := by
    intro w hw
    rcases List.mem_append.mp hw with h | h
    · simp only [List.mem_cons, List.not_mem_nil, or_false] at h
      rcases h with rfl | rfl | rfl | rfl | rfl | rfl
      · exact zgoodU lk
      · exact zgoodU hsm
      · exact zgoodU hix
      · exact zgoodU hse
      · exact zgoodU him
      · exact zgoodU ok.2.1
    · exact zgood ok w h
  have cw : va_CU R s args M.1.cls vc.1 xm.1.cls idx xm.1 M'.1 M'.2.1 M'.2.2.1 M'.2.2.2 (zwd M') { frames := fr', cells := mc', slots := ms', locals := 40 * fr' } mc' ms' np := va_cwO np hts gi rfl rfl rfl okx.1 okx.2.2.1 ⟨by show fr' + 1 ≤ _; omega, by show 8 + (M'.2.2.1 + 11) + 40 * fr' ≤ _; omega⟩
  exact xafter hX hc hP hD hS hl (va_runU (rest := st) ⟨hx, hb, hml, hown, hts⟩ (call l H.size) cw ⟨xblind, hrec, fun U hU hW => ⟨rfl, xpre hP hD hS hA hK hE hN U hU hW⟩⟩ rfl hn hl.1 hst (lv_room hcat) d ⟨by omega, by omega⟩)
/-- a constructor -/
theorem QW_callI {np idx b : Nat} {as : List Value} (d : decode M.2.1 pc = .ok (.invokespecial idx, 3) ∧ pc + 3 = pc') (lk : zLk M.1.cls idx M') (ok : zMok M' np) (hr0 : M'.2.2.2 = none) (hnm' : M'.1.name = "<init>") (him : Cond.instanceMethod M'.1 ∈ zU) (hfr : fr' + 1 ≤ fr) (hn : as.length = np) (hst : st0 = as.reverse ++ .ref b :: st) (hcat : (st.map fun u => u.category).sum ≤ 8) (hp : ws.Perm (wc ++ wr)) (hcm : cells + mc' ≤ mc ∧ slots + ms' ≤ ms) (call : QM v D cs M' fr' mc' ms' (.ref b :: as) wc X') (hX : ∀ u w1, X' u w1 → QW v D cs M fr mc ms X pc' ls (u.toList ++ st) (w1 ++ wr) (cells + mc') (slots + ms')) : QW v D cs M fr mc ms X pc ls st0 ws cells slots := by
  obtain ⟨d, rfl⟩ := d
  refine QW_perm hp ?_
  intro p l e R s m args below meth c Z A H0 hc H la locs hP hD hS hl
  obtain ⟨hx, hb, hml, hown, hts, hK, ⟨hR1, hR2, hR3⟩, hRl, ⟨hA, rfl, hE⟩, ⟨hnm, hN⟩, hret⟩ := id hc
  have hm := ok.2.2.2.1
  have cw : CallB R s args M.1.cls idx M'.1 M'.2.1 M'.2.2.1 none (zwd M') { frames := fr', cells := mc', slots := ms', locals := 40 * fr' } mc' ms' np ∧ M'.1.name = "<init>" ∧ (Cond.instanceMethod M'.1).before args s = true := ⟨by rw [← hr0]; exact callB_of np hts (zgood ok) rfl rfl rfl (hts _ ok.2.1) (hts _ lk) ok.2.2.1 ⟨by show fr' + 1 ≤ _; omega, by show 8 + (M'.2.2.1 + 11) + 40 * fr' ≤ _; omega⟩, hnm', hts _ him⟩
  exact xafter hX hc hP hD hS hl (va_runI (rest := st) ⟨hx, hb, hml, hown, hts⟩ (call l H.size) cw ⟨xblind, fun U hU hW => ⟨rfl, xpre hP hD hS hA hK hE hN U hU hW⟩⟩ rfl hn hl.1 hst (lv_room hcat) d ⟨by omega, by omega⟩)
/-- the superclass's own method -/
theorem QW_callSU {np idx b ci : Nat} {fs as : List Value} {vc : vw_C} (d : decode M.2.1 pc = .ok (.invokespecial idx, 3) ∧ pc + 3 = pc') (lk : zLk M.1.cls idx M') (ok : zMok M' np) (hno : M'.1.name ≠ "<init>") (hsm : Cond.sameMethod M'.1.cls M'.1.cls M'.1.name M'.1.desc ∈ zU) (hsu : Cond.superclass M.1.cls M'.1.cls ∈ zU) (him : Cond.instanceMethod M'.1 ∈ zU) (hfr : fr' + 1 ≤ fr) (hb0 : (b, .inr (ci, fs)) ∈ wc) (hci : zcl[ci]? = some vc) (hn : as.length = np) (hst : st0 = as.reverse ++ .ref b :: st) (hcat : (st.map fun u => u.category).sum ≤ 8) (hp : ws.Perm (wc ++ wr)) (hcm : cells + mc' ≤ mc ∧ slots + ms' ≤ ms) (call : QM v D cs M' fr' mc' ms' (.ref b :: as) wc X') (hX : ∀ u w1, X' u w1 → QW v D cs M fr mc ms X pc' ls (u.toList ++ st) (w1 ++ wr) (cells + mc') (slots + ms')) : QW v D cs M fr mc ms X pc ls st0 ws cells slots := by
  obtain ⟨d, rfl⟩ := d
  refine QW_perm hp ?_
  intro p l e R s m args below meth c Z A H0 hc H la locs hP hD hS hl
  obtain ⟨hx, hb, hml, hown, hts, hK, ⟨hR1, hR2, hR3⟩, hRl, ⟨hA, rfl, hE⟩, ⟨hnm, hN⟩, hret⟩ := id hc
  have hm := ok.2.2.2.1
  obtain ⟨q0, hq0⟩ := List.getElem?_of_mem (List.mem_append_left wr hb0)
  have hrec := va_recv hK hP hci hq0
  have gi : GoodIn zU (va_wsSU M.1.cls idx M'.1 (zwd M')) := by
    intro w hw
    rcases List.mem_append.mp hw with h | h
    · simp only [List.mem_cons, List.not_mem_nil, or_false] at h
      rcases h with rfl | rfl | rfl | rfl | rfl
      · exact zgoodU lk
      · exact zgoodU hsm
      · exact zgoodU hsu
      · exact zgoodU him
      · exact zgoodU ok.2.1
    · exact zgood ok w h
  have cw : va_CS R s args M.1.cls idx M'.1 M'.2.1 M'.2.2.1 M'.2.2.2 (zwd M') { frames := fr', cells := mc', slots := ms', locals := 40 * fr' } mc' ms' np := va_cwSU np hts gi rfl rfl rfl ⟨hno, ok.2.2.1.2.2⟩ ⟨by show fr' + 1 ≤ _; omega, by show 8 + (M'.2.2.1 + 11) + 40 * fr' ≤ _; omega⟩
  exact xafter hX hc hP hD hS hl (va_runSU (rest := st) (hK.1 ci vc hci).2 ⟨hx, hb, hml, hown, hts⟩ (call l H.size) cw ⟨xblind, hrec, fun U hU hW => ⟨rfl, xpre hP hD hS hA hK hE hN U hU hW⟩⟩ rfl hn hl.1 hst (lv_room hcat) d ⟨by omega, by omega⟩)
theorem QW_objI {b idx : Nat} (d : decode M.2.1 pc = .ok (.invokespecial idx, 3) ∧ pc + 3 = pc') (lk : Cond.methodLink M.1.cls idx objectInit ∈ zU) (hfr : 1 ≤ fr) (hst : (st.map fun u => u.category).sum ≤ 8) (k : QW v D cs M fr mc ms X pc' ls st ws cells slots) : QW v D cs M fr mc ms X pc ls (.ref b :: st) ws cells slots := by
  obtain ⟨d, rfl⟩ := d
  intro p l e R s m args below meth c Z A H0 hc H la locs hP hD hS hl
  obtain ⟨hx, hb, hml, hown, hts, hK, ⟨hR1, hR2, hR3⟩, hRl, ⟨hA, rfl, hE⟩, ⟨hnm, hN⟩, hret⟩ := id hc
  have h1 : Cond.instanceMethod objectInit ∈ zU := zin1 26 (by decide +kernel) rfl
  have h2 : Cond.code objectInit ⟨#[0xb1]⟩ 1 none ∈ zU := zin1 27 (by decide +kernel) rfl
  refine W.objInit hx hb hown (hts _ lk) (hts _ h1) (hts _ h2) rfl (by rw [hml]; exact hl.1) rfl d (by omega) (Nat.le_trans (Nat.add_le_add_right (lv_room hst) 12) (by omega)) ?_
  exact W.eq (g2 := F0 m (pc + 3) la st) rfl (k _ _ _ _ _ _ _ _ _ _ _ _ _ hc _ _ _ hP hD hS hl)
/-- a method of the class, on its object -/
theorem QW_ms {G : zG} {σ : zPH} {Y : zX} {np idx q ci : Nat} {tys : List Nat} {as : List Value} {vc : vw_C} (hG : G.2.1 = D ∧ G.2.2.1 = cs) (d : decode M.2.1 pc = .ok (.invokevirtual idx, 3) ∧ pc + 3 = pc') (lk : zLk M.1.cls idx M') (ok : zMok M' np) (mv : zMv M') (hfr : fr' + 1 ≤ fr) (hs : zsh G.2.2.2 q = .inl (ci, tys)) (hci : zcl[ci]? = some vc) (hcls : vc.1 = M'.1.cls) (hn : as.length = np) (hst : st0 = as.reverse ++ zr G q :: st) (hcat : (st.map fun u => u.category).sum ≤ 8) (hp : ws.Perm (zws G σ ++ wr)) (hcm : cells ≤ mc ∧ slots ≤ ms)
    (call : MS G M' fr' (zr G q :: as) σ Y) (hX : ∀ u σ', Y u σ' → QW v D cs M fr mc ms X pc' ls (u.toList ++ st) (zws G σ' ++ wr) cells slots) : QW v D cs M fr mc ms X pc ls st0 ws cells slots := by
  obtain ⟨d, rfl⟩ := d
  obtain ⟨rfl, rfl⟩ := hG
  refine QW_perm hp ?_
  intro p l e R s m args below meth c Z A H0 hc H la locs hP hD hS hl
  obtain ⟨hx, hb, hml, hown, hts, hK, ⟨hR1, hR2, hR3⟩, hRl, ⟨hA, rfl, hE⟩, ⟨hnm, hN⟩, hret⟩ := id hc
  have hm := ok.2.2.2.1
  have hq := zws_at (G := G) (σ := σ) (zlt94 hs)
  simp only [zcell, hs, zent] at hq
  obtain ⟨hPc, hPr⟩ := xP_app.mp hP
  obtain ⟨hDc, hDr, hDa⟩ := xD_app.mp hD
  have hAA : ∀ q, zA G q → A q := fun q h => by
    obtain ⟨a, ha, rfl⟩ := h
    have := hDc.2 a _ (zws_at ha)
    exact this
  have hAH : ∀ q, H.size ≤ q → A q := fun q h => hA q (Nat.le_trans hS.1 h)
  have hrec := va_recv hK hPc hci hq
  rw [hcls] at hrec
  have cw : CallW R s args M.1.cls M'.1.cls idx M'.1 M'.2.1 M'.2.2.1 M'.2.2.2 (zwd M') (zrm fr') 0 0 np :=
    ⟨callB_of np hts (zgood ok) rfl rfl rfl (hts _ ok.2.1) (hts _ lk) ok.2.2.1 ⟨by show fr' + 1 ≤ _; omega, by show 8 + (M'.2.2.1 + 11) + 40 * fr' ≤ _; omega⟩, hts _ mv.1, hts _ mv.2⟩
  have hK2 : va_K G.2.1 zcl (ztys G) s := hK.sub [0, 1] rfl
  have run := va_runV (l := l) (e := e) (below := below) (meth := meth) (locs := locs) (cells := cells) (slots := slots) (rest := st) (g := F0 m pc la st0) ⟨hx, hb, hml, hown, hts⟩ (call l) cw ⟨zblind, hrec, fun U hU hW => ⟨rfl, by rw [hU]; exact hPc, va_K.moved hW.alike hK2, hDc.weaken (fun _ _ _ _ => trivial), by rw [hU]; exact zStr_to (xEn_zStr hE) hS.2.1 hAA hW⟩⟩ rfl hn hl.1 hst (lv_room hcat) d ⟨by omega, by omega⟩
  intro T hT S
  obtain ⟨u, st₀, t, T', L, h0, S', hL, e1, e2, ⟨⟨u', σ', ho, hXu, hPt, hKt, hDt, -⟩, hz, hk⟩, st'⟩ := run T hT S
  cases ho
  rw [h0] at hz hk
  have hin : ∀ q, zA G q → va_A (zws G σ) H.size q := fun q h => by
    obtain ⟨a, ha, rfl⟩ := h
    exact Or.inl ⟨a, _, zws_at ha⟩
  obtain ⟨hP3, hD3⟩ := x_join (H1 := t.heap) hP hD hAH (fun q h1 h2 => hk q h1 (fun z => h2 (hin q z))) hPt (zD_to hDt hin)
  obtain ⟨t2, a1, b1⟩ := hX u σ' hXu p l e R s m args below meth c Z A s.heap hc T'.heap la (locs ++ L) (by rw [e1]; exact hP3) hD3 ⟨Nat.le_trans hS.1 (by rw [e1]; exact hz), fun q h1 h2 => by rw [e1, hk q (Nat.lt_of_lt_of_le h1 hS.1) (fun z => h2 (hAA q z))]; exact hS.2.1 q h1 h2, fun q hq => by
      rcases List.mem_append.mp hq with h | h
      · exact hS.2.2 q h
      · exact hAA _ (hL q h)⟩ hl T' rfl S'
  exact ⟨t2, st' t2 a1, b1⟩
/-- new, dup, the constructor of the class -/
theorem QW_newN {idx idx2 ci' N' : Nat} {C : String} {T : u_T} {f0 : List Value} {Y : Nat → va_W → Prop} (d : decode M.2.1 pc = .ok (.new idx, 3) ∧ pc + 3 = pc1) (d1 : decode M.2.1 pc1 = .ok (.dup, 1) ∧ pc1 + 1 = pc2) (d2 : decode M.2.1 pc2 = .ok (.invokespecial idx2, 3) ∧ pc2 + 3 = pc') (hcl : zcl[ci']? = some (C, T, N')) (w1 : Cond.classLink M.1.cls idx C ∈ zU) (w2 : Cond.instantiable C N' ∈ zU) (w3 : Cond.initialized C ∈ zU) (hfs : ∀ ty : Nat → FieldType, (∀ k, k < N' → parseFieldDescriptor (T k).2.2.1 = some (ty k)) → ∀ j, j < N' → defaultValue (ty j) = vp_V f0 j)
    (call : NM D cs M' fr' mc' ms' ci' f0 Y) (ok : zMok M' 0) (hr0 : M'.2.2.2 = none) (lk : zLk M.1.cls idx2 M') (hnm' : M'.1.name = "<init>") (hin : Cond.instanceMethod M'.1 ∈ zU) (hfr : fr' + 1 ≤ fr) (hcm : cells + 1 + mc' ≤ mc ∧ slots + N' + ms' ≤ ms) (hcat : (st.map fun u => u.category).sum ≤ 6)
    (k : ∀ (q : Nat) (w1 : va_W), Y q w1 → QW v D cs M fr mc ms X pc' ls (.ref q :: st) (w1 ++ ws) (cells + 1 + mc') (slots + N' + ms')) : QW v D cs M fr mc ms X pc ls st ws cells slots := by
  refine QW_new d hcl w1 w2 w3 hfs ⟨by omega, by omega⟩ (fun q => ?_)
  refine QW_dup d1 rfl ?_
  obtain ⟨d2, rfl⟩ := d2
  refine QW_perm (ws' := [(q, .inr (ci', f0))] ++ ws) List.perm_append_comm ?_
  intro p l e R s m args below meth c Z A H0 hc H la locs hP hD hS hl
  obtain ⟨hx, hb, hml, hown, hts, hK, ⟨hR1, hR2, hR3⟩, hRl, ⟨hA, rfl, hE⟩, ⟨hnm, hN⟩, hret⟩ := id hc
  have hm := ok.2.2.2.1
  have cw : CallB R s args M.1.cls idx2 M'.1 M'.2.1 M'.2.2.1 none (zwd M') { frames := fr', cells := mc', slots := ms', locals := 40 * fr' } mc' ms' 0 ∧ M'.1.name = "<init>" ∧ (Cond.instanceMethod M'.1).before args s = true :=
    ⟨by rw [← hr0]; exact callB_of 0 hts (zgood ok) rfl rfl rfl (hts _ ok.2.1) (hts _ lk) ok.2.2.1 ⟨by show fr' + 1 ≤ _; omega, by show 8 + (M'.2.2.1 + 11) + 40 * fr' ≤ _; omega⟩, hnm', hts _ hin⟩
  obtain ⟨hPc, hPr⟩ := xP_app.mp hP
  obtain ⟨hDc, hDr, hDa⟩ := xD_app.mp hD
  have hAH : ∀ q, H.size ≤ q → A q := fun q h => hA q (Nat.le_trans hS.1 h)
  have hF := xfree hD hAH
  have run := va_runI (l := l) (e := e) (below := below) (meth := meth) (locs := locs) (cells := cells + 1) (slots := slots + N') (As := []) (rest := .ref q :: st) (g := F0 m pc2 la (.ref q :: .ref q :: st)) ⟨hx, hb, hml, hown, hts⟩ (call l q H.size) cw ⟨fun a' U g mk z => by obtain ⟨q0, q1, qP, qK, qD, qN⟩ := z; exact ⟨q0, q1, qP, va_K.moved (u := U) (U := U.calling g mk a') (Vm.Alike.refl U.vm) qK, qD, zNst_calling qN⟩, fun U hU hW => ⟨rfl, by rw [hU], by rw [hU]; exact hPc, va_K.moved hW.alike hK, hDc.weaken (fun _ _ _ _ => trivial), zNst_warm hW hN.1⟩⟩ rfl rfl hl.1 rfl (lv_room (by simp only [List.map_cons, List.sum_cons]; show 1 + _ ≤ 8; omega)) d2 ⟨by omega, by omega⟩
  intro T hT S
  obtain ⟨u, st₀, t, T', L, h0, S', hL, e1, e2, ⟨⟨u', ho, -, w1', hX', hPt, hKt, hDt⟩, hz, hk⟩, st'⟩ := run T hT S
  cases ho
  rw [h0] at hz hk
  obtain ⟨hP3, hD3⟩ := x_join (H1 := t.heap) hP hD hAH hk hPt hDt
  obtain ⟨t2, a1, b1⟩ := k q w1' hX' p l e R s m args below meth c Z A s.heap hc T'.heap la (locs ++ L) (by rw [e1]; exact hP3) hD3 ⟨Nat.le_trans hS.1 (by rw [e1]; exact hz), fun q h1 h2 => by rw [e1, hk q (Nat.lt_of_lt_of_le h1 hS.1) (fun z => h2 (hF q z))]; exact hS.2.1 q h1 h2, fun q hq => by
      rcases List.mem_append.mp hq with h | h
      · exact hS.2.2 q h
      · exact hF _ (hL q h)⟩ hl T' rfl S'
  exact ⟨t2, st' t2 a1, b1⟩
end QWC
