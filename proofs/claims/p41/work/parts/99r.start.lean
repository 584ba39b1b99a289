/-! THE LAW: what the tables and the start's conditions give -/
theorem zit {w : Cond} (i : Nat) (h : tables_1[i]? = some w) : w ∈ lw_tbl := List.mem_append_right _ (List.mem_of_getElem? h)
theorem xsel {y : MethodName} {s : State} {args : Array Value} (hy : y.cls = zR_JB) (hins : (Cond.instantiable zR_JD 4).before args s = true) (hpriv : (Cond.privateMethod y).before args s = true) (hinst : (Cond.instanceMethod y).before args s = true) (hse : (Cond.selects zR_JD zm_JB_isLatin1.1 zm_JB_isLatin1.1).before args s = true) : (Cond.selects zR_JD y y).before args s = true := by
  obtain ⟨c, k, hc, hk, -, hniab, -, -⟩ := Cond.instantiable_spec hins
  obtain ⟨mk, methM, hnamed, hmethM, -, -⟩ := Cond.instanceMethod_spec hinst
  obtain ⟨c2, r2, m2, q1, q2, q3, q4, k2, hk2, hk3⟩ := Cond.selects_spec hse
  have hne : y.cls ≠ "java/lang/invoke/MethodHandle" ∧ y.cls ≠ "java/lang/invoke/VarHandle" := by rw [hy]; exact ⟨by decide +kernel, by decide +kernel⟩
  have hfound : s.methodFound? y.cls y.name y.desc = some mk := State.methodFound?_of_named hnamed hne
  have hcls : mk.cls = m2.cls := by
    have h1 := findClass_of_methodNamed hnamed
    have h2 := findClass_of_methodNamed q3
    rw [hy] at h1
    exact Option.some.inj (h1.symm.trans h2)
  have hsel : selectMethod {} s.vm c mk = .method mk := selectMethod_private hmethM (Cond.privateMethod_at hpriv mk methM hnamed hmethM)
  simp only [Cond.before, Cond.holds, Cond.value, hc, hfound, hnamed, hsel, hcls, hk2]
  simp; exact hk3
theorem zst_U {b : Nat} {s : State} (hts : ∀ w ∈ lw_tbl, w.before #[Value.ref b] s = true) : ∀ w ∈ zU, w.before #[Value.ref b] s = true := by
  intro w hw
  have hw := (List.mem_filter.mp hw).1
  rcases List.mem_append.mp hw with hw | hw
  · obtain ⟨y, hy, rfl⟩ := List.mem_map.mp hw
    have h1 := hts _ (zit 610 (by decide +kernel) : Cond.instantiable zR_JD 4 ∈ lw_tbl)
    have h2 := hts _ (zit 684 (by decide +kernel) : Cond.selects zR_JD zm_JB_isLatin1.1 zm_JB_isLatin1.1 ∈ lw_tbl)
    simp only [zPv, List.mem_cons, List.not_mem_nil, or_false] at hy
    rcases hy with rfl | rfl | rfl | rfl
    · exact xsel rfl h1 (hts _ (zit 648 (by decide +kernel))) (hts _ (zit 649 (by decide +kernel))) h2
    · exact xsel rfl h1 (hts _ (zit 652 (by decide +kernel))) (hts _ (zit 653 (by decide +kernel))) h2
    · exact xsel rfl h1 (hts _ (zit 703 (by decide +kernel))) (hts _ (zit 704 (by decide +kernel))) h2
    · exact xsel rfl h1 (hts _ (zit 707 (by decide +kernel))) (hts _ (zit 708 (by decide +kernel))) h2
  · exact hts w hw
theorem zst_K {b : Nat} {s : State} (hU : ∀ w ∈ zU, w.before #[Value.ref b] s = true) (hAO : xAO s) : ∃ (D : va_G) (cs : Nat → ClassId), va_K D zcl (xNt cs) s := by
  have inst : ∀ r ∈ zcl, Cond.instantiable r.1 r.2.2 ∈ zU := by
    intro r hm
    simp only [zcl, List.mem_cons, List.not_mem_nil, or_false] at hm
    rcases hm with rfl | rfl | rfl | rfl | rfl | rfl | rfl | rfl | rfl
    · exact zwd_172
    · exact zwd_178
    · exact zwd_29
    · exact zwd_234
    · exact zwd_66
    · exact zwd_35
    · exact zwd_21
    · exact zwd_817
    · exact zwd_610
  have h : ∀ ci : Nat, ∃ q : ClassId × (Nat → Nat), ∀ r : vw_C, zcl[ci]? = some r → u_Kn s r.1 r.2.1 r.2.2 q.1 q.2 := by
    intro ci
    cases hq : zcl[ci]? with
    | none => exact ⟨(0, fun _ => 0), fun r h => by cases h⟩
    | some r =>
      obtain ⟨cC, iS, hk⟩ := u_known (ws := zU) hU (zcl_ok ci r hq).1 (hU _ (inst r (List.mem_of_getElem? hq)))
      exact ⟨(cC, iS), fun r' h => by cases h; exact hk⟩
  have ha : ∀ i : Nat, ∃ cA : ClassId, i < 2 → ArrOfT s cA (zety i) ∧ va_RA s cA (zety i) := by
    intro i
    by_cases hi : i < 2
    · have hw : Cond.arrayClass (zety i) ∈ zU := by
        rcases (show i = 0 ∨ i = 1 by omega) with rfl | rfl
        · exact zin1 64 (by decide +kernel) rfl
        · exact zwd_496
      obtain ⟨cA, kA, comp, h1, h2, h3⟩ := Cond.arrayClass_spec (hU _ hw)
      refine ⟨cA, fun _ => ⟨fun n z => ⟨fun k h => (by cases h), kA, h2, comp, h3⟩, ?_⟩⟩
      rcases (show i = 0 ∨ i = 1 by omega) with rfl | rfl <;> exact h1
    · exact ⟨0, fun q => absurd q hi⟩
  have h2 : ∃ cA : ClassId, ArrOfT s cA (.array .int) ∧ va_RA s cA (.array .int) := by
    obtain ⟨comp, c, k, h1, h2, h3, h4, h5⟩ := arrayOverA_spec (show (Cond.arrayOver (.array .int)).holds #[] s none s [] = true from hAO)
    exact ⟨c, fun n z => ⟨fun k h => (by cases h), k, h3, comp, h4⟩, h5⟩
  refine ⟨(fun ci => (h ci).choose.1, fun ci => (h ci).choose.2), (fun i => if i = 2 then h2.choose else (ha i).choose), fun ci r hq => (h ci).choose_spec r hq, fun k q hk => ?_⟩
  match k, hk with
  | 0, hk => cases hk; exact (ha 0).choose_spec (by decide)
  | 1, hk => cases hk; exact (ha 1).choose_spec (by decide)
  | 2, hk => cases hk; exact h2.choose_spec
  | k + 3, hk => simp [xNt] at hk
theorem zst_T {b : Nat} {s : State} (hts : ∀ w ∈ lw_tbl, w.before #[Value.ref b] s = true) : xSt s :=
  ⟨⟨va_Nw.of rfl (hts _ (zit 36 (by decide +kernel))), va_Nw.of rfl (hts _ (zit 67 (by decide +kernel))), va_Nw.of rfl (hts _ (zit 30 (by decide +kernel))), va_Nw.of rfl (hts _ (zit 170 (by decide +kernel))), va_Nw.of rfl (hts _ (zit 173 (by decide +kernel))), va_Nw.of rfl (hts _ (zit 179 (by decide +kernel))), va_Nw.of rfl (hts _ (zit 232 (by decide +kernel))), va_Nw.of rfl (hts _ (zit 235 (by decide +kernel)))⟩, (show (Cond.arrayOver (.array .int)).before #[Value.ref b] s = true from hts _ (zit 605 (by decide +kernel))), va_Nw.of rfl (hts _ (zit 673 (by decide +kernel)))⟩
theorem xeq_int {args : Array Value} {s : State} {t : Term} {z : Int32} (h : (Cond.eq t (.int z)).before args s = true) : t.eval args s none [] s = some (.int z) := by
  cases hv : t.eval args s none [] s with
  | none => simp [Cond.before, Cond.holds, Cond.value, hv] at h
  | some w =>
    have hz : (Term.int z).eval args s none [] s = some (.int z) := rfl
    simp only [Cond.before, Cond.holds, Cond.value, hv, hz] at h
    cases w <;> simp_all
theorem xeq_ref {args : Array Value} {s : State} {t t2 : Term} {a : Nat} (h : (Cond.eq t t2).before args s = true) (h2 : t2.eval args s none [] s = some (.ref a)) : t.eval args s none [] s = some (.ref a) := by
  cases hv : t.eval args s none [] s with
  | none => simp [Cond.before, Cond.holds, Cond.value, hv] at h
  | some w =>
    simp only [Cond.before, Cond.holds, Cond.value, hv, h2] at h
    cases w <;> simp_all
def xTm (i : Nat) : Term := .string (xTx.getD i ("", 0, "")).1 (xTx.getD i ("", 0, "")).2.1
def xBase : List Nat := [227, 366, 376, 387, 397, 410, 423, 438, 456, 473, 492, 511, 530, 551, 575, 598, 623, 647, 670, 697, 724, 752, 782]
def xRef : List Nat := [321, 611, 785, 790, 791, 792, 793, 796, 797, 800, 801, 802, 803, 804, 811, 869, 870, 882, 883, 884, 885, 887, 888]
def xFl : List Cond := flatC (Jvm.Cond.and given_1 narrow_1)
set_option maxRecDepth 100000 in
theorem zsr : ∀ i : Fin 23, tables_1[xRef.getD i.val 0]? = some (Cond.stringRef (xTx.getD i.val ("", 0, "")).1 (xTx.getD i.val ("", 0, "")).2.1 (xTx.getD i.val ("", 0, "")).2.2) := by decide +kernel
set_option maxRecDepth 100000 in
theorem zs1 : ∀ i : Fin 23, xFl[xBase.getD i.val 0]? = some (Cond.exactly (xTm i.val) "java/lang/String") ∧ xFl[xBase.getD i.val 0 + 1]? = some (Cond.eq (.field (xTm i.val) "java/lang/String" "coder" "B") (.int 0)) ∧ xFl[xBase.getD i.val 0 + 2]? = some (Cond.arrayOf (.field (xTm i.val) "java/lang/String" "value" "[B") .byte) ∧ xFl[xBase.getD i.val 0 + 3]? = some (Cond.eq (.length (.field (xTm i.val) "java/lang/String" "value" "[B")) (.int (Int32.ofNat (xLen.getD i.val 0)))) := by decide +kernel
set_option maxRecDepth 100000 in
theorem zs2 : ∀ j : Fin 135, xFl[xBase.getD 0 0 + 4 + j.val]? = some (Cond.eq (.elem (.field (xTm 0) "java/lang/String" "value" "[B") (.int (Int32.ofNat j.val))) (.int ((xByt.getD 0 []).getD j.val 0))) := by decide +kernel
set_option maxRecDepth 100000 in
theorem zs3 : ∀ i : Fin 23, i.val ≠ 0 → ∀ j : Fin 8, j.val < xLen.getD i.val 0 → xFl[xBase.getD i.val 0 + 4 + j.val]? = some (Cond.eq (.elem (.field (xTm i.val) "java/lang/String" "value" "[B") (.int (Int32.ofNat j.val))) (.int ((xByt.getD i.val []).getD j.val 0))) := by decide +kernel
set_option maxRecDepth 100000 in
theorem zs4 : ∀ j i : Fin 23, i.val < j.val → xFl[xBase.getD j.val 0 + 4 + xLen.getD j.val 0 + i.val]? = some (Cond.not (Cond.eq (xTm i.val) (xTm j.val))) := by decide +kernel
set_option maxRecDepth 100000 in
theorem zs5 : ∀ j : Fin 100, xFl[12 + j.val]? = some (Cond.eq (.elem (.static "java/lang/Integer" "DigitOnes" "[B") (.int (Int32.ofNat j.val))) (.int (xDig.getD j.val 0))) := by decide +kernel
set_option maxRecDepth 100000 in
theorem zs6 : ∀ j : Fin 4, xFl[218 + j.val]? = some (Cond.eq (.elem (.static "BeamBoardLaw" "WAYS" "[Ljava/lang/String;") (.int (Int32.ofNat j.val))) (xTm (17 + j.val))) := by decide +kernel
set_option maxRecDepth 100000 in
theorem zs7 : ∀ j : Fin 2, xFl[225 + j.val]? = some (Cond.eq (.elem (.static "BeamBoardLaw" "FORMS" "[Ljava/lang/String;") (.int (Int32.ofNat j.val))) (xTm (21 + j.val))) := by decide +kernel
theorem xLen8 : ∀ i : Fin 23, i.val ≠ 0 → xLen.getD i.val 0 ≤ 8 := by decide
set_option maxRecDepth 100000 in
theorem zst_E {b L : Nat} {xs : Nat → Int32} {s : State} (hts : ∀ w ∈ lw_tbl, w.before #[Value.ref b] s = true) (hg : (Jvm.Cond.and given_1 narrow_1).before #[Value.ref b] s = true) (hX : va_X b L xs s s.heap) (hb : b < s.heap.size) (hL : L ≤ 260) : ∃ v : xEv, v.2.2.1 3 = b ∧ xEn v (fun q => s.heap.size ≤ q) s s.heap := by
  have hs := flat_of_before _ hg
  have hA : ∀ a : Nat, a < s.heap.size → ¬ s.heap.size ≤ a := fun a h q => absurd q (Nat.not_le.mpr h)
  have hget : ∀ {c : Cond} (i : Nat), xFl[i]? = some c → c.before #[Value.ref b] s = true := fun i h => hs _ (List.mem_of_getElem? h)
  obtain ⟨adK, adV, hS, hT⟩ := vk_Sof (args := #[Value.ref b]) (s := s) (N := 23) (tm := xTm) (len := xLen) (byt := xByt) (A := fun q => s.heap.size ≤ q) (fun i hi => Nat.lt_of_le_of_lt (xLen_r i) (by decide)) (fun i hi => hget _ (zs1 ⟨i, hi⟩).1) (fun i hi => hget _ (zs1 ⟨i, hi⟩).2.1) (fun i hi => hget _ (zs1 ⟨i, hi⟩).2.2.1) (fun i hi => hget _ (zs1 ⟨i, hi⟩).2.2.2)
    (fun i hi j hj => by
      by_cases q : i = 0
      · subst q
        exact hget _ (zs2 ⟨j, hj⟩)
      · have h8 := xLen8 ⟨i, hi⟩ q
        exact hget _ (zs3 ⟨i, hi⟩ q ⟨j, Nat.lt_of_lt_of_le hj h8⟩ hj))
    (fun i j hi hj h => by
      rcases Nat.lt_or_gt_of_ne h with q | q
      · exact Or.inl (hget _ (zs4 ⟨j, hj⟩ ⟨i, hi⟩ q))
      · exact Or.inr (hget _ (zs4 ⟨i, hi⟩ ⟨j, hj⟩ q))) hA
  obtain ⟨tW, eW, hW⟩ := va_Tof (tm := .static "BeamBoardLaw" "WAYS" "[Ljava/lang/String;") (ty := .object "java/lang/String") (N := 4) (f := fun j => .ref (adK (17 + j))) (by decide) (hget 216 (by decide +kernel)) (xeq_int (hget 217 (by decide +kernel))) (fun j hj => xeq_ref (hget _ (zs6 ⟨j, hj⟩)) (hT (17 + j) (by omega))) hA
  obtain ⟨tF, eF, hF⟩ := va_Tof (tm := .static "BeamBoardLaw" "FORMS" "[Ljava/lang/String;") (ty := .object "java/lang/String") (N := 2) (f := fun j => .ref (adK (21 + j))) (by decide) (hget 223 (by decide +kernel)) (xeq_int (hget 224 (by decide +kernel))) (fun j hj => xeq_ref (hget _ (zs7 ⟨j, hj⟩)) (hT (21 + j) (by omega))) hA
  obtain ⟨tD, eD, hD⟩ := va_Tof (tm := .static "java/lang/Integer" "DigitOnes" "[B") (ty := .byte) (N := 100) (f := fun j => .int (xDig.getD j 0)) (by decide) (hget 10 (by decide +kernel)) (xeq_int (hget 11 (by decide +kernel))) (fun j hj => xeq_int (hget _ (zs5 ⟨j, hj⟩))) hA
  refine ⟨(adK, adV, (fun k => if k = 0 then tW else if k = 1 then tF else if k = 2 then tD else b), L, xs), rfl, ?_, hS, ⟨va_Zof (hts _ (zit 331 (by decide +kernel))) (hts _ (zit 11 (by decide +kernel))) (xeq_int (hget 4 (by decide +kernel))) hA, va_Zqof (hts _ (zit 347 (by decide +kernel))) (hts _ (zit 16 (by decide +kernel))) (hget 5 (by decide +kernel)) hA⟩, ⟨va_Zof (hts _ (zit 795 (by decide +kernel))) (hts _ (zit 0 (by decide +kernel))) eW hA, hW⟩, ⟨va_Zof (hts _ (zit 799 (by decide +kernel))) (hts _ (zit 0 (by decide +kernel))) eF hA, hF⟩, ⟨va_Zof (hts _ (zit 761 (by decide +kernel))) (hts _ (zit 19 (by decide +kernel))) eD hA, hD⟩, hX, hb, hA b hb, hL⟩
  intro i q hq
  have hi : i < 23 := (List.getElem?_eq_some_iff.mp hq).1
  have e : xTx.getD i ("", 0, "") = q := by simp [List.getD, hq]
  have h1 := hts _ (zit _ (zsr ⟨i, hi⟩))
  have h2 := hT i hi
  simp only [xTm, e] at h1 h2
  exact vk_R.of h1 h2
