/-- what a builder costs: so many cells and slots made for so much room -/
def xCost (C S m : Nat) : Prop := 11 * 2 ^ C ≤ 2 * (m + 1) ∧ S ≤ 4 + 2 * m ∧ m ≤ 2300
theorem xCost_le {C S m : Nat} (h : xCost C S m) : C ≤ 8 ∧ S ≤ 4604 := by
  obtain ⟨h1, h2, h3⟩ := h
  refine ⟨?_, by omega⟩
  apply Nat.le_of_not_lt
  intro h
  have := Nat.pow_le_pow_right (n := 2) (by decide) (show 9 ≤ C by omega)
  omega
section TEXTa
variable {v : xEv} {D : va_G} {cs : Nat → ClassId} {M M' : zMi} {fr mc ms fr' mc' ms' : Nat} {X X' : xX} {pc pc' pc1 pc2 : Nat} {ls : List (Option Value)} {st st0 : List Value} {ws wc wr : va_W} {cells slots : Nat} {x y z : Int}
/-- one append: the builder's letters grow, its room is made where it lacks -/
theorem QW_app {idx b m : Nat} {a : Value} {t x : List Int} {wb : va_W} (d : decode M.2.1 pc = .ok (.invokevirtual idx, 3) ∧ pc + 3 = pc') (lk : zLk M.1.cls idx M') (ok : zMok M' 1) (mv : zMv M') (hcls : zR_JD = M'.1.cls) (hfr : 10 ≤ fr) (hst : (st.map fun u => u.category).sum ≤ 8) (hB : xBld cs b t m wb) (hC : xCost cells slots m) (hx : t.length + x.length ≤ 1100) (hms : 8 ≤ mc ∧ 4604 ≤ ms)
    (call : ∀ m' mc ms, xRm m (t.length + x.length) m' mc ms → m' ≤ 2300 → QM v D cs M' 9 mc ms [.ref b, a] wb (fun u w' => u = some (.ref b) ∧ xBld cs b (t ++ x) m' w'))
    (k : ∀ m' wb' C' S', xBld cs b (t ++ x) m' wb' → xCost C' S' m' → QW v D cs M fr mc ms X pc' ls (.ref b :: st) (wb' ++ wr) C' S') : QW v D cs M fr mc ms X pc ls (a :: .ref b :: st) (wb ++ wr) cells slots := by
  have hB0 := hB
  obtain ⟨da, f, rfl, -, hm, -⟩ := hB
  have hC0 := hC
  obtain ⟨h1, h2, h3⟩ := hC
  by_cases hk : t.length + x.length ≤ m
  · refine QW_callV (wr := wr) (as := [a]) (mc' := 0) (ms' := 0) d lk ok mv (fr' := 9) (by omega) (List.mem_cons_self) rfl hcls rfl rfl hst (List.Perm.refl _) ?_ (call m 0 0 (Or.inl ⟨hk, rfl⟩) h3) (fun u w h => ?_)
    · have := xCost_le hC0; omega
    · obtain ⟨rfl, hw⟩ := h
      exact k m w _ _ hw hC0
  · have hcap : xCap m (t.length + x.length) ≤ 2300 ∧ 2 * m + 2 ≤ xCap m (t.length + x.length) := by unfold xCap; split <;> omega
    have hC1 : xCost (cells + 1) (slots + xCap m (t.length + x.length)) (xCap m (t.length + x.length)) := ⟨by rw [Nat.pow_succ]; omega, by omega, hcap.1⟩
    have := xCost_le hC1
    refine QW_callV (wr := wr) (as := [a]) (mc' := 1) (ms' := xCap m (t.length + x.length)) d lk ok mv (fr' := 9) (by omega) (List.mem_cons_self) rfl hcls rfl rfl hst (List.Perm.refl _) ⟨by omega, by omega⟩ (call _ 1 _ (Or.inr ⟨by omega, rfl, Nat.le_refl _, Nat.le_refl _⟩) hcap.1) (fun u w h => ?_)
    obtain ⟨rfl, hw⟩ := h
    exact k _ w _ _ hw hC1
theorem QW_appS {i b m : Nat} {t : List Int} {wb : va_W} (hi : i < 23) (d : decode zb_W_text pc = .ok (.invokevirtual 68, 3) ∧ pc + 3 = pc') (hst : (st.map fun u => u.category).sum ≤ 8) (hB : xBld cs b t m wb) (hC : xCost cells slots m) (hx : t.length + (xTxt i).length ≤ 1100)
    (k : ∀ m' wb' C' S', xBld cs b (t ++ xTxt i) m' wb' → xCost C' S' m' → QW v D cs zm_W_text 13 12 6000 X pc' ls (.ref b :: st) (wb' ++ wr) C' S') : QW v D cs zm_W_text 13 12 6000 X pc ls (.ref (v.1 i) :: .ref b :: st) (wb ++ wr) cells slots :=
  QW_app (x := xTxt i) d zl_W_68 zk_JD_append zv_JD_append rfl (by decide) hst hB hC (by exact hx) ⟨by decide, by decide⟩ (fun m' mc ms hr hm => q_appendSD hi hB (by rw [← xTxt_len i hi]; exact hr) (by have := xTxt_len i hi; omega) (fun w' hw => ⟨rfl, hw⟩)) k
theorem QW_appC {b m : Nat} {t : List Int} {wb : va_W} {c : Int} (hc : 0 ≤ c ∧ c < 128) (d : decode zb_W_text pc = .ok (.invokevirtual 63, 3) ∧ pc + 3 = pc') (hst : (st.map fun u => u.category).sum ≤ 8) (hB : xBld cs b t m wb) (hC : xCost cells slots m) (hx : t.length + 1 ≤ 1100)
    (k : ∀ m' wb' C' S', xBld cs b (t ++ [c]) m' wb' → xCost C' S' m' → QW v D cs zm_W_text 13 12 6000 X pc' ls (.ref b :: st) (wb' ++ wr) C' S') : QW v D cs zm_W_text 13 12 6000 X pc ls (iZ c :: .ref b :: st) (wb ++ wr) cells slots :=
  QW_app (x := [c]) d zl_W_63 zk_JD_append_cf468 zv_JD_append_cf468 rfl (by decide) hst hB hC (by exact hx) ⟨by decide, by decide⟩ (fun m' mc ms hr hm => q_appendCD hc hB hr (by omega) (fun w' hw => ⟨rfl, hw⟩)) k
theorem QW_appI {b m : Nat} {t : List Int} {wb : va_W} {c : Int} (hc : 0 ≤ c ∧ c < 10) (d : decode zb_W_text pc = .ok (.invokevirtual 59, 3) ∧ pc + 3 = pc') (hst : (st.map fun u => u.category).sum ≤ 8) (hB : xBld cs b t m wb) (hC : xCost cells slots m) (hx : t.length + 1 ≤ 1100)
    (k : ∀ m' wb' C' S', xBld cs b (t ++ [48 + c]) m' wb' → xCost C' S' m' → QW v D cs zm_W_text 13 12 6000 X pc' ls (.ref b :: st) (wb' ++ wr) C' S') : QW v D cs zm_W_text 13 12 6000 X pc ls (iZ c :: .ref b :: st) (wb ++ wr) cells slots :=
  QW_app (x := [48 + c]) d zl_W_59 zk_JD_append_bf812 zv_JD_append_bf812 rfl (by decide) hst hB hC (by exact hx) ⟨by decide, by decide⟩ (fun m' mc ms hr hm => q_appendID hc hB hr (by omega) (fun w' hw => ⟨rfl, hw⟩)) k
end TEXTa
/-! the text of squares, in the order in which it is built -/
def xA303 (w : Int) (i : Nat) (t : List Int) : List Int := t ++ xTxt 16 ++ [48 + (i : Int) % w] ++ [32] ++ [48 + (i : Int) / w] ++ [59]
def xA208 (w : Int) (i : Nat) (S e : Int) (t : List Int) : List Int := if S = 7 then xA303 w i (t ++ xTxt 12 ++ [97 + e]) else xA303 w i t
def xA176 (w : Int) (i : Nat) (S e : Int) (t : List Int) : List Int := if S = 5 then xA208 w i S e (t ++ xTxt 10) else if S = 6 then xA208 w i S e (t ++ xTxt 11) else xA208 w i S e t
def xA150 (w : Int) (i : Nat) (S A e : Int) (t : List Int) : List Int := if S = 4 then xA176 w i S e (t ++ xTxt 9 ++ xTxt (xCol A)) else xA176 w i S e t
def xA106 (w : Int) (i : Nat) (S A e : Int) (t : List Int) : List Int := if S = 2 then xA150 w i S A e (t ++ xTxt 7 ++ xTxt (21 + A.toNat)) else if S = 3 then xA150 w i S A e (t ++ xTxt 8 ++ xTxt (21 + A.toNat)) else xA150 w i S A e t
def xA62 (w : Int) (i : Nat) (S A W e : Int) (t : List Int) : List Int := if S = 1 then xA106 w i S A e (t ++ xTxt 2 ++ xTxt (xCol A) ++ [32] ++ xTxt (17 + W.toNat)) else xA106 w i S A e t
/-- the text of the first squares -/
def xText (g : Nat → Nat → Int) (w h : Int) : Nat → List Int
  | 0 => xTxt 1 ++ [48 + w] ++ [32] ++ [48 + h] ++ [59]
  | i + 1 => if g i 0 = 0 then xText g w h i else xA62 w i (g i 0) (g i 1) (g i 2) (xMany g 7 7 i : Nat) (xText g w h i)
theorem xTxt_7 (i : Nat) : (xTxt i).length ≤ 7 ∨ i = 0 := by
  by_cases h : i < 23
  · exact (show ∀ j : Fin 23, (xTxt j.val).length ≤ 7 ∨ j.val = 0 by decide +kernel) ⟨i, h⟩
  · left
    have e : xByt.getD i [] = [] := by simp [List.getD, List.getElem?_eq_none (show xByt.length ≤ i from Nat.le_of_not_lt h)]
    unfold xTxt
    rw [e]
    decide
theorem xTxt_8 {i : Nat} (h : i ≠ 0) : (xTxt i).length ≤ 7 := (xTxt_7 i).elim id (fun q => absurd q h)
theorem xCol_0 (c : Int) : xCol c ≠ 0 := by unfold xCol; split <;> (try split) <;> (try split) <;> decide
theorem xA303_l (w : Int) (i : Nat) (t : List Int) : t.length ≤ (xA303 w i t).length ∧ (xA303 w i t).length ≤ t.length + 8 := by
  have : (xTxt 16).length = 4 := by decide +kernel
  simp only [xA303, List.length_append, List.length_singleton]
  omega
theorem xA208_l (w : Int) (i : Nat) (S e : Int) (t : List Int) : t.length ≤ (xA208 w i S e t).length ∧ (xA208 w i S e t).length ≤ t.length + 8 + if S = 7 then 8 else 0 := by
  have h9 : (xTxt 12).length ≤ 7 := xTxt_8 (by decide)
  unfold xA208
  split
  · have := xA303_l w i (t ++ xTxt 12 ++ [97 + e])
    simp only [List.length_append, List.length_singleton] at this
    omega
  · have := xA303_l w i t; omega
theorem xA176_l (w : Int) (i : Nat) (S e : Int) (t : List Int) : t.length ≤ (xA176 w i S e t).length ∧ (xA176 w i S e t).length ≤ t.length + 8 + if S = 7 then 8 else if S = 5 ∨ S = 6 then 7 else 0 := by
  unfold xA176
  have h1 : (xTxt 10).length ≤ 7 := xTxt_8 (by decide)
  have h2 : (xTxt 11).length ≤ 7 := xTxt_8 (by decide)
  split
  · have := xA208_l w i S e (t ++ xTxt 10)
    simp only [List.length_append] at this
    split at this <;> split <;> (try split) <;> omega
  · split
    · have := xA208_l w i S e (t ++ xTxt 11)
      simp only [List.length_append] at this
      split at this <;> split <;> (try split) <;> omega
    · have := xA208_l w i S e t
      split at this <;> split <;> (try split) <;> omega
theorem xA150_l (w : Int) (i : Nat) (S A e : Int) (t : List Int) : t.length ≤ (xA150 w i S A e t).length ∧ (xA150 w i S A e t).length ≤ t.length + 8 + if S = 4 then 14 else if S < 4 then 0 else 8 := by
  unfold xA150
  have h1 : (xTxt 9).length ≤ 7 := xTxt_8 (by decide)
  have h2 : (xTxt (xCol A)).length ≤ 7 := xTxt_8 (xCol_0 A)
  split
  · have := xA176_l w i S e (t ++ xTxt 9 ++ xTxt (xCol A))
    simp only [List.length_append] at this
    rw [if_neg (show ¬ S = 7 by omega), if_neg (show ¬ (S = 5 ∨ S = 6) by omega)] at this
    omega
  · have := xA176_l w i S e t
    split at this
    · rw [if_neg (by omega)]; omega
    · split at this
      · rw [if_neg (by omega)]; omega
      · split <;> omega
theorem xA106_l (w : Int) (i : Nat) (S A e : Int) (t : List Int) : t.length ≤ (xA106 w i S A e t).length ∧ (xA106 w i S A e t).length ≤ t.length + 8 + if S = 1 then 0 else 14 := by
  unfold xA106
  have h1 : (xTxt 7).length ≤ 7 := xTxt_8 (by decide)
  have h2 : (xTxt 8).length ≤ 7 := xTxt_8 (by decide)
  have h3 : (xTxt (21 + A.toNat)).length ≤ 7 := xTxt_8 (by omega)
  split
  · have := xA150_l w i S A e (t ++ xTxt 7 ++ xTxt (21 + A.toNat))
    simp only [List.length_append] at this
    rw [if_neg (by omega), if_pos (by omega)] at this
    rw [if_neg (by omega)]
    omega
  · split
    · have := xA150_l w i S A e (t ++ xTxt 8 ++ xTxt (21 + A.toNat))
      simp only [List.length_append] at this
      rw [if_neg (by omega), if_pos (by omega)] at this
      rw [if_neg (by omega)]
      omega
    · have := xA150_l w i S A e t
      by_cases q : S = 1
      · rw [if_pos q]
        rw [if_neg (by omega), if_pos (by omega)] at this
        exact this
      · rw [if_neg q]
        split at this
        · omega
        · split at this <;> omega
theorem xA62_l (w : Int) (i : Nat) (S A W e : Int) (t : List Int) : t.length ≤ (xA62 w i S A W e t).length ∧ (xA62 w i S A W e t).length ≤ t.length + 30 := by
  unfold xA62
  have h1 : (xTxt 2).length ≤ 7 := xTxt_8 (by decide)
  have h2 : (xTxt (xCol A)).length ≤ 7 := xTxt_8 (xCol_0 A)
  have h3 : (xTxt (17 + W.toNat)).length ≤ 7 := xTxt_8 (by omega)
  split
  · have := xA106_l w i S A e (t ++ xTxt 2 ++ xTxt (xCol A) ++ [32] ++ xTxt (17 + W.toNat))
    simp only [List.length_append, List.length_singleton] at this
    rw [if_pos (by omega)] at this
    omega
  · have := xA106_l w i S A e t
    split at this <;> omega
theorem xText_len (g : Nat → Nat → Int) (w h : Int) : ∀ i, 9 ≤ (xText g w h i).length ∧ (xText g w h i).length ≤ 9 + 30 * i
  | 0 => by
    have : (xTxt 1).length = 5 := by decide +kernel
    simp only [xText, List.length_append, List.length_singleton, this]
    omega
  | i + 1 => by
    have := xText_len g w h i
    unfold xText
    split
    · omega
    · have h2 := xA62_l w i (g i 0) (g i 1) (g i 2) (xMany g 7 7 i : Nat) (xText g w h i)
      omega
/-- squares that the text can be made of -/
def xOkT (g : Nat → Nat → Int) (n : Nat) : Prop := (∀ k, k < n → (0 ≤ g k 0 ∧ g k 0 ≤ 7) ∧ (0 ≤ g k 1 ∧ g k 1 < 8) ∧ (0 ≤ g k 2 ∧ g k 2 < 4) ∧ (g k 0 = 2 ∨ g k 0 = 3 → g k 1 < 2)) ∧ xMany g 7 7 n ≤ 20
theorem xMany_mono (g : Nat → Nat → Int) (lo hi : Int) {i : Nat} : ∀ {n : Nat}, i ≤ n → xMany g lo hi i ≤ xMany g lo hi n
  | 0, h => by obtain rfl : i = 0 := by omega
               exact Nat.le_refl _
  | n + 1, h => by
    by_cases q : i = n + 1
    · rw [q]; exact Nat.le_refl _
    · have h2 := xMany_mono g lo hi (show i ≤ n by omega)
      show _ ≤ xMany g lo hi n + _
      omega
section TEXTb
variable {v : xEv} {D : va_G} {cs : Nat → ClassId} {X : xX}
set_option maxHeartbeats 4000000 in
/-- one square's piece -/
theorem q_textS {qa n : Nat} {ra : Nat → Nat} {g : Nat → Nat → Int} {w h : Int} (hw : 2 ≤ w ∧ w ≤ 6) (hh : 2 ≤ h ∧ h ≤ 6) (hn : (n : Int) = w * h) (hg : xOkT g n) {b i : Nat} (hin : i < n) (hn36 : n ≤ 36) (hS0 : g i 0 ≠ 0)
    (ih : ∀ (m : Nat) (wb : va_W) (C S : Nat), xBld cs b (xText g w h (i + 1)) m wb → xCost C S m → QW v D cs zm_W_text 13 12 6000 X 38 [some (.ref qa), some (iZ w), some (iZ h), some (.ref (v.2.2.1 0)), some (.ref b), some (iZ (xMany g 7 7 (i + 1) : Nat)), some (iZ 0), some (iZ (((i : Int) + 1) : Int)), some (iZ (g i 0))] [] (wb ++ xGr cs qa n ra g) C S)
    {m : Nat} {wb : va_W} {C S : Nat} (hB : xBld cs b (xText g w h i) m wb) (hC : xCost C S m) : QW v D cs zm_W_text 13 12 6000 X 62 [some (.ref qa), some (iZ w), some (iZ h), some (.ref (v.2.2.1 0)), some (.ref b), some (iZ (xMany g 7 7 i : Nat)), some (iZ 0), some (iZ (i : Int)), some (iZ (g i 0))] [] (wb ++ xGr cs qa n ra g) C S := by
  have hgi := hg.1 i hin
  have hmm := xMany_mono g 7 7 (show i ≤ n by omega)
  have hm20 := hg.2
  have hTl := (xText_len g w h (i + 1)).2
  have e1 : (0 : Int) ≤ (i : Int) % w ∧ (i : Int) % w < 10 := ⟨Int.emod_nonneg _ (by omega), by have := Int.emod_lt_of_pos (i : Int) (show 0 < w by omega); omega⟩
  have e2 : (0 : Int) ≤ (i : Int) / w ∧ (i : Int) / w < 10 := ⟨Int.ediv_nonneg (by omega) (by omega), by have := Int.ediv_lt_of_lt_mul (a := (i : Int)) (b := h) (c := w) (by omega) (by rw [Int.mul_comm, ← hn]; omega); omega⟩
  have hTT : xText g w h (i + 1) = xA62 w i (g i 0) (g i 1) (g i 2) (xMany g 7 7 i : Nat) (xText g w h i) := by rw [xText, if_neg hS0]
  generalize hT' : xText g w h (i + 1) = T' at ih hTl hTT
  have e335 : ∀ z : Int, z = (xMany g 7 7 (i + 1) : Nat) → ∀ (m : Nat) (wb : va_W) (C S : Nat), xBld cs b T' m wb → xCost C S m → QW v D cs zm_W_text 13 12 6000 X 335 [some (.ref qa), some (iZ w), some (iZ h), some (.ref (v.2.2.1 0)), some (.ref b), some (iZ z), some (iZ 0), some (iZ (i : Int)), some (iZ (g i 0))] [] (wb ++ xGr cs qa n ra g) C S := by
    intro z hz m wb C S hB hC
    subst hz
    refine QW_iinc zd_W_text_335 rfl rfl (by decide) rfl ?_
    exact QW_goto zd_W_text_338 (ih m wb C S hB hC)
  have e303 : ∀ z : Int, z = (xMany g 7 7 (i + 1) : Nat) → ∀ (t : List Int) (m : Nat) (wb : va_W) (C S : Nat), xBld cs b t m wb → xCost C S m → xA303 w i t = T' → QW v D cs zm_W_text 13 12 6000 X 303 [some (.ref qa), some (iZ w), some (iZ h), some (.ref (v.2.2.1 0)), some (.ref b), some (iZ z), some (iZ 0), some (iZ (i : Int)), some (iZ (g i 0))] [] (wb ++ xGr cs qa n ra g) C S := by
    intro z hz t m wb C S hB hC hT
    have hlen : (xA303 w i t).length ≤ 1100 := by rw [hT]; omega
    have h16 : (xTxt 16).length ≤ 7 := xTxt_8 (by decide)
    unfold xA303 at hlen hT
    refine QW_aload zd_W_text_303 rfl ?_
    refine QW_ldcS (i := 16) rfl zd_W_text_305 ?_
    refine QW_appS (i := 16) (by decide) zd_W_text_307 (Nat.le_of_ble_eq_true rfl) hB hC (by simp only [List.length_append, List.length_singleton] at hlen ⊢; omega) (fun m wb C S hB hC => ?_)
    refine QW_iload zd_W_text_310 rfl ?_
    refine QW_iload_n zd_W_text_312 rfl ?_
    refine QW_irem zd_W_text_313 ⟨by omega, by omega⟩ ?_
    refine QW_appI (c := (i : Int) % w) ⟨by omega, by omega⟩ zd_W_text_314 (Nat.le_of_ble_eq_true rfl) hB hC (by simp only [List.length_append, List.length_singleton] at hlen ⊢; omega) (fun m wb C S hB hC => ?_)
    refine QW_bipush zd_W_text_317 (by decide) ?_
    refine QW_appC (c := 32) ⟨by omega, by omega⟩ zd_W_text_319 (Nat.le_of_ble_eq_true rfl) hB hC (by simp only [List.length_append, List.length_singleton] at hlen ⊢; omega) (fun m wb C S hB hC => ?_)
    refine QW_iload zd_W_text_322 rfl ?_
    refine QW_iload_n zd_W_text_324 rfl ?_
    refine QW_idiv zd_W_text_325 ⟨by omega, by omega⟩ ?_
    refine QW_appI (c := (i : Int) / w) ⟨by omega, by omega⟩ zd_W_text_326 (Nat.le_of_ble_eq_true rfl) hB hC (by simp only [List.length_append, List.length_singleton] at hlen ⊢; omega) (fun m wb C S hB hC => ?_)
    refine QW_bipush zd_W_text_329 (by decide) ?_
    refine QW_appC (c := 59) ⟨by omega, by omega⟩ zd_W_text_331 (Nat.le_of_ble_eq_true rfl) hB hC (by simp only [List.length_append, List.length_singleton] at hlen ⊢; omega) (fun m wb C S hB hC => ?_)
    refine QW_pop zd_W_text_334 rfl ?_
    exact e335 z hz m wb C S (hT ▸ hB) hC
  have e235 : ∀ z : Int, z = (xMany g 7 7 (i + 1) : Nat) → ∀ (t : List Int) (m : Nat) (wb : va_W) (C S : Nat), xBld cs b t m wb → xCost C S m → xA303 w i t = T' → QW v D cs zm_W_text 13 12 6000 X 235 [some (.ref qa), some (iZ w), some (iZ h), some (.ref (v.2.2.1 0)), some (.ref b), some (iZ z), some (iZ 0), some (iZ (i : Int)), some (iZ (g i 0))] [] (wb ++ xGr cs qa n ra g) C S := by
    intro z hz t m wb C S hB hC hT
    refine QW_iload zd_W_text_235 rfl ?_
    refine QW_bipush zd_W_text_237 (by decide) ?_
    exact QW_icmp_le zd_W_text_239 ⟨⟨by omega, by omega⟩, by omega, by omega⟩ (fun hz9 => e303 z hz t m wb C S hB hC hT) (fun hz9 => by omega)
  have e208 : ∀ (t : List Int) (m : Nat) (wb : va_W) (C S : Nat), xBld cs b t m wb → xCost C S m → xA208 w i (g i 0) (xMany g 7 7 i : Nat) t = T' → QW v D cs zm_W_text 13 12 6000 X 208 [some (.ref qa), some (iZ w), some (iZ h), some (.ref (v.2.2.1 0)), some (.ref b), some (iZ (xMany g 7 7 i : Nat)), some (iZ 0), some (iZ (i : Int)), some (iZ (g i 0))] [] (wb ++ xGr cs qa n ra g) C S := by
    intro t m wb C S hB hC hT
    have hlen : (xA208 w i (g i 0) (xMany g 7 7 i : Nat) t).length ≤ 1100 := by rw [hT]; omega
    unfold xA208 at hlen hT
    by_cases q : g i 0 = 7
    · rw [if_pos q] at hlen hT
      have hlen := Nat.le_trans (xA303_l _ _ _).1 hlen
      have hM : ((xMany g 7 7 i : Nat) : Int) + 1 = (xMany g 7 7 (i + 1) : Nat) := by
        show _ = ((xMany g 7 7 i + _ : Nat) : Int)
        rw [if_pos (by omega)]
        omega
      refine QW_iload zd_W_text_208 rfl ?_
      refine QW_bipush zd_W_text_210 (by decide) ?_
      refine QW_icmp_ne zd_W_text_212 ⟨⟨by omega, by omega⟩, by omega, by omega⟩ (fun hz => absurd q hz) (fun hz => ?_)
      refine QW_aload zd_W_text_215 rfl ?_
      refine QW_ldcS (i := 12) rfl zd_W_text_217 ?_
      refine QW_appS (i := 12) (by decide) zd_W_text_219 (Nat.le_of_ble_eq_true rfl) hB hC (by simp only [List.length_append, List.length_singleton] at hlen ⊢; omega) (fun m wb C S hB hC => ?_)
      refine QW_bipush zd_W_text_222 (by decide) ?_
      refine QW_iload zd_W_text_224 rfl ?_
      refine QW_iadd zd_W_text_226 ?_
      refine QW_i2c zd_W_text_227 (xchr ⟨by omega, by omega⟩).1 ?_
      refine QW_appC (c := 97 + ((xMany g 7 7 i : Nat) : Int)) ⟨by omega, by omega⟩ zd_W_text_228 (Nat.le_of_ble_eq_true rfl) hB hC (by simp only [List.length_append, List.length_singleton] at hlen ⊢; omega) (fun m wb C S hB hC => ?_)
      refine QW_pop zd_W_text_231 rfl ?_
      refine QW_iinc zd_W_text_232 rfl rfl (by decide) rfl ?_
      exact e235 _ hM _ m wb C S hB hC hT
    · rw [if_neg q] at hlen hT
      have hM : ((xMany g 7 7 i : Nat) : Int) = (xMany g 7 7 (i + 1) : Nat) := by
        show _ = ((xMany g 7 7 i + _ : Nat) : Int)
        rw [if_neg (by omega)]
        omega
      refine QW_iload zd_W_text_208 rfl ?_
      refine QW_bipush zd_W_text_210 (by decide) ?_
      exact QW_icmp_ne zd_W_text_212 ⟨⟨by omega, by omega⟩, by omega, by omega⟩ (fun hz9 => e235 _ hM t m wb C S hB hC hT) (fun hz9 => absurd hz9 q)
  have e176 : ∀ (t : List Int) (m : Nat) (wb : va_W) (C S : Nat), xBld cs b t m wb → xCost C S m → xA176 w i (g i 0) (xMany g 7 7 i : Nat) t = T' → QW v D cs zm_W_text 13 12 6000 X 176 [some (.ref qa), some (iZ w), some (iZ h), some (.ref (v.2.2.1 0)), some (.ref b), some (iZ (xMany g 7 7 i : Nat)), some (iZ 0), some (iZ (i : Int)), some (iZ (g i 0))] [] (wb ++ xGr cs qa n ra g) C S := by
    intro t m wb C S hB hC hT
    have hlen : (xA176 w i (g i 0) (xMany g 7 7 i : Nat) t).length ≤ 1100 := by rw [hT]; omega
    unfold xA176 at hlen hT
    by_cases q : g i 0 = 5
    · rw [if_pos q] at hlen hT
      have hlen := Nat.le_trans (xA208_l _ _ _ _ _).1 hlen
      refine QW_iload zd_W_text_176 rfl ?_
      refine QW_iconst zd_W_text_178 ?_
      refine QW_icmp_eq zd_W_text_179 ⟨⟨by omega, by omega⟩, by omega, by omega⟩ (fun hz => ?_) (fun hz => absurd q hz)
      refine QW_aload zd_W_text_189 rfl ?_
      refine QW_iload zd_W_text_191 rfl ?_
      refine QW_iconst zd_W_text_193 ?_
      refine QW_icmp_ne zd_W_text_194 ⟨⟨by omega, by omega⟩, by omega, by omega⟩ (fun hz => absurd q hz) (fun hz => ?_)
      refine QW_ldcS (i := 10) rfl zd_W_text_197 ?_
      refine QW_goto zd_W_text_199 ?_
      refine QW_appS (i := 10) (by decide) zd_W_text_204 (Nat.le_of_ble_eq_true rfl) hB hC (by simp only [List.length_append, List.length_singleton] at hlen ⊢; omega) (fun m wb C S hB hC => ?_)
      refine QW_pop zd_W_text_207 rfl ?_
      exact e208 _ m wb C S hB hC hT
    · rw [if_neg q] at hlen hT
      by_cases q6 : g i 0 = 6
      · rw [if_pos q6] at hlen hT
        have hlen := Nat.le_trans (xA208_l _ _ _ _ _).1 hlen
        refine QW_iload zd_W_text_176 rfl ?_
        refine QW_iconst zd_W_text_178 ?_
        refine QW_icmp_eq zd_W_text_179 ⟨⟨by omega, by omega⟩, by omega, by omega⟩ (fun hz => absurd hz q) (fun hz => ?_)
        refine QW_iload zd_W_text_182 rfl ?_
        refine QW_bipush zd_W_text_184 (by decide) ?_
        refine QW_icmp_ne zd_W_text_186 ⟨⟨by omega, by omega⟩, by omega, by omega⟩ (fun hz => absurd q6 hz) (fun hz => ?_)
        refine QW_aload zd_W_text_189 rfl ?_
        refine QW_iload zd_W_text_191 rfl ?_
        refine QW_iconst zd_W_text_193 ?_
        refine QW_icmp_ne zd_W_text_194 ⟨⟨by omega, by omega⟩, by omega, by omega⟩ (fun hz => ?_) (fun hz => absurd hz q)
        refine QW_ldcS (i := 11) rfl zd_W_text_202 ?_
        refine QW_appS (i := 11) (by decide) zd_W_text_204 (Nat.le_of_ble_eq_true rfl) hB hC (by simp only [List.length_append, List.length_singleton] at hlen ⊢; omega) (fun m wb C S hB hC => ?_)
        refine QW_pop zd_W_text_207 rfl ?_
        exact e208 _ m wb C S hB hC hT
      · rw [if_neg q6] at hlen hT
        refine QW_iload zd_W_text_176 rfl ?_
        refine QW_iconst zd_W_text_178 ?_
        refine QW_icmp_eq zd_W_text_179 ⟨⟨by omega, by omega⟩, by omega, by omega⟩ (fun hz => absurd hz q) (fun hz => ?_)
        refine QW_iload zd_W_text_182 rfl ?_
        refine QW_bipush zd_W_text_184 (by decide) ?_
        exact QW_icmp_ne zd_W_text_186 ⟨⟨by omega, by omega⟩, by omega, by omega⟩ (fun hz9 => e208 t m wb C S hB hC hT) (fun hz9 => absurd hz9 q6)
  have hcl := xCol_r (g i 1)
  have e150 : ∀ (t : List Int) (m : Nat) (wb : va_W) (C S : Nat), xBld cs b t m wb → xCost C S m → xA150 w i (g i 0) (g i 1) (xMany g 7 7 i : Nat) t = T' → QW v D cs zm_W_text 13 12 6000 X 150 [some (.ref qa), some (iZ w), some (iZ h), some (.ref (v.2.2.1 0)), some (.ref b), some (iZ (xMany g 7 7 i : Nat)), some (iZ 0), some (iZ (i : Int)), some (iZ (g i 0))] [] (wb ++ xGr cs qa n ra g) C S := by
    intro t m wb C S hB hC hT
    have hlen : (xA150 w i (g i 0) (g i 1) (xMany g 7 7 i : Nat) t).length ≤ 1100 := by rw [hT]; omega
    unfold xA150 at hlen hT
    by_cases q : g i 0 = 4
    · rw [if_pos q] at hlen hT
      have hlen := Nat.le_trans (xA176_l _ _ _ _ _).1 hlen
      refine QW_iload zd_W_text_150 rfl ?_
      refine QW_iconst zd_W_text_152 ?_
      refine QW_icmp_ne zd_W_text_153 ⟨⟨by omega, by omega⟩, by omega, by omega⟩ (fun hz => absurd q hz) (fun hz => ?_)
      refine QW_aload zd_W_text_156 rfl ?_
      refine QW_ldcS (i := 9) rfl zd_W_text_158 ?_
      refine QW_appS (i := 9) (by decide) zd_W_text_160 (Nat.le_of_ble_eq_true rfl) hB hC (by simp only [List.length_append, List.length_singleton] at hlen ⊢; omega) (fun m wb C S hB hC => ?_)
      refine QW_aload_n zd_W_text_163 rfl ?_
      refine QW_iload zd_W_text_164 rfl ?_
      refine QW_aald zd_W_text_166 (r := ra i) (List.mem_append_right _ xGr_top) ⟨by omega, by omega⟩ (by omega) (by rw [Int.toNat_natCast]; exact if_pos hin) ?_
      refine QW_iconst zd_W_text_167 ?_
      refine QW_iald zd_W_text_168 (List.mem_append_right _ (xGr_row hin)) ⟨by decide, by decide⟩ (by decide) ?_
      refine QW_z (show _ = g i 1 from rfl) ?_
      refine QW_callS (wc := []) (wr := wb ++ xGr cs qa n ra g) (as := [iZ (g i 1)]) (mc' := 0) (ms' := 0) (X' := fun u w => u = some (.ref (v.1 (xCol (g i 1)))) ∧ w = []) zd_W_text_169 zl_W_71 zk_W_colour zv_W_colour (fr' := 0) (by decide) rfl rfl (Nat.le_of_ble_eq_true rfl) (List.Perm.refl _) ⟨by have := xCost_le hC; omega, by have := xCost_le hC; omega⟩ (q_colour ⟨by omega, by omega⟩ ⟨rfl, rfl⟩) (fun u w h => ?_)
      obtain ⟨rfl, rfl⟩ := h
      refine QW_perm (ws' := wb ++ xGr cs qa n ra g) (List.Perm.refl _) ?_
      refine QW_appS (i := xCol (g i 1)) (by exact hcl) zd_W_text_172 (Nat.le_of_ble_eq_true rfl) hB hC (by simp only [List.length_append, List.length_singleton] at hlen ⊢; omega) (fun m wb C S hB hC => ?_)
      refine QW_pop zd_W_text_175 rfl ?_
      exact e176 _ m wb C S hB hC hT
    · rw [if_neg q] at hlen hT
      refine QW_iload zd_W_text_150 rfl ?_
      refine QW_iconst zd_W_text_152 ?_
      exact QW_icmp_ne zd_W_text_153 ⟨⟨by omega, by omega⟩, by omega, by omega⟩ (fun hz9 => e176 t m wb C S hB hC hT) (fun hz9 => absurd hz9 q)
  have e133 : g i 0 = 2 ∨ g i 0 = 3 → ∀ j, (j = 7 ∨ j = 8) → ∀ (t : List Int) (m : Nat) (wb : va_W) (C S : Nat), xBld cs b t m wb → xCost C S m → xA150 w i (g i 0) (g i 1) (xMany g 7 7 i : Nat) (t ++ xTxt j ++ xTxt (21 + (g i 1).toNat)) = T' → QW v D cs zm_W_text 13 12 6000 X 133 [some (.ref qa), some (iZ w), some (iZ h), some (.ref (v.2.2.1 0)), some (.ref b), some (iZ (xMany g 7 7 i : Nat)), some (iZ 0), some (iZ (i : Int)), some (iZ (g i 0))] [.ref (v.1 j), .ref b] (wb ++ xGr cs qa n ra g) C S := by
    intro hS j hj t m wb C S hB hC hT
    have hA := hgi.2.2.2 hS
    have hlen : (xA150 w i (g i 0) (g i 1) (xMany g 7 7 i : Nat) (t ++ xTxt j ++ xTxt (21 + (g i 1).toNat))).length ≤ 1100 := by rw [hT]; omega
    have hlen := Nat.le_trans (xA150_l _ _ _ _ _ _).1 hlen
    refine QW_appS (i := j) (by omega) zd_W_text_133 (Nat.le_of_ble_eq_true rfl) hB hC (by simp only [List.length_append, List.length_singleton] at hlen ⊢; omega) (fun m wb C S hB hC => ?_)
    refine QW_forms zd_W_text_136 zfl_W_83 ?_
    refine QW_aload_n zd_W_text_139 rfl ?_
    refine QW_iload zd_W_text_140 rfl ?_
    refine QW_aald zd_W_text_142 (r := ra i) (List.mem_append_right _ xGr_top) ⟨by omega, by omega⟩ (by omega) (by rw [Int.toNat_natCast]; exact if_pos hin) ?_
    refine QW_iconst zd_W_text_143 ?_
    refine QW_iald zd_W_text_144 (List.mem_append_right _ (xGr_row hin)) ⟨by decide, by decide⟩ (by decide) ?_
    refine QW_z (show _ = g i 1 from rfl) ?_
    refine QW_form zd_W_text_145 ⟨by omega, by omega⟩ ?_
    refine QW_appS (i := 21 + (g i 1).toNat) (by omega) zd_W_text_146 (Nat.le_of_ble_eq_true rfl) hB hC (by simp only [List.length_append, List.length_singleton] at hlen ⊢; omega) (fun m wb C S hB hC => ?_)
    refine QW_pop zd_W_text_149 rfl ?_
    exact e150 _ m wb C S hB hC hT
  have e106 : ∀ (t : List Int) (m : Nat) (wb : va_W) (C S : Nat), xBld cs b t m wb → xCost C S m → xA106 w i (g i 0) (g i 1) (xMany g 7 7 i : Nat) t = T' → QW v D cs zm_W_text 13 12 6000 X 106 [some (.ref qa), some (iZ w), some (iZ h), some (.ref (v.2.2.1 0)), some (.ref b), some (iZ (xMany g 7 7 i : Nat)), some (iZ 0), some (iZ (i : Int)), some (iZ (g i 0))] [] (wb ++ xGr cs qa n ra g) C S := by
    intro t m wb C S hB hC hT
    unfold xA106 at hT
    by_cases q : g i 0 = 2
    · rw [if_pos q] at hT
      refine QW_iload zd_W_text_106 rfl ?_
      refine QW_iconst zd_W_text_108 ?_
      refine QW_icmp_eq zd_W_text_109 ⟨⟨by omega, by omega⟩, by omega, by omega⟩ (fun hz => ?_) (fun hz => absurd q hz)
      refine QW_aload zd_W_text_118 rfl ?_
      refine QW_iload zd_W_text_120 rfl ?_
      refine QW_iconst zd_W_text_122 ?_
      refine QW_icmp_ne zd_W_text_123 ⟨⟨by omega, by omega⟩, by omega, by omega⟩ (fun hz => absurd q hz) (fun hz => ?_)
      refine QW_ldcS (i := 7) rfl zd_W_text_126 ?_
      exact QW_goto zd_W_text_128 (e133 (Or.inl q) 7 (Or.inl rfl) t m wb C S hB hC hT)
    · rw [if_neg q] at hT
      by_cases q3 : g i 0 = 3
      · rw [if_pos q3] at hT
        refine QW_iload zd_W_text_106 rfl ?_
        refine QW_iconst zd_W_text_108 ?_
        refine QW_icmp_eq zd_W_text_109 ⟨⟨by omega, by omega⟩, by omega, by omega⟩ (fun hz => absurd hz q) (fun hz => ?_)
        refine QW_iload zd_W_text_112 rfl ?_
        refine QW_iconst zd_W_text_114 ?_
        refine QW_icmp_ne zd_W_text_115 ⟨⟨by omega, by omega⟩, by omega, by omega⟩ (fun hz => absurd q3 hz) (fun hz => ?_)
        refine QW_aload zd_W_text_118 rfl ?_
        refine QW_iload zd_W_text_120 rfl ?_
        refine QW_iconst zd_W_text_122 ?_
        refine QW_icmp_ne zd_W_text_123 ⟨⟨by omega, by omega⟩, by omega, by omega⟩ (fun hz => ?_) (fun hz => absurd hz q)
        exact QW_ldcS (i := 8) rfl zd_W_text_131 (e133 (Or.inr q3) 8 (Or.inr rfl) t m wb C S hB hC hT)
      · rw [if_neg q3] at hT
        refine QW_iload zd_W_text_106 rfl ?_
        refine QW_iconst zd_W_text_108 ?_
        refine QW_icmp_eq zd_W_text_109 ⟨⟨by omega, by omega⟩, by omega, by omega⟩ (fun hz => absurd hz q) (fun hz => ?_)
        refine QW_iload zd_W_text_112 rfl ?_
        refine QW_iconst zd_W_text_114 ?_
        exact QW_icmp_ne zd_W_text_115 ⟨⟨by omega, by omega⟩, by omega, by omega⟩ (fun hz9 => e150 t m wb C S hB hC hT) (fun hz9 => absurd hz9 q3)
  have hT := hTT.symm
  have hlen : (xA62 w i (g i 0) (g i 1) (g i 2) (xMany g 7 7 i : Nat) (xText g w h i)).length ≤ 1100 := by rw [hT]; omega
  unfold xA62 at hlen hT
  by_cases q : g i 0 = 1
  · rw [if_pos q] at hlen hT
    have hlen := Nat.le_trans (xA106_l _ _ _ _ _ _).1 hlen
    refine QW_iload zd_W_text_62 rfl ?_
    refine QW_iconst zd_W_text_64 ?_
    refine QW_icmp_ne zd_W_text_65 ⟨⟨by omega, by omega⟩, by omega, by omega⟩ (fun hz => absurd q hz) (fun hz => ?_)
    refine QW_aload zd_W_text_68 rfl ?_
    refine QW_ldcS (i := 2) rfl zd_W_text_70 ?_
    refine QW_appS (i := 2) (by decide) zd_W_text_72 (Nat.le_of_ble_eq_true rfl) hB hC (by simp only [List.length_append, List.length_singleton] at hlen ⊢; omega) (fun m wb C S hB hC => ?_)
    refine QW_aload_n zd_W_text_75 rfl ?_
    refine QW_iload zd_W_text_76 rfl ?_
    refine QW_aald zd_W_text_78 (r := ra i) (List.mem_append_right _ xGr_top) ⟨by omega, by omega⟩ (by omega) (by rw [Int.toNat_natCast]; exact if_pos hin) ?_
    refine QW_iconst zd_W_text_79 ?_
    refine QW_iald zd_W_text_80 (List.mem_append_right _ (xGr_row hin)) ⟨by decide, by decide⟩ (by decide) ?_
    refine QW_z (show _ = g i 1 from rfl) ?_
    refine QW_callS (wc := []) (wr := wb ++ xGr cs qa n ra g) (as := [iZ (g i 1)]) (mc' := 0) (ms' := 0) (X' := fun u w => u = some (.ref (v.1 (xCol (g i 1)))) ∧ w = []) zd_W_text_81 zl_W_71 zk_W_colour zv_W_colour (fr' := 0) (by decide) rfl rfl (Nat.le_of_ble_eq_true rfl) (List.Perm.refl _) ⟨by have := xCost_le hC; omega, by have := xCost_le hC; omega⟩ (q_colour ⟨by omega, by omega⟩ ⟨rfl, rfl⟩) (fun u w h => ?_)
    obtain ⟨rfl, rfl⟩ := h
    refine QW_perm (ws' := wb ++ xGr cs qa n ra g) (List.Perm.refl _) ?_
    refine QW_appS (i := xCol (g i 1)) (by exact hcl) zd_W_text_84 (Nat.le_of_ble_eq_true rfl) hB hC (by simp only [List.length_append, List.length_singleton] at hlen ⊢; omega) (fun m wb C S hB hC => ?_)
    refine QW_bipush zd_W_text_87 (by decide) ?_
    refine QW_appC (c := 32) ⟨by omega, by omega⟩ zd_W_text_89 (Nat.le_of_ble_eq_true rfl) hB hC (by simp only [List.length_append, List.length_singleton] at hlen ⊢; omega) (fun m wb C S hB hC => ?_)
    refine QW_ways zd_W_text_92 zfl_W_75 ?_
    refine QW_aload_n zd_W_text_95 rfl ?_
    refine QW_iload zd_W_text_96 rfl ?_
    refine QW_aald zd_W_text_98 (r := ra i) (List.mem_append_right _ xGr_top) ⟨by omega, by omega⟩ (by omega) (by rw [Int.toNat_natCast]; exact if_pos hin) ?_
    refine QW_iconst zd_W_text_99 ?_
    refine QW_iald zd_W_text_100 (List.mem_append_right _ (xGr_row hin)) ⟨by decide, by decide⟩ (by decide) ?_
    refine QW_z (show _ = g i 2 from rfl) ?_
    refine QW_way zd_W_text_101 ⟨by omega, by omega⟩ ?_
    refine QW_appS (i := 17 + (g i 2).toNat) (by omega) zd_W_text_102 (Nat.le_of_ble_eq_true rfl) hB hC (by simp only [List.length_append, List.length_singleton] at hlen ⊢; omega) (fun m wb C S hB hC => ?_)
    refine QW_pop zd_W_text_105 rfl ?_
    exact e106 _ m wb C S hB hC hT
  · rw [if_neg q] at hlen hT
    refine QW_iload zd_W_text_62 rfl ?_
    refine QW_iconst zd_W_text_64 ?_
    exact QW_icmp_ne zd_W_text_65 ⟨⟨by omega, by omega⟩, by omega, by omega⟩ (fun hz9 => e106 _ m wb C S hB hC hT) (fun hz9 => absurd hz9 q)
set_option maxHeartbeats 4000000 in
theorem q_text {qa n : Nat} {ra : Nat → Nat} {g : Nat → Nat → Int} {w h : Int} (hw : 2 ≤ w ∧ w ≤ 6) (hh : 2 ≤ h ∧ h ≤ 6) (hn : (n : Int) = w * h) (hg : xOkT g n) (hX : ∀ s wS, xStr cs s (xText g w h n) wS → X (some (.ref s)) (wS ++ xGr cs qa n ra g)) : QM v D cs zm_W_text 13 12 6000 [.ref qa, iZ w, iZ h, .ref (v.2.2.1 0)] (xGr cs qa n ra g) X := by
  refine qm_of zk_W_text (Nat.le_of_ble_eq_true rfl) (ls := [some (.ref qa), some (iZ w), some (iZ h), some (.ref (v.2.2.1 0)), none, none, none, none, none]) rfl ?_
  have hn36 : n ≤ 36 := by
    have : w * h ≤ 6 * 6 := Int.mul_le_mul hw.2 hh.2 (by omega) (by omega)
    omega
  have loop : ∀ (b d i : Nat), i + d = n → ∀ (srt : Option Value) (m : Nat) (wb : va_W) (C S : Nat), xBld cs b (xText g w h i) m wb → xCost C S m → QW v D cs zm_W_text 13 12 6000 X 38 [some (.ref qa), some (iZ w), some (iZ h), some (.ref (v.2.2.1 0)), some (.ref b), some (iZ (xMany g 7 7 i : Nat)), some (iZ 0), some (iZ (i : Int)), srt] [] (wb ++ xGr cs qa n ra g) C S := by
    intro b d
    induction d with
    | zero =>
      intro i hi srt m wb C S hB hC
      obtain rfl : i = n := hi
      have hB0 := hB
      have hcl := xCost_le hC
      have hTl := (xText_len g w h i).2
      obtain ⟨da, f, rfl, -⟩ := hB
      refine QW_iload zd_W_text_38 rfl ?_
      refine QW_iload_n zd_W_text_40 rfl ?_
      refine QW_iload_n zd_W_text_41 rfl ?_
      refine QW_imul zd_W_text_42 ?_
      refine QW_z hn.symm ?_
      refine QW_icmp_ge zd_W_text_43 ⟨⟨by omega, by omega⟩, by omega, by omega⟩ (fun hz => ?_) (fun hz => by omega)
      refine QW_aload zd_W_text_341 rfl ?_
      refine QW_callV (wr := xGr cs qa i ra g) (as := []) (mc' := 2) (ms' := 4 + (xText g w h i).length) (X' := fun u w1 => ∃ s, u = some (.ref s) ∧ xStr cs s (xText g w h i) w1) zd_W_text_343 zl_W_99 zk_JD_toString zv_JD_toString (fr' := 10) (by decide) List.mem_cons_self rfl rfl rfl rfl (Nat.le_of_ble_eq_true rfl) (List.Perm.refl _) ⟨by omega, by omega⟩ (q_toString hB0 (fun s w' hw => ⟨s, rfl, hw⟩)) (fun u w h => ?_)
      obtain ⟨s, rfl, hw⟩ := h
      exact QW_aret zd_W_text_346 (Or.inl ⟨_, rfl⟩) ⟨by omega, by omega⟩ (hX s _ hw)
    | succ d ih =>
      intro i hi srt m wb C S hB hC
      have hin : i < n := by omega
      have hgi := hg.1 i hin
      refine QW_iload zd_W_text_38 rfl ?_
      refine QW_iload_n zd_W_text_40 rfl ?_
      refine QW_iload_n zd_W_text_41 rfl ?_
      refine QW_imul zd_W_text_42 ?_
      refine QW_z hn.symm ?_
      refine QW_icmp_ge zd_W_text_43 ⟨⟨by omega, by omega⟩, by omega, by omega⟩ (fun hz => by omega) (fun hz => ?_)
      refine QW_aload_n zd_W_text_46 rfl ?_
      refine QW_iload zd_W_text_47 rfl ?_
      refine QW_aald zd_W_text_49 (r := ra i) (List.mem_append_right _ xGr_top) ⟨by omega, by omega⟩ (by omega) (by rw [Int.toNat_natCast]; exact if_pos hin) ?_
      refine QW_iconst zd_W_text_50 ?_
      refine QW_iald zd_W_text_51 (List.mem_append_right _ (xGr_row hin)) ⟨by decide, by decide⟩ (by decide) ?_
      refine QW_z (show _ = g i 0 from rfl) ?_
      refine QW_istore zd_W_text_52 rfl (by decide) rfl ?_
      refine QW_iload zd_W_text_54 rfl ?_
      have ih' := fun m wb C S hB hC => ih (i + 1) (by omega) (some (iZ (g i 0))) m wb C S hB hC
      rw [Int.natCast_add] at ih'
      by_cases q : g i 0 = 0
      · refine QW_if_ne zd_W_text_56 (by omega) (fun hz => absurd q hz) (fun hz => ?_)
        have eM : xMany g 7 7 (i + 1) = xMany g 7 7 i := by
          show xMany g 7 7 i + _ = _
          rw [if_neg (by omega)]; rfl
        have eT : xText g w h (i + 1) = xText g w h i := by rw [xText, if_pos q]
        refine QW_goto zd_W_text_59 ?_
        refine QW_iinc zd_W_text_335 rfl rfl (by decide) rfl ?_
        refine QW_goto zd_W_text_338 ?_
        have := ih' m wb C S (by rw [eT]; exact hB) hC
        rwa [eM] at this
      · refine QW_if_ne zd_W_text_56 (by omega) (fun hz => ?_) (fun hz => absurd hz q)
        exact q_textS hw hh hn hg hin hn36 q ih' hB hC
  refine QW_new (ci := 8) (f0 := [.null, iZ 0, iZ 0, iZ 0]) zd_W_text_0 rfl zwd_609 zwd_610 zwd_10 zo_JD ⟨by decide, by decide⟩ (fun b => ?_)
  refine QW_dup zd_W_text_3 rfl ?_
  refine QW_ldcS (i := 1) rfl zd_W_text_4 ?_
  refine QW_callI (wc := [(b, .inr (8, [.null, iZ 0, iZ 0, iZ 0]))]) (wr := xGr cs qa n ra g) (as := [.ref (v.1 1)]) (mc' := 1) (ms' := 21) (X' := fun u w => u = none ∧ xBld cs b (xTxt 1) 21 w) zd_W_text_6 zl_W_56 zk_JD_init_a7421 rfl rfl zim_JD_init_a7421 (fr' := 12) (by decide) rfl rfl (Nat.le_of_ble_eq_true rfl) List.perm_append_comm ⟨by decide, by decide⟩ (q_initD (i := 1) (by decide) (fun w' hw => ⟨rfl, hw⟩)) (fun u w1 h1 => ?_)
  obtain ⟨rfl, hB⟩ := h1
  have h5 : (xTxt 1).length = 5 := by decide +kernel
  have hC : xCost 2 25 21 := ⟨by decide, by decide, by decide⟩
  refine QW_iload_n zd_W_text_9 rfl ?_
  refine QW_appI (c := w) ⟨by omega, by omega⟩ zd_W_text_10 (Nat.le_of_ble_eq_true rfl) hB hC (by simp only [List.length_append, List.length_singleton, h5]; omega) (fun m wb C S hB hC => ?_)
  refine QW_bipush zd_W_text_13 (by decide) ?_
  refine QW_appC (c := 32) ⟨by omega, by omega⟩ zd_W_text_15 (Nat.le_of_ble_eq_true rfl) hB hC (by simp only [List.length_append, List.length_singleton, h5]; omega) (fun m wb C S hB hC => ?_)
  refine QW_iload_n zd_W_text_18 rfl ?_
  refine QW_appI (c := h) ⟨by omega, by omega⟩ zd_W_text_19 (Nat.le_of_ble_eq_true rfl) hB hC (by simp only [List.length_append, List.length_singleton, h5]; omega) (fun m wb C S hB hC => ?_)
  refine QW_bipush zd_W_text_22 (by decide) ?_
  refine QW_appC (c := 59) ⟨by omega, by omega⟩ zd_W_text_24 (Nat.le_of_ble_eq_true rfl) hB hC (by simp only [List.length_append, List.length_singleton, h5]; omega) (fun m wb C S hB hC => ?_)
  refine QW_astore zd_W_text_27 rfl (by decide) rfl ?_
  refine QW_iconst zd_W_text_29 ?_
  refine QW_istore zd_W_text_30 rfl (by decide) rfl ?_
  refine QW_iconst zd_W_text_32 ?_
  refine QW_istore zd_W_text_33 rfl (by decide) rfl ?_
  refine QW_iconst zd_W_text_35 ?_
  refine QW_istore zd_W_text_36 rfl (by decide) rfl ?_
  exact loop b n 0 (Nat.zero_add n) none m wb C S hB hC
end TEXTb
