theorem zcst_JB_38 : Cond.constant zR_JB 38 (Int32.ofInt 2147483631) ∈ zU := zin3 140 (by decide +kernel) rfl
theorem zcst_JB_39 : Cond.constant zR_JB 39 (Int32.ofInt 2147483647) ∈ zU := zin3 141 (by decide +kernel) rfl
theorem zcst_JV_200 : Cond.constant zR_JV 200 (Int32.ofInt 2147483639) ∈ zU := zin3 181 (by decide +kernel) rfl
theorem zlfloorMod_W_13 : Cond.methodLink zR_W 13 zm_JM_floorMod.1 ∈ zU := zin3 101 (by decide +kernel) rfl
theorem zlmax_JV_194 : Cond.methodLink zR_JV 194 Lib.Math.max.name ∈ zU := zin3 178 (by decide +kernel) rfl
theorem zlmin_JA_304 : Cond.methodLink zR_JA 304 Lib.Math.min.name ∈ zU := zin3 195 (by decide +kernel) rfl
theorem zlcpy_JA_150 : Cond.methodLink zR_JA 150 arraycopyName ∈ zU := zin3 198 (by decide +kernel) rfl
theorem zlcpy_JS_212 : Cond.methodLink zR_JS 212 arraycopyName ∈ zU := zin4 13 (by decide +kernel) rfl
theorem zmin_st : Cond.static Lib.Math.min.name ∈ zU := zin3 196 (by decide +kernel) rfl
theorem zmin_in : Cond.initialized "java/lang/Math" ∈ zU := zin1 8 (by decide +kernel) rfl
theorem zmax_st : Cond.static Lib.Math.max.name ∈ zU := zin3 179 (by decide +kernel) rfl
theorem zmax_co : Cond.code Lib.Math.max.name Lib.Math.max.code 2 (some .int) ∈ zU := zin3 180 (by decide +kernel) rfl
theorem zfm_st : Cond.static zm_JM_floorMod.1 ∈ zU := zin3 102 (by decide +kernel) rfl
theorem zfm_co : Cond.code zm_JM_floorMod.1 zm_JM_floorMod.2.1 zm_JM_floorMod.2.2.1 (some .int) ∈ zU := zin3 103 (by decide +kernel) rfl
theorem zmin_co : Cond.code Lib.Math.min.name Lib.Math.min.code 2 (some .int) ∈ zU := zin3 197 (by decide +kernel) rfl
theorem zcpy_st : Cond.static arraycopyName ∈ zU := zin3 199 (by decide +kernel) rfl
theorem zcpy_nt : Cond.native arraycopyName ∈ zU := zin3 200 (by decide +kernel) rfl
theorem zcpy_in : Cond.initialized "java/lang/System" ∈ zU := zin1 15 (by decide +kernel) rfl

def zcpy1 (σ : zPH) (a : Nat) (n : Int) : zPH := fun a' k => if a' = a ∧ (k : Int) < n then σ a (k + 1) else σ a' k
theorem zws_setG {G : zG} {σ σ' : zPH} {a : Nat} {e : va_E} (hne : ∀ a' : Nat, a' ≠ a → σ' a' = σ a') (he : zent G (zsh G.2.2.2 a) (σ' a) = e) : (zws G σ).set a (G.1 a, e) = zws G σ' := by
  apply List.ext_getElem?
  intro i
  by_cases hi : i < 58
  · by_cases hia : i = a
    · subst hia
      rw [List.getElem?_set_self (by simpa [zws] using hi), zws_at hi, ← he]; rfl
    · rw [List.getElem?_set_ne (Ne.symm hia), zws_at hi, zws_at hi]
      simp only [zcell, hne i hia]
  · have h1 : (zws G σ).length = 58 := by simp [zws]
    rw [List.getElem?_eq_none (by rw [List.length_set, h1]; omega), List.getElem?_eq_none (by simp [zws]; omega)]
section PWS
variable {G : zG} {M : zMi} {fr : Nat} {X : zX} {pc pc' : Nat} {ls : List (Option Value)} {st : List Value} {σ : zPH} {x y : Int}
theorem PW_tsplit (lo hi : Int) (k1 : ∀ c : Int, x = c → lo ≤ c → c ≤ hi → PW G M fr X pc ls (iZ x :: st) σ) (k2 : x < lo ∨ hi < x → PW G M fr X pc ls (iZ x :: st) σ) : PW G M fr X pc ls (iZ x :: st) σ := by
  by_cases h : lo ≤ x ∧ x ≤ hi
  · exact k1 x rfl h.1 h.2
  · exact k2 (by omega)
theorem PW_mmin {idx : Nat} (d : decode M.2.1 pc = .ok (.invokestatic idx, 3) ∧ pc + 3 = pc') (lk : Cond.methodLink M.1.cls idx Lib.Math.min.name ∈ zU) (h : zI x ∧ zI y) (hcat : (st.map fun v => v.category).sum ≤ 8) (hfr : 1 ≤ fr) (k : PW G M fr X pc' ls (iZ (if y < x then y else x) :: st) σ) : PW G M fr X pc ls (iZ y :: iZ x :: st) σ := by
  obtain ⟨d, rfl⟩ := d
  intro p l e R s m args below meth c Z A H0 hc H la locs hP hD hS hl
  obtain ⟨hx, hb, hml, hown, hts, hK, ⟨hR1, rfl, hZ⟩, hR2, hAA, hret⟩ := id hc
  refine va_mmin hx hb (by rw [hml]; exact hl.1.symm) hown (hts _ lk) (hts _ zmin_st) (hts _ zmin_in) (hts _ zmin_co) (by omega) (by omega) (Nat.zero_le _) (Nat.zero_le _) d ?_
  have e9 : (Value.int (if Int32.ofInt y < Int32.ofInt x then Int32.ofInt y else Int32.ofInt x)) = iZ (if y < x then y else x) := by
    by_cases q : y < x
    · rw [if_pos q, if_pos ((zlt ⟨h.2, h.1⟩).mpr q)]; rfl
    · rw [if_neg q, if_neg (fun z => q ((zlt ⟨h.2, h.1⟩).mp z))]; rfl
  rw [e9]
  exact k _ _ _ _ _ _ _ _ _ _ _ _ _ hc _ _ _ hP hD hS hl
theorem PW_copyi {q len idx : Nat} {n : Int} (d : decode M.2.1 pc = .ok (.invokestatic idx, 3) ∧ pc + 3 = pc') (lk : Cond.methodLink M.1.cls idx arraycopyName ∈ zU) (hs : zsh G.2.2.2 q = .inr (0, len)) (h : 0 ≤ n ∧ n + 1 ≤ (len : Int)) (hcat : (st.map fun v => v.category).sum ≤ 8) (hfr : 6 ≤ fr) (k : PW G M fr X pc' ls st (zcpy1 σ q n)) (hlen : len ≤ 2147483647 := by decide) : PW G M fr X pc ls (iZ n :: iZ 0 :: zr G q :: iZ 1 :: zr G q :: st) σ := by
  obtain ⟨d, rfl⟩ := d
  intro p l e R s m args below meth c Z A H0 hc H la locs hP hD hS hl
  obtain ⟨hx, hb, hml, hown, hts, hK, ⟨hR1, rfl, hZ⟩, hR2, hAA, hret⟩ := id hc
  have hq := zws_at (G := G) (σ := σ) (zlt94a hs (by omega))
  simp only [zcell, hs, zent, zarr] at hq
  have hnw : nativeFrameWords "java/lang/System" "arraycopy" 5 ≤ 200 := by decide
  have hset := zws_setG (G := G) (σ := σ) (σ' := zcpy1 σ q n) (a := q) (e := .inl (G.2.2.1 0, len, .inl (va_cpy (fun k => Int32.ofInt (σ q k)) (fun k => Int32.ofInt (σ q k)) 1 0 n.toNat))) (by intro a' ha; funext k; simp [zcpy1, ha]) (by
    rw [hs]; simp only [zent, zarr]
    congr 4
    funext j
    by_cases hj : (j : Int) < n
    · rw [pk_cpy_in (by omega) (by omega)]
      simp only [zcpy1, true_and, hj, if_true]
      rw [show 1 + (j - 0) = j + 1 by omega]
    · rw [pk_cpy_out (by omega)]
      simp only [zcpy1, true_and, hj, if_false])
  refine va_copyi (sp := Int32.ofInt 1) (dp := Int32.ofInt 0) (n := Int32.ofInt n) hx hb (by rw [hml]; exact hl.1.symm) hown (hts _ lk) (hts _ zcpy_nt) (hts _ zcpy_st) (hts _ zcpy_in) hK hP hD hS q q 0 0 hq hq rfl rfl rfl (by decide) (by decide) (by rw [zlt0 (by omega)]; omega) ?_ ?_ (fun i hi => rfl) (by omega) (by omega) d (fun H1 locs1 hP1 hD1 hS1 => ?_)
  · rw [zclamp (by decide), zclamp (by omega)]; show 1 + _ ≤ _; omega
  · rw [zclamp (by decide), zclamp (by omega)]; show 0 + _ ≤ _; omega
  rw [show (Int32.ofInt 1).toNatClampNeg = 1 by decide, show (Int32.ofInt 0).toNatClampNeg = 0 by decide, zclamp (i := n) (by omega), hset] at hP1 hD1
  exact k _ _ _ _ _ _ _ _ _ _ _ _ _ hc _ _ _ hP1 hD1 hS1 hl
end PWS
