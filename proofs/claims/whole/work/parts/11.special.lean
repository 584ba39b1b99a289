theorem zcst_JI_265 : Cond.constant zR_JI 265 (Int32.ofInt 1431655765) ∈ zU := zin3 85 (by decide +kernel) rfl
theorem zcst_JI_266 : Cond.constant zR_JI 266 (Int32.ofInt 858993459) ∈ zU := zin3 86 (by decide +kernel) rfl
theorem zcst_JI_267 : Cond.constant zR_JI 267 (Int32.ofInt 252645135) ∈ zU := zin3 87 (by decide +kernel) rfl
theorem zcst_M_238 : Cond.constantLong zR_M 238 (Int64.ofInt 1936292453) ∈ zU := zin5 173 (by decide +kernel) rfl
theorem zcst_M_240 : Cond.constantLong zR_M 240 (Int64.ofInt 1818324336) ∈ zU := zin5 174 (by decide +kernel) rfl
theorem zcst_M_242 : Cond.constantLong zR_M 242 (Int64.ofInt 120299659095922) ∈ zU := zin5 175 (by decide +kernel) rfl
theorem zcst_M_244 : Cond.constantLong zR_M 244 (Int64.ofInt 1751215206) ∈ zU := zin5 176 (by decide +kernel) rfl
theorem zcst_M_246 : Cond.constantLong zR_M 246 (Int64.ofInt 444199957363) ∈ zU := zin5 177 (by decide +kernel) rfl
theorem zcst_M_248 : Cond.constantLong zR_M 248 (Int64.ofInt 482955850605) ∈ zU := zin5 178 (by decide +kernel) rfl
theorem zcst_M_250 : Cond.constantLong zR_M 250 (Int64.ofInt 2002873452) ∈ zU := zin5 179 (by decide +kernel) rfl
theorem zcst_M_252 : Cond.constantLong zR_M 252 (Int64.ofInt 6650213) ∈ zU := zin5 180 (by decide +kernel) rfl
theorem zcst_M_254 : Cond.constantLong zR_M 254 (Int64.ofInt 32484475995972978) ∈ zU := zin5 181 (by decide +kernel) rfl
theorem zcst_M_256 : Cond.constantLong zR_M 256 (Int64.ofInt 1986096741) ∈ zU := zin5 182 (by decide +kernel) rfl
theorem zcst_M_258 : Cond.constantLong zR_M 258 (Int64.ofInt 24948) ∈ zU := zin5 183 (by decide +kernel) rfl
theorem zcst_M_260 : Cond.constantLong zR_M 260 (Int64.ofInt 2003330414) ∈ zU := zin5 184 (by decide +kernel) rfl
theorem zcst_M_262 : Cond.constantLong zR_M 262 (Int64.ofInt 7497060) ∈ zU := zin5 185 (by decide +kernel) rfl
theorem zcst_M_264 : Cond.constantLong zR_M 264 (Int64.ofInt 444300879214) ∈ zU := zin5 186 (by decide +kernel) rfl
theorem zcst_M_266 : Cond.constantLong zR_M 266 (Int64.ofInt 1651275109) ∈ zU := zin5 187 (by decide +kernel) rfl
theorem zcst_M_268 : Cond.constantLong zR_M 268 (Int64.ofInt 512852849765) ∈ zU := zin5 188 (by decide +kernel) rfl
theorem zcst_M_270 : Cond.constantLong zR_M 270 (Int64.ofInt 30064) ∈ zU := zin5 189 (by decide +kernel) rfl
theorem zcst_M_272 : Cond.constantLong zR_M 272 (Int64.ofInt 491394656372) ∈ zU := zin5 190 (by decide +kernel) rfl
theorem zcst_M_274 : Cond.constantLong zR_M 274 (Int64.ofInt 1685026670) ∈ zU := zin5 191 (by decide +kernel) rfl
theorem zcst_M_276 : Cond.constantLong zR_M 276 (Int64.ofInt 1818584692) ∈ zU := zin5 192 (by decide +kernel) rfl
theorem zcst_M_278 : Cond.constantLong zR_M 278 (Int64.ofInt 495739564904) ∈ zU := zin5 193 (by decide +kernel) rfl
theorem zcst_M_280 : Cond.constantLong zR_M 280 (Int64.ofInt 1650549611) ∈ zU := zin5 194 (by decide +kernel) rfl
theorem zcst_M_282 : Cond.constantLong zR_M 282 (Int64.ofInt 28530) ∈ zU := zin5 195 (by decide +kernel) rfl
theorem zcst_M_284 : Cond.constantLong zR_M 284 (Int64.ofInt 6385252) ∈ zU := zin5 196 (by decide +kernel) rfl
theorem zcst_M_286 : Cond.constantLong zR_M 286 (Int64.ofInt 7237492) ∈ zU := zin5 197 (by decide +kernel) rfl
theorem zcst_M_288 : Cond.constantLong zR_M 288 (Int64.ofInt 6384748) ∈ zU := zin5 198 (by decide +kernel) rfl
theorem zcst_M_290 : Cond.constantLong zR_M 290 (Int64.ofInt 1936024947) ∈ zU := zin5 199 (by decide +kernel) rfl
theorem zcst_M_412 : Cond.constantLong zR_M 412 (Int64.ofInt 255) ∈ zU := zin6 87 (by decide +kernel) rfl
theorem zlcpy_S_22 : Cond.methodLink zR_S 22 arraycopyName ∈ zU := zin3 79 (by decide +kernel) rfl
theorem zlmin_C_81 : Cond.methodLink zR_C 81 Lib.Math.min.name ∈ zU := zin3 224 (by decide +kernel) rfl
theorem zmin_st : Cond.static Lib.Math.min.name ∈ zU := zin3 225 (by decide +kernel) rfl
theorem zmin_in : Cond.initialized "java/lang/Math" ∈ zU := zin1 16 (by decide +kernel) rfl
theorem zmin_co : Cond.code Lib.Math.min.name Lib.Math.min.code 2 (some .int) ∈ zU := zin3 226 (by decide +kernel) rfl
theorem zcpy_st : Cond.static arraycopyName ∈ zU := zin3 80 (by decide +kernel) rfl
theorem zcpy_nt : Cond.native arraycopyName ∈ zU := zin3 81 (by decide +kernel) rfl
theorem zcpy_in : Cond.initialized "java/lang/System" ∈ zU := zin1 14 (by decide +kernel) rfl

def zcpy1 (σ : zPH) (a : Nat) (n : Int) : zPH := fun a' k => if a' = a ∧ (k : Int) < n then σ a (k + 1) else σ a' k
theorem zws_setG {G : zG} {σ σ' : zPH} {a : Nat} {e : va_E} (hne : ∀ a' : Nat, a' ≠ a → σ' a' = σ a') (he : zent G (zsh G.2.2.2 a) (σ' a) = e) : (zws G σ).set a (G.1 a, e) = zws G σ' := by
  apply List.ext_getElem?
  intro i
  by_cases hi : i < 93
  · by_cases hia : i = a
    · subst hia
      rw [List.getElem?_set_self (by simpa [zws] using hi), zws_at hi, ← he]; rfl
    · rw [List.getElem?_set_ne (Ne.symm hia), zws_at hi, zws_at hi]
      simp only [zcell, hne i hia]
  · have h1 : (zws G σ).length = 93 := by simp [zws]
    rw [List.getElem?_eq_none (by rw [List.length_set, h1]; omega), List.getElem?_eq_none (by simp [zws]; omega)]
section PWS
variable {G : zG} {M : zMi} {fr : Nat} {X : zX} {pc pc' : Nat} {ls : List (Option Value)} {st : List Value} {σ : zPH} {x y : Int}
theorem PW_tsplit (lo hi : Int) (k1 : ∀ c : Int, x = c → lo ≤ c → c ≤ hi → PW G M fr X pc ls (iZ x :: st) σ) (k2 : x < lo ∨ hi < x → PW G M fr X pc ls (iZ x :: st) σ) : PW G M fr X pc ls (iZ x :: st) σ := by
  by_cases h : lo ≤ x ∧ x ≤ hi
  · exact k1 x rfl h.1 h.2
  · exact k2 (by omega)
theorem PW_mmin {idx : Nat} (d : decode M.2.1 pc = .ok (.invokestatic idx, 3) ∧ pc + 3 = pc') (lk : Cond.methodLink M.1.cls idx Lib.Math.min.name ∈ zU) (h : zI x ∧ zI y) (hcat : (st.map fun v => v.category).sum ≤ 8) (hfr : 1 ≤ fr) (k : PW G M fr X pc' ls (iZ (if y < x then y else x) :: st) σ) : PW G M fr X pc ls (iZ y :: iZ x :: st) σ := by
  obtain ⟨d, rfl⟩ := d
  intro p l e R s m args below meth c Z A H0 hc H la locs hP hD hS hl
  obtain ⟨hx, hb, hml, hown, hts, hK, ⟨hR1, rfl, hZ⟩, hR2, hAA, hret⟩ := id hc
  refine va_mmin hx hb (by rw [hml]; exact hl.1.symm) hown (hts _ lk) (hts _ zmin_st) (hts _ zmin_in) (hts _ zmin_co) (by omega) (by omega) (Nat.zero_le _) (Nat.zero_le _) d ?_
  have e9 : (Value.int (if Int32.ofInt y < Int32.ofInt x then Int32.ofInt y else Int32.ofInt x)) = iZ (if y < x then y else x) := by
    by_cases q : y < x
    · rw [if_pos q, if_pos ((zlt ⟨h.2, h.1⟩).mpr q)]; rfl
    · rw [if_neg q, if_neg (fun z => q ((zlt ⟨h.2, h.1⟩).mp z))]; rfl
  rw [e9]
  exact k _ _ _ _ _ _ _ _ _ _ _ _ _ hc _ _ _ hP hD hS hl
theorem PW_copyi {q len idx : Nat} {n : Int} (d : decode M.2.1 pc = .ok (.invokestatic idx, 3) ∧ pc + 3 = pc') (lk : Cond.methodLink M.1.cls idx arraycopyName ∈ zU) (hs : zsh G.2.2.2 q = .inr (0, len)) (h : 0 ≤ n ∧ n + 1 ≤ (len : Int)) (hcat : (st.map fun v => v.category).sum ≤ 8) (hfr : 6 ≤ fr) (k : PW G M fr X pc' ls st (zcpy1 σ q n)) (hlen : len ≤ 2147483647 := by decide) : PW G M fr X pc ls (iZ n :: iZ 0 :: zr G q :: iZ 1 :: zr G q :: st) σ := by
  obtain ⟨d, rfl⟩ := d
  intro p l e R s m args below meth c Z A H0 hc H la locs hP hD hS hl
  obtain ⟨hx, hb, hml, hown, hts, hK, ⟨hR1, rfl, hZ⟩, hR2, hAA, hret⟩ := id hc
  have hq := zws_at (G := G) (σ := σ) (zlt94a hs (by omega))
  simp only [zcell, hs, zent, zarr] at hq
  have hnw : nativeFrameWords "java/lang/System" "arraycopy" 5 ≤ 200 := by decide
  have hset := zws_setG (G := G) (σ := σ) (σ' := zcpy1 σ q n) (a := q) (e := .inl (G.2.2.1 0, len, .inl (va_cpy (fun k => Int32.ofInt (σ q k)) (fun k => Int32.ofInt (σ q k)) 1 0 n.toNat))) (by intro a' ha; funext k; simp [zcpy1, ha]) (by
    rw [hs]; simp only [zent, zarr]
    congr 4
    funext j
    by_cases hj : (j : Int) < n
    · rw [pk_cpy_in (by omega) (by omega)]
      simp only [zcpy1, true_and, hj, if_true]
      rw [show 1 + (j - 0) = j + 1 by omega]
    · rw [pk_cpy_out (by omega)]
      simp only [zcpy1, true_and, hj, if_false])
  refine va_copyi (sp := Int32.ofInt 1) (dp := Int32.ofInt 0) (n := Int32.ofInt n) hx hb (by rw [hml]; exact hl.1.symm) hown (hts _ lk) (hts _ zcpy_nt) (hts _ zcpy_st) (hts _ zcpy_in) hK hP hD hS q q 0 0 hq hq rfl rfl rfl (by decide) (by decide) (by rw [zlt0 (by omega)]; omega) ?_ ?_ (fun i hi => rfl) (by omega) (by omega) d (fun H1 locs1 hP1 hD1 hS1 => ?_)
  · rw [zclamp (by decide), zclamp (by omega)]; show 1 + _ ≤ _; omega
  · rw [zclamp (by decide), zclamp (by omega)]; show 0 + _ ≤ _; omega
  rw [show (Int32.ofInt 1).toNatClampNeg = 1 by decide, show (Int32.ofInt 0).toNatClampNeg = 0 by decide, zclamp (i := n) (by omega), hset] at hP1 hD1
  exact k _ _ _ _ _ _ _ _ _ _ _ _ _ hc _ _ _ hP1 hD1 hS1 hl
end PWS
