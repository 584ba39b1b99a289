/-- the node of an entry of the law's sum -/
def xnd (w : Int) (t : Nat) : Nat := 4 * xq w (t / 4) + t % 4
theorem xsq_r {w h : Int} {n j : Nat} (hw : 2 ≤ w ∧ w ≤ 6) (hn : (n : Int) = w * h) (hj : j < n) : (0 ≤ (j : Int) % w ∧ (j : Int) % w < w) ∧ 0 ≤ (j : Int) / w ∧ (j : Int) / w < h :=
  ⟨⟨Int.emod_nonneg _ (by omega), Int.emod_lt_of_pos (j : Int) (show 0 < w by omega)⟩, Int.ediv_nonneg (by omega) (by omega), Int.ediv_lt_of_lt_mul (a := (j : Int)) (b := h) (c := w) (by omega) (by rw [Int.mul_comm, ← hn]; omega)⟩
theorem xLgt_v {V Dd : zPH} {g : Nat → Nat → Int} {w h x : Int} {n j y : Nat} (hw : 2 ≤ w ∧ w ≤ 6) (hn : (n : Int) = w * h) (hH : xHas V Dd g w h n) (hj : j < n) (hy : y < 4) (hx : zLgt V Dd ((j : Int) % w) ((j : Int) / w) (y : Int) x) : x = zLv V 0 0 255 7 (xnd w (4 * j + y)) := by
  obtain ⟨a, b⟩ := xsq_r hw hn hj
  have h0 := hH.1.1.1
  have h1 := hH.1.1.2.1
  rcases hx with ⟨-, -, e⟩ | ⟨e, -⟩
  · rw [e, hH.2.2.1, hH.2.2.2.1]
    unfold xnd xq
    rw [show (4 * j + y) / 4 = j by omega, show (4 * j + y) % 4 = y by omega, Int.toNat_natCast]
  · exact absurd ⟨⟨⟨a.1, by omega⟩, b.1, by omega⟩, by omega, by omega⟩ e
section LOOPS
variable {v : xEv} {D : va_G} {cs : Nat → ClassId} {X : xX}
set_option maxHeartbeats 2000000 in
/-- the sum takes p's light up -/
theorem q_addL {Go Gp : zG} {qa qs qt n : Nat} {ra : Nat → Nat} {fo : Nat → Int} {w h : Int} (hGo : Go.2.1 = D ∧ Go.2.2.1 = cs) (hGp : Gp.2.1 = D ∧ Gp.2.2.1 = cs) (hw : 2 ≤ w ∧ w ≤ 6) (hh : 2 ≤ h ∧ h ≤ 6) (hn : (n : Int) = w * h) (hn36 : n ≤ 36) {Vp Dp : zPH} {tp up : Nat} {g gp : Nat → Nat → Int} {σo : zPH} {C S i : Nat} {x9 x10 : Int} {Old Li : Nat → Nat → Prop} (hCS : C ≤ 12000 ∧ S ≤ 1000000) (hHp : xHas Vp Dp gp w h n) (hL : ∀ t, t < 4 * n → zLv Vp 0 0 255 7 (xnd w t) = xBi (Li t))
    (k : ∀ (σp : zPH) (fs : Nat → Int) (x11 x12 : Option Value), zCI σp Vp Dp tp up → (∀ t, t < 4 * n → fs t = xBi (fun b => Old t b ∨ Li t b)) → QW v D cs zm_W_law 44 12000 1000000 X 341 [some (.ref (v.2.2.1 3)), some (zr Go 0), some (zr Gp 0), some (iZ w), some (iZ h), some (.ref qa), some (.ref qs), some (.ref qt), some (iZ (i : Int)), some (iZ x9), some (iZ x10), x11, x12] [] (xGr cs qa n ra g ++ (zws Go σo ++ (zws Gp σp ++ [(qs, Sum.inl (cs 0, zarr 0 (4 * n) fs)), (qt, Sum.inl (cs 0, zarr 0 n fo))]))) C S)
    {σp : zPH} {fs : Nat → Int} {x11 x12 : Option Value} (hcp : zCI σp Vp Dp tp up) (hfs : ∀ t, t < 4 * n → fs t = xBi (Old t)) : QW v D cs zm_W_law 44 12000 1000000 X 281 [some (.ref (v.2.2.1 3)), some (zr Go 0), some (zr Gp 0), some (iZ w), some (iZ h), some (.ref qa), some (.ref qs), some (.ref qt), some (iZ (i : Int)), some (iZ x9), some (iZ x10), x11, x12] [] (xGr cs qa n ra g ++ (zws Go σo ++ (zws Gp σp ++ [(qs, Sum.inl (cs 0, zarr 0 (4 * n) fs)), (qt, Sum.inl (cs 0, zarr 0 n fo))]))) C S := by
  have inner : ∀ j : Nat, j < n → (∀ (σp : zPH) (fs : Nat → Int) (x12 : Option Value), zCI σp Vp Dp tp up → (∀ t, t < 4 * n → fs t = if t < 4 * j + 4 then xBi (fun b => Old t b ∨ Li t b) else xBi (Old t)) → QW v D cs zm_W_law 44 12000 1000000 X 335 [some (.ref (v.2.2.1 3)), some (zr Go 0), some (zr Gp 0), some (iZ w), some (iZ h), some (.ref qa), some (.ref qs), some (.ref qt), some (iZ (i : Int)), some (iZ x9), some (iZ x10), some (iZ (j : Int)), x12] [] (xGr cs qa n ra g ++ (zws Go σo ++ (zws Gp σp ++ [(qs, Sum.inl (cs 0, zarr 0 (4 * n) fs)), (qt, Sum.inl (cs 0, zarr 0 n fo))]))) C S) →
      ∀ d y : Nat, y + d = 4 → ∀ (σp : zPH) (fs : Nat → Int), zCI σp Vp Dp tp up → (∀ t, t < 4 * n → fs t = if t < 4 * j + y then xBi (fun b => Old t b ∨ Li t b) else xBi (Old t)) → QW v D cs zm_W_law 44 12000 1000000 X 296 [some (.ref (v.2.2.1 3)), some (zr Go 0), some (zr Gp 0), some (iZ w), some (iZ h), some (.ref qa), some (.ref qs), some (.ref qt), some (iZ (i : Int)), some (iZ x9), some (iZ x10), some (iZ (j : Int)), some (iZ (y : Int))] [] (xGr cs qa n ra g ++ (zws Go σo ++ (zws Gp σp ++ [(qs, Sum.inl (cs 0, zarr 0 (4 * n) fs)), (qt, Sum.inl (cs 0, zarr 0 n fo))]))) C S := by
    intro j hjn kj d
    induction d with
    | zero =>
      intro y hy σp fs hcp hfs
      obtain rfl : y = 4 := hy
      refine QW_iload zd_W_law_296 rfl ?_
      refine QW_iconst zd_W_law_298 ?_
      exact QW_icmp_ge zd_W_law_299 ⟨⟨by decide, by decide⟩, by decide, by decide⟩ (fun hz => kj σp fs _ hcp hfs) (fun hz => absurd hz (by decide))
    | succ d ih =>
      intro y hy σp fs hcp hfs
      have hyn : y < 4 := by omega
      have hx := xsq_r hw hn hjn
      have ht : 4 * j + y < 4 * n := by omega
      have hf0 := hfs _ ht
      rw [if_neg (by omega)] at hf0
      refine QW_iload zd_W_law_296 rfl ?_
      refine QW_iconst zd_W_law_298 ?_
      refine QW_icmp_ge zd_W_law_299 ⟨⟨by omega, by omega⟩, by omega, by omega⟩ (fun hz => by omega) (fun hz => ?_)
      refine QW_aload zd_W_law_302 rfl ?_
      refine QW_iconst zd_W_law_304 ?_
      refine QW_iload zd_W_law_305 rfl ?_
      refine QW_imul zd_W_law_307 ?_
      refine QW_iload zd_W_law_308 rfl ?_
      refine QW_iadd zd_W_law_310 ?_
      refine QW_z (show _ = ((4 * j + y : Nat) : Int) by omega) ?_
      refine QW_dup2 zd_W_law_311 rfl rfl ?_
      refine QW_iald (f := fs) zd_W_law_312 (List.mem_append_right _ (List.mem_append_right _ (List.mem_append_right _ List.mem_cons_self))) ⟨by omega, by omega⟩ (by omega) ?_
      refine QW_z (show _ = xBi (Old (4 * j + y)) by rw [Int.toNat_natCast]; exact hf0) ?_
      refine QW_aload_n zd_W_law_313 rfl ?_
      refine QW_iload zd_W_law_314 rfl ?_
      refine QW_iload_n zd_W_law_316 rfl ?_
      refine QW_irem zd_W_law_317 ⟨by omega, by omega⟩ ?_
      refine QW_iload zd_W_law_318 rfl ?_
      refine QW_iload_n zd_W_law_320 rfl ?_
      refine QW_idiv zd_W_law_321 ⟨by omega, by omega⟩ ?_
      refine QW_iload zd_W_law_322 rfl ?_
      refine QW_ms (wr := xGr cs qa n ra g ++ (zws Go σo ++ [(qs, Sum.inl (cs 0, zarr 0 (4 * n) fs)), (qt, Sum.inl (cs 0, zarr 0 n fo))])) (np := 3) (as := [iZ ((j : Int) % w), iZ ((j : Int) / w), iZ (y : Int)]) hGp zd_W_law_324 zl_W_131 zk_B_light zv_B_light (fr' := 6) (by decide) rfl rfl rfl rfl rfl (Nat.le_of_ble_eq_true rfl) xpP ⟨by omega, by omega⟩ (Y := fun u σ' => ∃ x, u = some (iZ x) ∧ x = zLv Vp 0 0 255 7 (xnd w (4 * j + y)) ∧ zCI σ' Vp Dp tp up) (s_B_light hHp.2.1 hcp ⟨by omega, by omega⟩ ⟨by omega, by omega⟩ ⟨by omega, by omega⟩ (fun σ' x h1 h2 _ => ⟨x, rfl, xLgt_v hw hn hHp hjn hyn h1, h2⟩)) (fun u σ1 hu => ?_)
      obtain ⟨x, rfl, hx2, hc1⟩ := hu
      rw [hL _ ht] at hx2
      subst hx2
      refine QW_perm (ws' := xGr cs qa n ra g ++ (zws Go σo ++ (zws Gp σ1 ++ [(qs, Sum.inl (cs 0, zarr 0 (4 * n) fs)), (qt, Sum.inl (cs 0, zarr 0 n fo))]))) xpP.symm ?_
      refine QW_ior zd_W_law_327 ⟨(xBi_r _).1, (xBi_r _).1⟩ ?_
      refine QW_z (xBi_or _ _) ?_
      refine QW_iast (f := fs) zd_W_law_328 xpS ⟨by omega, by omega⟩ (by omega) ?_
      refine QW_perm (ws' := xGr cs qa n ra g ++ (zws Go σo ++ (zws Gp σ1 ++ [(qs, Sum.inl (cs 0, zarr 0 (4 * n) (zaU fs ((4 * j + y : Nat) : Int).toNat (xBi (fun b => Old (4 * j + y) b ∨ Li (4 * j + y) b))))), (qt, Sum.inl (cs 0, zarr 0 n fo))]))) xpS.symm ?_
      refine QW_iinc zd_W_law_329 rfl rfl (by decide) rfl ?_
      refine QW_goto zd_W_law_332 ?_
      have := ih (y + 1) (by omega) σ1 (zaU fs ((4 * j + y : Nat) : Int).toNat (xBi (fun b => Old (4 * j + y) b ∨ Li (4 * j + y) b))) hc1 (fun t ht' => ?_)
      · rwa [Int.natCast_add] at this
      · rw [Int.toNat_natCast]
        by_cases q : t = 4 * j + y
        · subst q; rw [zaU_s, if_pos (by omega)]
        · rw [zaU_n q, hfs t ht']
          by_cases q2 : t < 4 * j + y
          · rw [if_pos q2, if_pos (by omega)]
          · rw [if_neg q2, if_neg (by omega)]
  have outer : ∀ d j : Nat, j + d = n → ∀ (σp : zPH) (fs : Nat → Int) (x12 : Option Value), zCI σp Vp Dp tp up → (∀ t, t < 4 * n → fs t = if t < 4 * j then xBi (fun b => Old t b ∨ Li t b) else xBi (Old t)) → QW v D cs zm_W_law 44 12000 1000000 X 284 [some (.ref (v.2.2.1 3)), some (zr Go 0), some (zr Gp 0), some (iZ w), some (iZ h), some (.ref qa), some (.ref qs), some (.ref qt), some (iZ (i : Int)), some (iZ x9), some (iZ x10), some (iZ (j : Int)), x12] [] (xGr cs qa n ra g ++ (zws Go σo ++ (zws Gp σp ++ [(qs, Sum.inl (cs 0, zarr 0 (4 * n) fs)), (qt, Sum.inl (cs 0, zarr 0 n fo))]))) C S := by
    intro d
    induction d with
    | zero =>
      intro j hj σp fs x12 hcp hfs
      obtain rfl : j = n := hj
      refine QW_iload zd_W_law_284 rfl ?_
      refine QW_iload_n zd_W_law_286 rfl ?_
      refine QW_iload zd_W_law_287 rfl ?_
      refine QW_imul zd_W_law_289 ?_
      refine QW_z hn.symm ?_
      exact QW_icmp_ge zd_W_law_290 ⟨⟨by omega, by omega⟩, by omega, by omega⟩ (fun hz => k σp fs _ x12 hcp (fun t ht => by rw [hfs t ht, if_pos ht])) (fun hz => by omega)
    | succ d ih =>
      intro j hj σp fs x12 hcp hfs
      have hjn : j < n := by omega
      refine QW_iload zd_W_law_284 rfl ?_
      refine QW_iload_n zd_W_law_286 rfl ?_
      refine QW_iload zd_W_law_287 rfl ?_
      refine QW_imul zd_W_law_289 ?_
      refine QW_z hn.symm ?_
      refine QW_icmp_ge zd_W_law_290 ⟨⟨by omega, by omega⟩, by omega, by omega⟩ (fun hz => by omega) (fun hz => ?_)
      refine QW_iconst zd_W_law_293 ?_
      refine QW_istore zd_W_law_294 rfl (by decide) rfl ?_
      refine inner j hjn (fun σp fs x12 hcp hfs => ?_) 4 0 (by decide) σp fs hcp (fun t ht => by rw [hfs t ht]; rfl)
      refine QW_iinc zd_W_law_335 rfl rfl (by decide) rfl ?_
      refine QW_goto zd_W_law_338 ?_
      have := ih (j + 1) (by omega) σp fs x12 hcp (fun t ht => by rw [hfs t ht, show 4 * j + 4 = 4 * (j + 1) by omega])
      rwa [Int.natCast_add] at this
  refine QW_iconst zd_W_law_281 ?_
  refine QW_istore zd_W_law_282 rfl (by decide) rfl ?_
  exact outer n 0 (Nat.zero_add n) σp fs x12 hcp (fun t ht => by rw [hfs t ht]; rfl)
set_option maxHeartbeats 2000000 in
/-- o's light is the sum -/
theorem q_same {Go Gp : zG} {qa qs qt n : Nat} {ra : Nat → Nat} {fo : Nat → Int} {w h : Int} (hGo : Go.2.1 = D ∧ Go.2.2.1 = cs) (hGp : Gp.2.1 = D ∧ Gp.2.2.1 = cs) (hw : 2 ≤ w ∧ w ≤ 6) (hh : 2 ≤ h ∧ h ≤ 6) (hn : (n : Int) = w * h) (hn36 : n ≤ 36) {Vo Do : zPH} {to uo : Nat} {g go : Nat → Nat → Int} {σp : zPH} {C S : Nat} {fs : Nat → Int} (hCS : C ≤ 12000 ∧ S ≤ 1000000) (hHo : xHas Vo Do go w h n) (hfs : ∀ t, t < 4 * n → fs t = zLv Vo 0 0 255 7 (xnd w t))
    (k : ∀ W : va_W, X (some (iZ 1)) W)
    {σo : zPH} {x8 : Int} {x9 x10 x11 x12 : Option Value} (hco : zCI σo Vo Do to uo) : QW v D cs zm_W_law 44 12000 1000000 X 467 [some (.ref (v.2.2.1 3)), some (zr Go 0), some (zr Gp 0), some (iZ w), some (iZ h), some (.ref qa), some (.ref qs), some (.ref qt), some (iZ x8), x9, x10, x11, x12] [] (xGr cs qa n ra g ++ (zws Go σo ++ (zws Gp σp ++ [(qs, Sum.inl (cs 0, zarr 0 (4 * n) fs)), (qt, Sum.inl (cs 0, zarr 0 n fo))]))) C S := by
  have inner : ∀ j : Nat, j < n → (∀ (σo : zPH) (x9 : Option Value), zCI σo Vo Do to uo → QW v D cs zm_W_law 44 12000 1000000 X 523 [some (.ref (v.2.2.1 3)), some (zr Go 0), some (zr Gp 0), some (iZ w), some (iZ h), some (.ref qa), some (.ref qs), some (.ref qt), some (iZ (j : Int)), x9, x10, x11, x12] [] (xGr cs qa n ra g ++ (zws Go σo ++ (zws Gp σp ++ [(qs, Sum.inl (cs 0, zarr 0 (4 * n) fs)), (qt, Sum.inl (cs 0, zarr 0 n fo))]))) C S) →
      ∀ d y : Nat, y + d = 4 → ∀ (σo : zPH), zCI σo Vo Do to uo → QW v D cs zm_W_law 44 12000 1000000 X 482 [some (.ref (v.2.2.1 3)), some (zr Go 0), some (zr Gp 0), some (iZ w), some (iZ h), some (.ref qa), some (.ref qs), some (.ref qt), some (iZ (j : Int)), some (iZ (y : Int)), x10, x11, x12] [] (xGr cs qa n ra g ++ (zws Go σo ++ (zws Gp σp ++ [(qs, Sum.inl (cs 0, zarr 0 (4 * n) fs)), (qt, Sum.inl (cs 0, zarr 0 n fo))]))) C S := by
    intro j hjn kj d
    induction d with
    | zero =>
      intro y hy σo hco
      obtain rfl : y = 4 := hy
      refine QW_iload zd_W_law_482 rfl ?_
      refine QW_iconst zd_W_law_484 ?_
      exact QW_icmp_ge zd_W_law_485 ⟨⟨by decide, by decide⟩, by decide, by decide⟩ (fun hz => kj σo _ hco) (fun hz => absurd hz (by decide))
    | succ d ih =>
      intro y hy σo hco
      have hyn : y < 4 := by omega
      have hx := xsq_r hw hn hjn
      have ht : 4 * j + y < 4 * n := by omega
      have hf0 := hfs _ ht
      have h8 := @zLv_8 Vo 0 0 255 7 (xnd w (4 * j + y))
      refine QW_iload zd_W_law_482 rfl ?_
      refine QW_iconst zd_W_law_484 ?_
      refine QW_icmp_ge zd_W_law_485 ⟨⟨by omega, by omega⟩, by omega, by omega⟩ (fun hz => by omega) (fun hz => ?_)
      refine QW_aload_n zd_W_law_488 rfl ?_
      refine QW_iload zd_W_law_489 rfl ?_
      refine QW_iload_n zd_W_law_491 rfl ?_
      refine QW_irem zd_W_law_492 ⟨by omega, by omega⟩ ?_
      refine QW_iload zd_W_law_493 rfl ?_
      refine QW_iload_n zd_W_law_495 rfl ?_
      refine QW_idiv zd_W_law_496 ⟨by omega, by omega⟩ ?_
      refine QW_iload zd_W_law_497 rfl ?_
      refine QW_ms (wr := xGr cs qa n ra g ++ (zws Gp σp ++ [(qs, Sum.inl (cs 0, zarr 0 (4 * n) fs)), (qt, Sum.inl (cs 0, zarr 0 n fo))])) (np := 3) (as := [iZ ((j : Int) % w), iZ ((j : Int) / w), iZ (y : Int)]) hGo zd_W_law_499 zl_W_131 zk_B_light zv_B_light (fr' := 6) (by decide) rfl rfl rfl rfl rfl (Nat.le_of_ble_eq_true rfl) xpO ⟨by omega, by omega⟩ (Y := fun u σ' => ∃ x, u = some (iZ x) ∧ x = zLv Vo 0 0 255 7 (xnd w (4 * j + y)) ∧ zCI σ' Vo Do to uo) (s_B_light hHo.2.1 hco ⟨by omega, by omega⟩ ⟨by omega, by omega⟩ ⟨by omega, by omega⟩ (fun σ' x h1 h2 _ => ⟨x, rfl, xLgt_v hw hn hHo hjn hyn h1, h2⟩)) (fun u σ1 hu => ?_)
      obtain ⟨x, rfl, hx2, hc1⟩ := hu
      subst hx2
      refine QW_perm (ws' := xGr cs qa n ra g ++ (zws Go σ1 ++ (zws Gp σp ++ [(qs, Sum.inl (cs 0, zarr 0 (4 * n) fs)), (qt, Sum.inl (cs 0, zarr 0 n fo))]))) xpO ?_
      refine QW_aload zd_W_law_502 rfl ?_
      refine QW_iconst zd_W_law_504 ?_
      refine QW_iload zd_W_law_505 rfl ?_
      refine QW_imul zd_W_law_507 ?_
      refine QW_iload zd_W_law_508 rfl ?_
      refine QW_iadd zd_W_law_510 ?_
      refine QW_z (show _ = ((4 * j + y : Nat) : Int) by omega) ?_
      refine QW_iald (f := fs) zd_W_law_511 (List.mem_append_right _ (List.mem_append_right _ (List.mem_append_right _ List.mem_cons_self))) ⟨by omega, by omega⟩ (by omega) ?_
      refine QW_z (show _ = zLv Vo 0 0 255 7 (xnd w (4 * j + y)) by rw [Int.toNat_natCast]; exact hf0) ?_
      refine QW_icmp_eq zd_W_law_512 ⟨⟨by omega, by omega⟩, by omega, by omega⟩ (fun hz => ?_) (fun hz => absurd rfl hz)
      refine QW_iinc zd_W_law_517 rfl rfl (by decide) rfl ?_
      refine QW_goto zd_W_law_520 ?_
      have := ih (y + 1) (by omega) σ1 hc1
      rwa [Int.natCast_add] at this
  have outer : ∀ d j : Nat, j + d = n → ∀ (σo : zPH) (x9 : Option Value), zCI σo Vo Do to uo → QW v D cs zm_W_law 44 12000 1000000 X 470 [some (.ref (v.2.2.1 3)), some (zr Go 0), some (zr Gp 0), some (iZ w), some (iZ h), some (.ref qa), some (.ref qs), some (.ref qt), some (iZ (j : Int)), x9, x10, x11, x12] [] (xGr cs qa n ra g ++ (zws Go σo ++ (zws Gp σp ++ [(qs, Sum.inl (cs 0, zarr 0 (4 * n) fs)), (qt, Sum.inl (cs 0, zarr 0 n fo))]))) C S := by
    intro d
    induction d with
    | zero =>
      intro j hj σo x9 hco
      obtain rfl : j = n := hj
      refine QW_iload zd_W_law_470 rfl ?_
      refine QW_iload_n zd_W_law_472 rfl ?_
      refine QW_iload zd_W_law_473 rfl ?_
      refine QW_imul zd_W_law_475 ?_
      refine QW_z hn.symm ?_
      refine QW_icmp_ge zd_W_law_476 ⟨⟨by omega, by omega⟩, by omega, by omega⟩ (fun hz => ?_) (fun hz => by omega)
      refine QW_iconst zd_W_law_529 ?_
      exact QW_zret zd_W_law_530 rfl (Or.inr rfl) hCS (k _)
    | succ d ih =>
      intro j hj σo x9 hco
      have hjn : j < n := by omega
      refine QW_iload zd_W_law_470 rfl ?_
      refine QW_iload_n zd_W_law_472 rfl ?_
      refine QW_iload zd_W_law_473 rfl ?_
      refine QW_imul zd_W_law_475 ?_
      refine QW_z hn.symm ?_
      refine QW_icmp_ge zd_W_law_476 ⟨⟨by omega, by omega⟩, by omega, by omega⟩ (fun hz => by omega) (fun hz => ?_)
      refine QW_iconst zd_W_law_479 ?_
      refine QW_istore zd_W_law_480 rfl (by decide) rfl ?_
      refine inner j hjn (fun σo x9 hco => ?_) 4 0 (by decide) σo hco
      refine QW_iinc zd_W_law_523 rfl rfl (by decide) rfl ?_
      refine QW_goto zd_W_law_526 ?_
      have := ih (j + 1) (by omega) σo x9 hco
      rwa [Int.natCast_add] at this
  refine QW_iconst zd_W_law_467 ?_
  refine QW_istore zd_W_law_468 rfl (by decide) rfl ?_
  exact outer n 0 (Nat.zero_add n) σo x9 hco
set_option maxHeartbeats 2000000 in
/-- an eye sees the one lamp on p where it stands behind it on o -/
theorem q_eyes {Go Gp : zG} {qa qs qt n : Nat} {ra : Nat → Nat} {fo : Nat → Int} {w h : Int} (hGo : Go.2.1 = D ∧ Go.2.2.1 = cs) (hGp : Gp.2.1 = D ∧ Gp.2.2.1 = cs) (hw : 2 ≤ w ∧ w ≤ 6) (hh : 2 ≤ h ∧ h ≤ 6) (hn : (n : Int) = w * h) (hn36 : n ≤ 36) {Vo Do Vp Dp : zPH} {to uo tp up i l : Nat} {g go gp : Nat → Nat → Int} {fs : Nat → Int} {C S : Nat} {x9 x12 : Option Value} (hCS : C ≤ 12000 ∧ S ≤ 1000000) (hHo : xHas Vo Do go w h n) (hHp : xHas Vp Dp gp w h n) (hm : xMany gp 7 7 n = xMany go 7 7 n ∧ xMany go 7 7 n ≤ 8) (hl : (l : Int) < Vo 0 2 ∧ Vo 0 2 ≤ 8) (hS : ∀ e : Nat, e < xMany go 7 7 n → zSe Vp 0 0 255 7 e = zSe Vo 0 0 (2 ^ l) 7 e)
    (k : ∀ (σo σp : zPH) (x11 : Option Value), zCI σo Vo Do to uo → zCI σp Vp Dp tp up → QW v D cs zm_W_law 44 12000 1000000 X 461 [some (.ref (v.2.2.1 3)), some (zr Go 0), some (zr Gp 0), some (iZ w), some (iZ h), some (.ref qa), some (.ref qs), some (.ref qt), some (iZ (i : Int)), x9, some (iZ (l : Int)), x11, x12] [] (xGr cs qa n ra g ++ (zws Go σo ++ (zws Gp σp ++ [(qs, Sum.inl (cs 0, zarr 0 (4 * n) fs)), (qt, Sum.inl (cs 0, zarr 0 n fo))]))) C S)
    {σo σp : zPH} {x11 : Option Value} (hco : zCI σo Vo Do to uo) (hcp : zCI σp Vp Dp tp up) : QW v D cs zm_W_law 44 12000 1000000 X 412 [some (.ref (v.2.2.1 3)), some (zr Go 0), some (zr Gp 0), some (iZ w), some (iZ h), some (.ref qa), some (.ref qs), some (.ref qt), some (iZ (i : Int)), x9, some (iZ (l : Int)), x11, x12] [] (xGr cs qa n ra g ++ (zws Go σo ++ (zws Gp σp ++ [(qs, Sum.inl (cs 0, zarr 0 (4 * n) fs)), (qt, Sum.inl (cs 0, zarr 0 n fo))]))) C S := by
  have h5o := hHo.1.1.2.2.2.2.2.1
  have h5p := hHp.1.1.2.2.2.2.2.1
  have loop : ∀ d e : Nat, e + d = xMany go 7 7 n → ∀ (σo σp : zPH), zCI σo Vo Do to uo → zCI σp Vp Dp tp up → QW v D cs zm_W_law 44 12000 1000000 X 415 [some (.ref (v.2.2.1 3)), some (zr Go 0), some (zr Gp 0), some (iZ w), some (iZ h), some (.ref qa), some (.ref qs), some (.ref qt), some (iZ (i : Int)), x9, some (iZ (l : Int)), some (iZ (e : Int)), x12] [] (xGr cs qa n ra g ++ (zws Go σo ++ (zws Gp σp ++ [(qs, Sum.inl (cs 0, zarr 0 (4 * n) fs)), (qt, Sum.inl (cs 0, zarr 0 n fo))]))) C S := by
    intro d
    induction d with
    | zero =>
      intro e he σo σp hco hcp
      refine QW_iload zd_W_law_415 rfl ?_
      refine QW_aload_n zd_W_law_417 rfl ?_
      refine QW_iconst zd_W_law_418 ?_
      refine QW_ms (wr := xGr cs qa n ra g ++ (zws Gp σp ++ [(qs, Sum.inl (cs 0, zarr 0 (4 * n) fs)), (qt, Sum.inl (cs 0, zarr 0 n fo))])) (np := 1) (as := [iZ 5]) hGo zd_W_law_419 zl_W_138 zk_B_has zv_B_has (fr' := 0) (by decide) rfl rfl rfl rfl rfl (Nat.le_of_ble_eq_true rfl) xpO ⟨by omega, by omega⟩ (Y := fun u σ' => u = some (iZ (xMany go 7 7 n : Nat)) ∧ zCI σ' Vo Do to uo) (s_B_has hco (by decide) ⟨by rw [show zHss Vo 5 = Vo 0 5 from rfl, h5o], hco⟩) (fun u σ1 hu => ?_)
      obtain ⟨rfl, hco⟩ := hu
      refine QW_perm (ws' := xGr cs qa n ra g ++ (zws Go σ1 ++ (zws Gp σp ++ [(qs, Sum.inl (cs 0, zarr 0 (4 * n) fs)), (qt, Sum.inl (cs 0, zarr 0 n fo))]))) xpO ?_
      exact QW_icmp_ge zd_W_law_422 ⟨⟨by omega, by omega⟩, by omega, by omega⟩ (fun hz => k _ _ _ hco hcp) (fun hz => by omega)
    | succ d ih =>
      intro e he σo σp hco hcp
      have heo : (e : Int) < Vo 0 5 := by omega
      refine QW_iload zd_W_law_415 rfl ?_
      refine QW_aload_n zd_W_law_417 rfl ?_
      refine QW_iconst zd_W_law_418 ?_
      refine QW_ms (wr := xGr cs qa n ra g ++ (zws Gp σp ++ [(qs, Sum.inl (cs 0, zarr 0 (4 * n) fs)), (qt, Sum.inl (cs 0, zarr 0 n fo))])) (np := 1) (as := [iZ 5]) hGo zd_W_law_419 zl_W_138 zk_B_has zv_B_has (fr' := 0) (by decide) rfl rfl rfl rfl rfl (Nat.le_of_ble_eq_true rfl) xpO ⟨by omega, by omega⟩ (Y := fun u σ' => u = some (iZ (xMany go 7 7 n : Nat)) ∧ zCI σ' Vo Do to uo) (s_B_has hco (by decide) ⟨by rw [show zHss Vo 5 = Vo 0 5 from rfl, h5o], hco⟩) (fun u σ1 hu => ?_)
      obtain ⟨rfl, hco⟩ := hu
      refine QW_perm (ws' := xGr cs qa n ra g ++ (zws Go σ1 ++ (zws Gp σp ++ [(qs, Sum.inl (cs 0, zarr 0 (4 * n) fs)), (qt, Sum.inl (cs 0, zarr 0 n fo))]))) xpO ?_
      refine QW_icmp_ge zd_W_law_422 ⟨⟨by omega, by omega⟩, by omega, by omega⟩ (fun hz => by omega) (fun hz => ?_)
      refine QW_aload_n zd_W_law_425 rfl ?_
      refine QW_iload zd_W_law_426 rfl ?_
      refine QW_ms (wr := xGr cs qa n ra g ++ (zws Gp σp ++ [(qs, Sum.inl (cs 0, zarr 0 (4 * n) fs)), (qt, Sum.inl (cs 0, zarr 0 n fo))])) (np := 1) (as := [iZ (e : Int)]) hGo zd_W_law_428 zl_W_142 zk_B_behind zv_B_behind (fr' := 5) (by decide) rfl rfl rfl rfl rfl (Nat.le_of_ble_eq_true rfl) xpO ⟨by omega, by omega⟩ (Y := fun u σ' => ∃ x, u = some (iZ x) ∧ ((0 ≤ x ∧ x < 256) ∧ (x / 2 ^ l % 2 = 1 ↔ zSe Vo 0 0 (2 ^ l) 7 e ≠ 0)) ∧ zCI σ' Vo Do to uo) (s_B_behind hHo.2.1 hco ⟨by omega, by omega⟩ (fun σ' x h1 h2 _ => ⟨x, rfl, by have := xSee_bit h1 heo hl.1 hl.2; rwa [hHo.2.2.1, hHo.2.2.2.1] at this, h2⟩)) (fun u σ1 hu => ?_)
      obtain ⟨x, rfl, ⟨hx1, hx2⟩, hco⟩ := hu
      refine QW_perm (ws' := xGr cs qa n ra g ++ (zws Go σ1 ++ (zws Gp σp ++ [(qs, Sum.inl (cs 0, zarr 0 (4 * n) fs)), (qt, Sum.inl (cs 0, zarr 0 n fo))]))) xpO ?_
      refine QW_iload zd_W_law_431 rfl ?_
      refine QW_ishr zd_W_law_433 ⟨⟨by omega, by omega⟩, by omega, by omega⟩ ?_
      rw [Int.toNat_natCast]
      refine QW_iconst zd_W_law_434 ?_
      refine QW_iandm1 zd_W_law_435 ?_
      have fin : ∀ (z : Int) (σp : zPH), zCI σp Vp Dp tp up → z = x / 2 ^ l % 2 → QW v D cs zm_W_law 44 12000 1000000 X 450 [some (.ref (v.2.2.1 3)), some (zr Go 0), some (zr Gp 0), some (iZ w), some (iZ h), some (.ref qa), some (.ref qs), some (.ref qt), some (iZ (i : Int)), x9, some (iZ (l : Int)), some (iZ (e : Int)), x12] [iZ z, iZ (x / 2 ^ l % 2)] (xGr cs qa n ra g ++ (zws Go σ1 ++ (zws Gp σp ++ [(qs, Sum.inl (cs 0, zarr 0 (4 * n) fs)), (qt, Sum.inl (cs 0, zarr 0 n fo))]))) C S := fun z σp hcp hz => by
        subst hz
        refine QW_icmp_eq zd_W_law_450 ⟨⟨by omega, by omega⟩, by omega, by omega⟩ (fun _ => ?_) (fun hz => absurd rfl hz)
        refine QW_iinc zd_W_law_455 rfl rfl (by decide) rfl ?_
        refine QW_goto zd_W_law_458 ?_
        have := ih (e + 1) (by omega) _ _ hco hcp
        rwa [Int.natCast_add] at this
      refine QW_aload_n zd_W_law_436 rfl ?_
      refine QW_iload zd_W_law_437 rfl ?_
      refine QW_ms (wr := xGr cs qa n ra g ++ (zws Go σ1 ++ [(qs, Sum.inl (cs 0, zarr 0 (4 * n) fs)), (qt, Sum.inl (cs 0, zarr 0 n fo))])) (np := 1) (as := [iZ (e : Int)]) hGp zd_W_law_439 zl_W_145 zk_B_sees zv_B_sees (fr' := 6) (by decide) rfl rfl rfl rfl rfl (Nat.le_of_ble_eq_true rfl) xpP ⟨by omega, by omega⟩ (Y := fun u σ' => ∃ y, u = some (iZ y) ∧ y = zSe Vo 0 0 (2 ^ l) 7 e ∧ zCI σ' Vp Dp tp up) (s_B_sees hHp.2.1 hcp ⟨by omega, by omega⟩ (fun σ' y h1 h2 _ => ⟨y, rfl, by rcases h1 with ⟨-, h1⟩ | ⟨h1, -⟩; (rw [h1, hHp.2.2.1, hHp.2.2.2.1, Int.toNat_natCast]; exact hS e (by omega)); exact absurd ⟨by omega, by omega⟩ h1, h2⟩)) (fun u σ2 hu => ?_)
      obtain ⟨y, rfl, hy, hcp⟩ := hu
      refine QW_perm (ws' := xGr cs qa n ra g ++ (zws Go σ1 ++ (zws Gp σ2 ++ [(qs, Sum.inl (cs 0, zarr 0 (4 * n) fs)), (qt, Sum.inl (cs 0, zarr 0 n fo))]))) xpP.symm ?_
      have hy8 := @zSq_8 Vo 0 0 (2 ^ l) 7
      have hyr : 0 ≤ y ∧ y < 8 := by
        rw [hy]
        unfold zSe
        split
        · exact ⟨by decide, by decide⟩
        · exact zSq_8
      by_cases q : y = 0
      · refine QW_if_ne zd_W_law_442 (by omega) (fun hz => absurd q hz) (fun hz => ?_)
        refine QW_iconst zd_W_law_445 ?_
        refine QW_goto zd_W_law_446 (fin 0 _ hcp ?_)
        have : ¬ x / 2 ^ l % 2 = 1 := fun z => (hx2.mp z) (hy ▸ q)
        omega
      · refine QW_if_ne zd_W_law_442 (by omega) (fun hz => ?_) (fun hz => absurd hz q)
        refine QW_iconst zd_W_law_449 (fin 1 _ hcp ?_)
        exact (hx2.mpr (hy ▸ q)).symm
  refine QW_iconst zd_W_law_412 ?_
  refine QW_istore zd_W_law_413 rfl (by decide) rfl ?_
  exact loop _ 0 (Nat.zero_add _) σo σp hco hcp
end LOOPS
