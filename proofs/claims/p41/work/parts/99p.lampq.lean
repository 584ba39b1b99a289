theorem xand_bt {A : Int} {β : Nat} (hA : A = 1 ∨ A = 2 ∨ A = 4 ∨ A = 7) (hβ : β < 3) : (zand A (2 ^ β) ≠ 0 ↔ zbt A β) ∧ (0 ≤ zand A (2 ^ β) ∧ zand A (2 ^ β) < 8) := by
  rcases hA with rfl | rfl | rfl | rfl <;> rcases (show β = 0 ∨ β = 1 ∨ β = 2 by omega) with rfl | rfl | rfl <;> (unfold zbt; decide)
theorem xp2 {β : Nat} (h : β ≤ 3) : (2 : Int) ^ β = 1 ∨ (2 : Int) ^ β = 2 ∨ (2 : Int) ^ β = 4 ∨ (2 : Int) ^ β = 8 := by
  rcases (show β = 0 ∨ β = 1 ∨ β = 2 ∨ β = 3 by omega) with rfl | rfl | rfl | rfl <;> decide
theorem xIs_good {g' g : Nat → Nat → Int} {k0 : Nat} {c : Int} {n : Nat} (h : xIs g' g k0 c n) (hg : xGood g n) (h0 : g k0 0 = 1) (hc : c = 1 ∨ c = 2 ∨ c = 4 ∨ c = 7) : xGood g' n := by
  have hB := xIs_okB h hg.1 h0 hc
  refine ⟨hB, xOk_T hB (fun k hk => ?_), fun k hk => ?_⟩
  · rw [(h k hk).2.1]
    have := (hg.2.1.1 k hk).2.1
    split
    · omega
    · exact this
  · have := (hB.1 k hk).1; omega
theorem xSqs_good {g : Nat → Nat → Int} {n : Nat} (h : xSqs g n) : xGood g n := by
  have hB := xSqs_ok h
  refine ⟨hB, xOk_T hB (fun k hk => ?_), fun k hk => ?_⟩
  · obtain ⟨a1, a2, a3, a4⟩ := h.1 k hk
    by_cases q : g k 0 = 1 ∨ g k 0 = 4
    · have := a2 q; omega
    · have := a3 q; omega
  · have := (hB.1 k hk).1; omega
/-- light of the first lamps, and so many colours of the next one -/
def xOld (V : zPH) (w : Int) (g : Nat → Nat → Int) (i : Nat) (t b : Nat) : Prop := ∃ k, (k < i ∧ g k 0 = 1 ∧ zbt (g k 1) b) ∧ xR V w g k b (xnd w t)
def xOldC (V : zPH) (w : Int) (g : Nat → Nat → Int) (i β : Nat) (t b : Nat) : Prop := xOld V w g i t b ∨ (b < β ∧ zbt (g i 1) b ∧ xR V w g i b (xnd w t))
theorem xOld_s0 {V : zPH} {w : Int} {g : Nat → Nat → Int} {i t : Nat} (h : g i 0 ≠ 1) : xBi (xOld V w g (i + 1) t) = xBi (xOld V w g i t) := xBi_c fun b _ => by
  constructor
  · rintro ⟨k, ⟨h1, h2, h3⟩, h4⟩
    have : k ≠ i := fun e => h (e ▸ h2)
    exact ⟨k, ⟨by omega, h2, h3⟩, h4⟩
  · rintro ⟨k, ⟨h1, h2, h3⟩, h4⟩
    exact ⟨k, ⟨by omega, h2, h3⟩, h4⟩
theorem xOld_s1 {V : zPH} {w : Int} {g : Nat → Nat → Int} {i t : Nat} (h : g i 0 = 1) : xBi (xOldC V w g i 3 t) = xBi (xOld V w g (i + 1) t) := xBi_c fun b hb => by
  constructor
  · rintro (⟨k, ⟨h1, h2, h3⟩, h4⟩ | ⟨-, h3, h4⟩)
    · exact ⟨k, ⟨by omega, h2, h3⟩, h4⟩
    · exact ⟨i, ⟨by omega, h, h3⟩, h4⟩
  · rintro ⟨k, ⟨h1, h2, h3⟩, h4⟩
    by_cases q : k = i
    · subst q; exact Or.inr ⟨hb, h3, h4⟩
    · exact Or.inl ⟨k, ⟨by omega, h2, h3⟩, h4⟩
theorem xOldC_0 {V : zPH} {w : Int} {g : Nat → Nat → Int} {i t : Nat} : xBi (xOldC V w g i 0 t) = xBi (xOld V w g i t) := xBi_c fun b _ => ⟨fun h => h.elim id (fun z => absurd z.1 (Nat.not_lt_zero _)), Or.inl⟩
theorem xOldC_n {V : zPH} {w : Int} {g : Nat → Nat → Int} {i β t : Nat} (h : ¬ zbt (g i 1) β) : xBi (xOldC V w g i (β + 1) t) = xBi (xOldC V w g i β t) := xBi_c fun b _ => by
  constructor
  · rintro (h1 | ⟨h1, h2, h3⟩)
    · exact Or.inl h1
    · have : b ≠ β := fun e => h (e ▸ h2)
      exact Or.inr ⟨by omega, h2, h3⟩
  · rintro (h1 | ⟨h1, h2, h3⟩)
    · exact Or.inl h1
    · exact Or.inr ⟨by omega, h2, h3⟩
theorem xOldC_y {V : zPH} {w : Int} {g : Nat → Nat → Int} {i β t : Nat} (h : zbt (g i 1) β) : xBi (fun b => xOldC V w g i β t b ∨ (zbt (2 ^ β) b ∧ xR V w g i b (xnd w t))) = xBi (xOldC V w g i (β + 1) t) := xBi_c fun b _ => by
  constructor
  · rintro ((h1 | ⟨h1, h2, h3⟩) | ⟨h1, h2⟩)
    · exact Or.inl h1
    · exact Or.inr ⟨by omega, h2, h3⟩
    · have e := zbt_pow.mp h1
      subst e
      exact Or.inr ⟨by omega, h, h2⟩
  · rintro (h1 | ⟨h1, h2, h3⟩)
    · exact Or.inl (Or.inl h1)
    · by_cases q : b = β
      · subst q; exact Or.inr ⟨zbt_pow.mpr rfl, h3⟩
      · exact Or.inl (Or.inr ⟨by omega, h2, h3⟩)
theorem xSqr_v {V Dd : zPH} {g : Nat → Nat → Int} {w h x : Int} {n j : Nat} (hw : 2 ≤ w ∧ w ≤ 6) (hn : (n : Int) = w * h) (hH : xHas V Dd g w h n) (hj : j < n) (h1 : g j 0 = 1) (hx : zSqr V Dd ((j : Int) % w) ((j : Int) / w) 1 x) : x = (xMany g 1 1 j : Nat) := by
  obtain ⟨a, b⟩ := xsq_r hw hn hj
  obtain ⟨c1, -, c3, -⟩ := hH.1.2.1 j hj
  have h0 := hH.1.1.1
  have h2 := hH.1.1.2.1
  rcases hx with ⟨-, e⟩ | ⟨e, -⟩
  · rw [e, if_neg (by decide)]
    show (if V 1 (xq w j) = 0 then (-1 : Int) else if (1 : Int) = 1 then V 2 (xq w j) else _) = _
    rw [c1, if_neg (by omega), if_pos rfl, c3 h1]
  · exact absurd ⟨⟨a.1, by omega⟩, b.1, by omega⟩ e
section LAMP
variable {v : xEv} {D : va_G} {cs : Nat → ClassId} {X : xX}
set_option maxHeartbeats 4000000 in
/-- a lamp's colours, one after another -/
theorem q_cols {Go Gp : zG} {qa qs qt n : Nat} {ra : Nat → Nat} {fo : Nat → Int} {w h : Int} (hGo : Go.2.1 = D ∧ Go.2.2.1 = cs) (hGp : Gp.2.1 = D ∧ Gp.2.2.1 = cs) (hw : 2 ≤ w ∧ w ≤ 6) (hh : 2 ≤ h ∧ h ≤ 6) (hn : (n : Int) = w * h) (hn36 : n ≤ 36) {Vo Do : zPH} {g : Nat → Nat → Int} (hg : xGood g n) (hHo : xHas Vo Do g w h n) (hfo : ∀ j, j < n → fo j = g j 0) {σo : zPH} {i C S : Nat} (hi : i < n) (h1 : g i 0 = 1) (hCS : C + 272 ≤ 12000 ∧ S + 25120 ≤ 1000000)
    (k : ∀ (gp : Nat → Nat → Int) (σp Vp Dp : zPH) (tp up : Nat) (fs : Nat → Int) (x11 x12 : Option Value), (∃ c, xIs gp g i c n) → (zBD Vp Dp ∧ zCI σp Vp Dp tp up ∧ Dp 0 3 = 0) → (∀ t, t < 4 * n → fs t = xBi (xOldC Vo w g i 3 t)) → QW v D cs zm_W_law 44 12000 1000000 X 351 [some (.ref (v.2.2.1 3)), some (zr Go 0), some (zr Gp 0), some (iZ w), some (iZ h), some (.ref qa), some (.ref qs), some (.ref qt), some (iZ (i : Int)), some (iZ (g i 1)), some (iZ 8), x11, x12] [] (xGr cs qa n ra gp ++ (zws Go σo ++ (zws Gp σp ++ [(qs, Sum.inl (cs 0, zarr 0 (4 * n) fs)), (qt, Sum.inl (cs 0, zarr 0 n fo))]))) (C + 204) (S + 18840))
    : ∀ (d β : Nat), β + d = 3 → ∀ (gp : Nat → Nat → Int) (σp Vp Dp : zPH) (tp up : Nat) (fs : Nat → Int) (x11 x12 : Option Value), (∃ c, xIs gp g i c n) → (zBD Vp Dp ∧ zCI σp Vp Dp tp up ∧ Dp 0 3 = 0) → (∀ t, t < 4 * n → fs t = xBi (xOldC Vo w g i β t)) → QW v D cs zm_W_law 44 12000 1000000 X 217 [some (.ref (v.2.2.1 3)), some (zr Go 0), some (zr Gp 0), some (iZ w), some (iZ h), some (.ref qa), some (.ref qs), some (.ref qt), some (iZ (i : Int)), some (iZ (g i 1)), some (iZ (2 ^ β)), x11, x12] [] (xGr cs qa n ra gp ++ (zws Go σo ++ (zws Gp σp ++ [(qs, Sum.inl (cs 0, zarr 0 (4 * n) fs)), (qt, Sum.inl (cs 0, zarr 0 n fo))]))) (C + 68 * β) (S + 6280 * β) := by
  have hA := (hg.1.1 i hi).2.1 (Or.inl h1)
  intro d
  induction d with
  | zero =>
    intro β hβ gp σp Vp Dp tp up fs x11 x12 hI hp hfs
    obtain rfl : β = 3 := hβ
    refine QW_iload zd_W_law_217 rfl ?_
    refine QW_bipush zd_W_law_219 (by decide) ?_
    exact QW_icmp_ge zd_W_law_221 ⟨⟨by decide, by decide⟩, by decide, by decide⟩ (fun hz => k gp σp Vp Dp tp up fs x11 x12 hI hp hfs) (fun hz => absurd hz (by decide))
  | succ d ih =>
    intro β hβ gp σp Vp Dp tp up fs x11 x12 hI hp hfs
    have hβ3 : β < 3 := by omega
    obtain ⟨hz1, hz2⟩ := xand_bt hA hβ3
    have hc := xp2 (show β ≤ 3 by omega)
    have hc3 : (2 : Int) ^ β ≤ 4 := by
      rcases (show β = 0 ∨ β = 1 ∨ β = 2 by omega) with rfl | rfl | rfl <;> decide
    have e341 : ∀ (gp : Nat → Nat → Int) (σp Vp Dp : zPH) (tp up : Nat) (fs : Nat → Int) (x11 x12 : Option Value), (∃ c, xIs gp g i c n) → (zBD Vp Dp ∧ zCI σp Vp Dp tp up ∧ Dp 0 3 = 0) → (∀ t, t < 4 * n → fs t = xBi (xOldC Vo w g i (β + 1) t)) → QW v D cs zm_W_law 44 12000 1000000 X 341 [some (.ref (v.2.2.1 3)), some (zr Go 0), some (zr Gp 0), some (iZ w), some (iZ h), some (.ref qa), some (.ref qs), some (.ref qt), some (iZ (i : Int)), some (iZ (g i 1)), some (iZ (2 ^ β)), x11, x12] [] (xGr cs qa n ra gp ++ (zws Go σo ++ (zws Gp σp ++ [(qs, Sum.inl (cs 0, zarr 0 (4 * n) fs)), (qt, Sum.inl (cs 0, zarr 0 n fo))]))) (C + 68 * (β + 1)) (S + 6280 * (β + 1)) := by
      intro gp σp Vp Dp tp up fs x11 x12 hI hp hfs
      refine QW_iload zd_W_law_341 rfl ?_
      refine QW_iload zd_W_law_343 rfl ?_
      refine QW_iadd zd_W_law_345 ?_
      refine QW_z (show _ = (2 : Int) ^ (β + 1) by rw [Int.pow_succ]; omega) ?_
      refine QW_istore zd_W_law_346 rfl (by decide) rfl ?_
      exact QW_goto zd_W_law_348 (ih (β + 1) (by omega) gp σp Vp Dp tp up fs x11 x12 hI hp hfs)
    by_cases qb : zbt (g i 1) β
    · have hn0 := hz1.mpr qb
      refine QW_iload zd_W_law_217 rfl ?_
      refine QW_bipush zd_W_law_219 (by decide) ?_
      refine QW_icmp_ge zd_W_law_221 ⟨⟨by omega, by omega⟩, by omega, by omega⟩ (fun hz => by omega) (fun hz => ?_)
      refine QW_iload zd_W_law_224 rfl ?_
      refine QW_iload zd_W_law_226 rfl ?_
      refine QW_iand zd_W_law_228 ⟨by omega, by omega⟩ ?_
      refine QW_if_ne zd_W_law_229 (by omega) (fun hz => ?_) (fun hz => absurd hz hn0)
      refine QW_aload zd_W_law_235 rfl ?_
      refine QW_iload zd_W_law_237 rfl ?_
      refine QW_gref zd_W_law_239 hi (by omega) ?_
      refine QW_iconst zd_W_law_240 ?_
      refine QW_iload zd_W_law_241 rfl ?_
      refine QW_gset zd_W_law_243 hi ⟨by decide, by decide⟩ ?_
      obtain ⟨c0, hI⟩ := hI
      have hI3 : xIs (xgU gp i (1 : Int).toNat (2 ^ β)) g i (2 ^ β) n := fun j hj => by
        obtain ⟨a1, a2, a3⟩ := hI j hj
        by_cases q : j = i
        · subst q
          exact ⟨(xgU_c (by decide)).trans a1, xgU_s.trans (if_pos rfl).symm, (xgU_c (by decide)).trans a3⟩
        · rw [xgU_n q, if_neg q]
          rw [if_neg q] at a2
          exact ⟨a1, a2, a3⟩
      generalize xgU gp i (1 : Int).toNat (2 ^ β) = g3 at hI3 ⊢
      have hc7 : (2 : Int) ^ β = 1 ∨ (2 : Int) ^ β = 2 ∨ (2 : Int) ^ β = 4 ∨ (2 : Int) ^ β = 7 := by omega
      have hg3 := xIs_good hI3 hg h1 hc7
      obtain ⟨p1, p2, p3⟩ := hp
      refine q_judgeA (G := Gp) (R := zws Go σo ++ [(qs, Sum.inl (cs 0, zarr 0 (4 * n) fs)), (qt, Sum.inl (cs 0, zarr 0 n fo))]) hGp hw hh hn hn36 hg3 p1 p3 p2 rfl rfl rfl rfl xpP ⟨by omega, by omega⟩ (fun σ2 V2 D2 t2 u2 hH2 hc2 => ?_)
      refine QW_perm (ws' := xGr cs qa n ra g3 ++ (zws Go σo ++ (zws Gp σ2 ++ [(qs, Sum.inl (cs 0, zarr 0 (4 * n) fs)), (qt, Sum.inl (cs 0, zarr 0 n fo))]))) (xpO.append_left _) ?_
      refine q_addL hGo hGp hw hh hn hn36 (Old := xOldC Vo w g i β) (Li := fun t b => zbt (2 ^ β) b ∧ xR Vo w g i b (xnd w t)) ⟨by omega, by omega⟩ hH2 (fun t ht => xLv_left hw hn hg.1 hg3.1 hI3 hHo.1 hH2.1 hi h1) (fun σp fs x11 x12 hcp hfs => ?_) hc2 hfs
      have := e341 g3 σp V2 D2 t2 u2 fs x11 x12 ⟨_, hI3⟩ ⟨hH2.2.1, hcp, hH2.2.2.2.2⟩ (fun t ht => by rw [hfs t ht]; exact xOldC_y qb)
      rw [show C + 68 * (β + 1) = C + 68 * β + 68 by omega, show S + 6280 * (β + 1) = S + 6280 * β + 6280 by omega] at this
      exact this
    · have hn0 : zand (g i 1) (2 ^ β) = 0 := by
        apply Classical.byContradiction
        exact fun q => qb (hz1.mp q)
      refine QW_iload zd_W_law_217 rfl ?_
      refine QW_bipush zd_W_law_219 (by decide) ?_
      refine QW_icmp_ge zd_W_law_221 ⟨⟨by omega, by omega⟩, by omega, by omega⟩ (fun hz => by omega) (fun hz => ?_)
      refine QW_iload zd_W_law_224 rfl ?_
      refine QW_iload zd_W_law_226 rfl ?_
      refine QW_iand zd_W_law_228 ⟨by omega, by omega⟩ ?_
      refine QW_if_ne zd_W_law_229 (by omega) (fun hz => absurd hn0 hz) (fun hz => ?_)
      refine QW_goto zd_W_law_232 (QW_widen (by omega) (by omega) (e341 gp σp Vp Dp tp up fs x11 x12 hI hp (fun t ht => by rw [hfs t ht]; exact (xOldC_n qb).symm)))
set_option maxHeartbeats 4000000 in
/-- the other lamps become walls -/
theorem q_walls {Go Gp : zG} {qa qs qt n : Nat} {ra : Nat → Nat} {fo : Nat → Int} {w h : Int} (hGo : Go.2.1 = D ∧ Go.2.2.1 = cs) (hGp : Gp.2.1 = D ∧ Gp.2.2.1 = cs) (hw : 2 ≤ w ∧ w ≤ 6) (hh : 2 ≤ h ∧ h ≤ 6) (hn : (n : Int) = w * h) (hn36 : n ≤ 36) {Vo Do : zPH} {g : Nat → Nat → Int} (hg : xGood g n) (hHo : xHas Vo Do g w h n) (hfo : ∀ j, j < n → fo j = g j 0) {i C S : Nat} (hi : i < n) {σo σp : zPH} {fs : Nat → Int} {x10 x11 x12 : Option Value}
    (k : ∀ (gp : Nat → Nat → Int) (x9 : Option Value), xIs gp g i (g i 1) n → QW v D cs zm_W_law 44 12000 1000000 X 205 [some (.ref (v.2.2.1 3)), some (zr Go 0), some (zr Gp 0), some (iZ w), some (iZ h), some (.ref qa), some (.ref qs), some (.ref qt), some (iZ (i : Int)), x9, x10, x11, x12] [] (xGr cs qa n ra gp ++ (zws Go σo ++ (zws Gp σp ++ [(qs, Sum.inl (cs 0, zarr 0 (4 * n) fs)), (qt, Sum.inl (cs 0, zarr 0 n fo))]))) C S)
    {gp : Nat → Nat → Int} {x9 : Option Value} (hgp : ∀ j, j < n → gp j 1 = g j 1 ∧ gp j 2 = g j 2) : QW v D cs zm_W_law 44 12000 1000000 X 154 [some (.ref (v.2.2.1 3)), some (zr Go 0), some (zr Gp 0), some (iZ w), some (iZ h), some (.ref qa), some (.ref qs), some (.ref qt), some (iZ (i : Int)), x9, x10, x11, x12] [] (xGr cs qa n ra gp ++ (zws Go σo ++ (zws Gp σp ++ [(qs, Sum.inl (cs 0, zarr 0 (4 * n) fs)), (qt, Sum.inl (cs 0, zarr 0 n fo))]))) C S := by
  have loop : ∀ d j : Nat, j + d = n → ∀ gp : Nat → Nat → Int, (∀ j, j < n → gp j 1 = g j 1 ∧ gp j 2 = g j 2) → (∀ t, t < j → gp t 0 = if g t 0 = 1 ∧ t ≠ i then 6 else g t 0) → QW v D cs zm_W_law 44 12000 1000000 X 157 [some (.ref (v.2.2.1 3)), some (zr Go 0), some (zr Gp 0), some (iZ w), some (iZ h), some (.ref qa), some (.ref qs), some (.ref qt), some (iZ (i : Int)), some (iZ (j : Int)), x10, x11, x12] [] (xGr cs qa n ra gp ++ (zws Go σo ++ (zws Gp σp ++ [(qs, Sum.inl (cs 0, zarr 0 (4 * n) fs)), (qt, Sum.inl (cs 0, zarr 0 n fo))]))) C S := by
    intro d
    induction d with
    | zero =>
      intro j hj gp hgp hg0
      obtain rfl : j = n := hj
      refine QW_iload zd_W_law_157 rfl ?_
      refine QW_iload_n zd_W_law_159 rfl ?_
      refine QW_iload zd_W_law_160 rfl ?_
      refine QW_imul zd_W_law_162 ?_
      refine QW_z hn.symm ?_
      exact QW_icmp_ge zd_W_law_163 ⟨⟨by omega, by omega⟩, by omega, by omega⟩ (fun hz => k gp _ (fun t ht => ⟨hg0 t ht, by rw [(hgp t ht).1]; split <;> simp_all, (hgp t ht).2⟩)) (fun hz => by omega)
    | succ d ih =>
      intro j hj gp hgp hg0
      have hjn : j < n := by omega
      have hrj := hg.2.2 j hjn
      have hfj := hfo j hjn
      have e198 : ∀ z : Int, z = (if g j 0 = 1 ∧ j ≠ i then 6 else g j 0) → QW v D cs zm_W_law 44 12000 1000000 X 198 [some (.ref (v.2.2.1 3)), some (zr Go 0), some (zr Gp 0), some (iZ w), some (iZ h), some (.ref qa), some (.ref qs), some (.ref qt), some (iZ (i : Int)), some (iZ (j : Int)), x10, x11, x12] [iZ z, iZ 0, .ref (ra j)] (xGr cs qa n ra gp ++ (zws Go σo ++ (zws Gp σp ++ [(qs, Sum.inl (cs 0, zarr 0 (4 * n) fs)), (qt, Sum.inl (cs 0, zarr 0 n fo))]))) C S := by
        intro z hz
        refine QW_gset (g := gp) zd_W_law_198 hjn ⟨by decide, by decide⟩ ?_
        refine QW_iinc zd_W_law_199 rfl rfl (by decide) rfl ?_
        refine QW_goto zd_W_law_202 ?_
        have := ih (j + 1) (by omega) (xgU gp j (0 : Int).toNat z) (fun t ht => ?_) (fun t ht => ?_)
        · rwa [Int.natCast_add] at this
        · by_cases q : t = j
          · subst q
            exact ⟨(xgU_c (by decide)).trans (hgp t ht).1, (xgU_c (by decide)).trans (hgp t ht).2⟩
          · rw [xgU_n q]; exact hgp t ht
        · by_cases q : t = j
          · subst q
            exact xgU_s.trans hz
          · rw [xgU_n q]; exact hg0 t (by omega)
      by_cases q1 : g j 0 = 1
      · by_cases qi : j = i
        · refine QW_iload zd_W_law_157 rfl ?_
          refine QW_iload_n zd_W_law_159 rfl ?_
          refine QW_iload zd_W_law_160 rfl ?_
          refine QW_imul zd_W_law_162 ?_
          refine QW_z hn.symm ?_
          refine QW_icmp_ge zd_W_law_163 ⟨⟨by omega, by omega⟩, by omega, by omega⟩ (fun hz => by omega) (fun hz => ?_)
          refine QW_aload zd_W_law_166 rfl ?_
          refine QW_iload zd_W_law_168 rfl ?_
          refine QW_gref zd_W_law_170 hjn (by omega) ?_
          refine QW_iconst zd_W_law_171 ?_
          refine QW_aload zd_W_law_172 rfl ?_
          refine QW_iload zd_W_law_174 rfl ?_
          refine QW_iald (f := fo) zd_W_law_176 (List.mem_append_right _ (List.mem_append_right _ (List.mem_append_right _ (List.mem_cons_of_mem _ List.mem_cons_self)))) ⟨by omega, by omega⟩ (by omega) ?_
          refine QW_z (show _ = g j 0 by rw [Int.toNat_natCast]; exact hfj) ?_
          refine QW_iconst zd_W_law_177 ?_
          refine QW_icmp_ne zd_W_law_178 ⟨⟨by omega, by omega⟩, by omega, by omega⟩ (fun hz => absurd q1 hz) (fun hz => ?_)
          refine QW_iload zd_W_law_181 rfl ?_
          refine QW_iload zd_W_law_183 rfl ?_
          refine QW_icmp_eq zd_W_law_185 ⟨⟨by omega, by omega⟩, by omega, by omega⟩ (fun hz => ?_) (fun hz => absurd (show (j : Int) = (i : Int) by omega) hz)
          refine QW_aload zd_W_law_193 rfl ?_
          refine QW_iload zd_W_law_195 rfl ?_
          refine QW_iald (f := fo) zd_W_law_197 (List.mem_append_right _ (List.mem_append_right _ (List.mem_append_right _ (List.mem_cons_of_mem _ List.mem_cons_self)))) ⟨by omega, by omega⟩ (by omega) ?_
          refine QW_z (show _ = g j 0 by rw [Int.toNat_natCast]; exact hfj) ?_
          exact e198 _ (by rw [if_neg (fun z => z.2 qi)])
        · refine QW_iload zd_W_law_157 rfl ?_
          refine QW_iload_n zd_W_law_159 rfl ?_
          refine QW_iload zd_W_law_160 rfl ?_
          refine QW_imul zd_W_law_162 ?_
          refine QW_z hn.symm ?_
          refine QW_icmp_ge zd_W_law_163 ⟨⟨by omega, by omega⟩, by omega, by omega⟩ (fun hz => by omega) (fun hz => ?_)
          refine QW_aload zd_W_law_166 rfl ?_
          refine QW_iload zd_W_law_168 rfl ?_
          refine QW_gref zd_W_law_170 hjn (by omega) ?_
          refine QW_iconst zd_W_law_171 ?_
          refine QW_aload zd_W_law_172 rfl ?_
          refine QW_iload zd_W_law_174 rfl ?_
          refine QW_iald (f := fo) zd_W_law_176 (List.mem_append_right _ (List.mem_append_right _ (List.mem_append_right _ (List.mem_cons_of_mem _ List.mem_cons_self)))) ⟨by omega, by omega⟩ (by omega) ?_
          refine QW_z (show _ = g j 0 by rw [Int.toNat_natCast]; exact hfj) ?_
          refine QW_iconst zd_W_law_177 ?_
          refine QW_icmp_ne zd_W_law_178 ⟨⟨by omega, by omega⟩, by omega, by omega⟩ (fun hz => absurd q1 hz) (fun hz => ?_)
          refine QW_iload zd_W_law_181 rfl ?_
          refine QW_iload zd_W_law_183 rfl ?_
          refine QW_icmp_eq zd_W_law_185 ⟨⟨by omega, by omega⟩, by omega, by omega⟩ (fun hz => absurd (show j = i by omega) qi) (fun hz => ?_)
          refine QW_bipush zd_W_law_188 (by decide) ?_
          exact QW_goto zd_W_law_190 (e198 6 (by rw [if_pos ⟨q1, qi⟩]))
      · refine QW_iload zd_W_law_157 rfl ?_
        refine QW_iload_n zd_W_law_159 rfl ?_
        refine QW_iload zd_W_law_160 rfl ?_
        refine QW_imul zd_W_law_162 ?_
        refine QW_z hn.symm ?_
        refine QW_icmp_ge zd_W_law_163 ⟨⟨by omega, by omega⟩, by omega, by omega⟩ (fun hz => by omega) (fun hz => ?_)
        refine QW_aload zd_W_law_166 rfl ?_
        refine QW_iload zd_W_law_168 rfl ?_
        refine QW_gref zd_W_law_170 hjn (by omega) ?_
        refine QW_iconst zd_W_law_171 ?_
        refine QW_aload zd_W_law_172 rfl ?_
        refine QW_iload zd_W_law_174 rfl ?_
        refine QW_iald (f := fo) zd_W_law_176 (List.mem_append_right _ (List.mem_append_right _ (List.mem_append_right _ (List.mem_cons_of_mem _ List.mem_cons_self)))) ⟨by omega, by omega⟩ (by omega) ?_
        refine QW_z (show _ = g j 0 by rw [Int.toNat_natCast]; exact hfj) ?_
        refine QW_iconst zd_W_law_177 ?_
        refine QW_icmp_ne zd_W_law_178 ⟨⟨by omega, by omega⟩, by omega, by omega⟩ (fun hz => ?_) (fun hz => absurd hz q1)
        refine QW_aload zd_W_law_193 rfl ?_
        refine QW_iload zd_W_law_195 rfl ?_
        refine QW_iald (f := fo) zd_W_law_197 (List.mem_append_right _ (List.mem_append_right _ (List.mem_append_right _ (List.mem_cons_of_mem _ List.mem_cons_self)))) ⟨by omega, by omega⟩ (by omega) ?_
        refine QW_z (show _ = g j 0 by rw [Int.toNat_natCast]; exact hfj) ?_
        exact e198 _ (by rw [if_neg (fun z => q1 z.1)])
  refine QW_iconst zd_W_law_154 ?_
  refine QW_istore zd_W_law_155 rfl (by decide) rfl ?_
  exact loop n 0 (Nat.zero_add n) gp hgp (fun t ht => absurd ht (Nat.not_lt_zero _))
set_option maxHeartbeats 4000000 in
/-- one lamp -/
theorem q_lamp {Go Gp : zG} {qa qs qt n : Nat} {ra : Nat → Nat} {fo : Nat → Int} {w h : Int} (hGo : Go.2.1 = D ∧ Go.2.2.1 = cs) (hGp : Gp.2.1 = D ∧ Gp.2.2.1 = cs) (hw : 2 ≤ w ∧ w ≤ 6) (hh : 2 ≤ h ∧ h ≤ 6) (hn : (n : Int) = w * h) (hn36 : n ≤ 36) {Vo Do : zPH} {to uo : Nat} {g : Nat → Nat → Int} (hg : xGood g n) (hHo : xHas Vo Do g w h n) (hfo : ∀ j, j < n → fo j = g j 0) {i C S : Nat} (hi : i < n) (h1 : g i 0 = 1) (hCS : C + 272 ≤ 12000 ∧ S + 25120 ≤ 1000000)
    (k : ∀ (gp : Nat → Nat → Int) (σo σp Vp Dp : zPH) (tp up : Nat) (fs : Nat → Int) (x9 x10 x11 x12 : Option Value), (∀ j, j < n → gp j 1 = g j 1 ∧ gp j 2 = g j 2) → zCI σo Vo Do to uo → (zBD Vp Dp ∧ zCI σp Vp Dp tp up ∧ Dp 0 3 = 0) → (∀ t, t < 4 * n → fs t = xBi (xOld Vo w g (i + 1) t)) → QW v D cs zm_W_law 44 12000 1000000 X 461 [some (.ref (v.2.2.1 3)), some (zr Go 0), some (zr Gp 0), some (iZ w), some (iZ h), some (.ref qa), some (.ref qs), some (.ref qt), some (iZ (i : Int)), x9, x10, x11, x12] [] (xGr cs qa n ra gp ++ (zws Go σo ++ (zws Gp σp ++ [(qs, Sum.inl (cs 0, zarr 0 (4 * n) fs)), (qt, Sum.inl (cs 0, zarr 0 n fo))]))) (C + 272) (S + 25120))
    {gp : Nat → Nat → Int} {σo σp Vp Dp : zPH} {tp up : Nat} {fs : Nat → Int} {x9 x10 x11 x12 : Option Value} (hgp : ∀ j, j < n → gp j 1 = g j 1 ∧ gp j 2 = g j 2) (hco : zCI σo Vo Do to uo) (hp : (zBD Vp Dp ∧ zCI σp Vp Dp tp up ∧ Dp 0 3 = 0)) (hfs : ∀ t, t < 4 * n → fs t = xBi (xOld Vo w g i t)) : QW v D cs zm_W_law 44 12000 1000000 X 154 [some (.ref (v.2.2.1 3)), some (zr Go 0), some (zr Gp 0), some (iZ w), some (iZ h), some (.ref qa), some (.ref qs), some (.ref qt), some (iZ (i : Int)), x9, x10, x11, x12] [] (xGr cs qa n ra gp ++ (zws Go σo ++ (zws Gp σp ++ [(qs, Sum.inl (cs 0, zarr 0 (4 * n) fs)), (qt, Sum.inl (cs 0, zarr 0 n fo))]))) C S := by
  have hA := (hg.1.1 i hi).2.1 (Or.inl h1)
  have hx := xsq_r hw hn hi
  refine q_walls hGo hGp hw hh hn hn36 hg hHo hfo hi (fun g1 x9 hI1 => ?_) hgp
  have hA1 : g1 i 1 = g i 1 := by rw [(hI1 i hi).2.1, if_pos rfl]
  refine QW_aload zd_W_law_205 rfl ?_
  refine QW_iload zd_W_law_207 rfl ?_
  refine QW_gref zd_W_law_209 hi (by omega) ?_
  refine QW_iconst zd_W_law_210 ?_
  refine QW_gget zd_W_law_211 hi ⟨by decide, by decide⟩ ?_
  refine QW_z (show _ = g i 1 from hA1) ?_
  refine QW_istore zd_W_law_212 rfl (by decide) rfl ?_
  refine QW_iconst zd_W_law_214 ?_
  refine QW_istore zd_W_law_215 rfl (by decide) rfl ?_
  refine q_cols hGo hGp hw hh hn hn36 hg hHo hfo hi h1 hCS (fun g2 σp Vp Dp tp up fs x11 x12 hI2 hp hfs => ?_) 3 0 (by decide) g1 σp Vp Dp tp up fs x11 x12 ⟨_, hI1⟩ hp (fun t ht => by rw [hfs t ht]; exact xOldC_0.symm)
  obtain ⟨c2, hI2⟩ := hI2
  refine QW_aload zd_W_law_351 rfl ?_
  refine QW_iload zd_W_law_353 rfl ?_
  refine QW_gref zd_W_law_355 hi (by omega) ?_
  refine QW_iconst zd_W_law_356 ?_
  refine QW_iload zd_W_law_357 rfl ?_
  refine QW_gset zd_W_law_359 hi ⟨by decide, by decide⟩ ?_
  have hI4 : xIs (xgU g2 i (1 : Int).toNat (g i 1)) g i (g i 1) n := fun j hj => by
    obtain ⟨a1, a2, a3⟩ := hI2 j hj
    by_cases q : j = i
    · subst q
      exact ⟨(xgU_c (by decide)).trans a1, xgU_s.trans (if_pos rfl).symm, (xgU_c (by decide)).trans a3⟩
    · rw [xgU_n q, if_neg q]
      rw [if_neg q] at a2
      exact ⟨a1, a2, a3⟩
  generalize xgU g2 i (1 : Int).toNat (g i 1) = g4 at hI4 ⊢
  have hg4 := xIs_good hI4 hg h1 hA
  obtain ⟨p1, p2, p3⟩ := hp
  refine q_judgeB (G := Gp) (R := zws Go σo ++ [(qs, Sum.inl (cs 0, zarr 0 (4 * n) fs)), (qt, Sum.inl (cs 0, zarr 0 n fo))]) hGp hw hh hn hn36 hg4 p1 p3 p2 rfl rfl rfl rfl xpP ⟨by omega, by omega⟩ (fun σ2 V2 D2 t2 u2 hH2 hc2 => ?_)
  refine QW_perm (ws' := xGr cs qa n ra g4 ++ (zws Go σo ++ (zws Gp σ2 ++ [(qs, Sum.inl (cs 0, zarr 0 (4 * n) fs)), (qt, Sum.inl (cs 0, zarr 0 n fo))]))) (xpO.append_left _) ?_
  refine QW_aload_n zd_W_law_397 rfl ?_
  refine QW_iload zd_W_law_398 rfl ?_
  refine QW_iload_n zd_W_law_400 rfl ?_
  refine QW_irem zd_W_law_401 ⟨by omega, by omega⟩ ?_
  refine QW_iload zd_W_law_402 rfl ?_
  refine QW_iload_n zd_W_law_404 rfl ?_
  refine QW_idiv zd_W_law_405 ⟨by omega, by omega⟩ ?_
  refine QW_iconst zd_W_law_406 ?_
  refine QW_ms (wr := xGr cs qa n ra g4 ++ (zws Gp σ2 ++ [(qs, Sum.inl (cs 0, zarr 0 (4 * n) fs)), (qt, Sum.inl (cs 0, zarr 0 n fo))])) (np := 3) (as := [iZ ((i : Int) % w), iZ ((i : Int) / w), iZ 1]) hGo zd_W_law_407 zl_W_135 zk_B_square zv_B_square (fr' := 1) (by decide) rfl rfl rfl rfl rfl (Nat.le_of_ble_eq_true rfl) xpO ⟨by omega, by omega⟩ (Y := fun u σ' => u = some (iZ (xMany g 1 1 i : Nat)) ∧ zCI σ' Vo Do to uo) (s_B_square hHo.2.1 hco ⟨by omega, by omega⟩ ⟨by omega, by omega⟩ (by decide) (fun x hx => ⟨by rw [xSqr_v hw hn hHo hi h1 hx], hco⟩)) (fun u σ1 hu => ?_)
  obtain ⟨rfl, hco⟩ := hu
  refine QW_perm (ws' := xGr cs qa n ra g4 ++ (zws Go σ1 ++ (zws Gp σ2 ++ [(qs, Sum.inl (cs 0, zarr 0 (4 * n) fs)), (qt, Sum.inl (cs 0, zarr 0 n fo))]))) xpO ?_
  refine QW_istore zd_W_law_410 rfl (by decide) rfl ?_
  have hlm : xMany g 1 1 i < xMany g 1 1 n := xMany_lt hi (by omega)
  have h11 := hg.1.2.1
  have hV2 := hHo.1.1.2.2.1
  refine q_eyes hGo hGp hw hh hn hn36 (go := g) (gp := g4) ⟨by omega, by omega⟩ hHo hH2 ⟨xIs_many hI4 (by decide) (Nat.le_refl n), Nat.le_trans hg.1.2.2.2 (by decide)⟩ ⟨by omega, by omega⟩ (fun e he => xSe_left hw hn hg.1 hg4.1 hI4 hHo.1 hH2.1 hi h1 he) (fun σo σp x11 hco hcp => ?_) hco hc2
  exact QW_widen (by omega) (by omega) (k g4 σo σp V2 D2 t2 u2 fs _ _ _ _ (fun j hj => ⟨by rw [(hI4 j hj).2.1]; split <;> simp_all, (hI4 j hj).2.2⟩) hco ⟨hH2.2.1, hcp, hH2.2.2.2.2⟩ (fun t ht => by rw [hfs t ht]; exact xOld_s1 h1))
set_option maxHeartbeats 4000000 in
theorem q_squares2 {Go Gp : zG} {qa qs qt n : Nat} {ra : Nat → Nat} {fo : Nat → Int} {w h : Int} (hGo : Go.2.1 = D ∧ Go.2.2.1 = cs) (hGp : Gp.2.1 = D ∧ Gp.2.2.1 = cs) (hw : 2 ≤ w ∧ w ≤ 6) (hh : 2 ≤ h ∧ h ≤ 6) (hn : (n : Int) = w * h) (hn36 : n ≤ 36) {Vo Do : zPH} {to uo : Nat} {g : Nat → Nat → Int} (hg : xGood g n) (hHo : xHas Vo Do g w h n) (hfo : ∀ j, j < n → fo j = g j 0) (k : ∀ W : va_W, X (some (iZ 1)) W) : ∀ (d i : Nat), i + d = n → ∀ (gp : Nat → Nat → Int) (σo σp Vp Dp : zPH) (tp up : Nat) (fs : Nat → Int) (x9 x10 x11 x12 : Option Value), (∀ j, j < n → gp j 1 = g j 1 ∧ gp j 2 = g j 2) → zCI σo Vo Do to uo → (zBD Vp Dp ∧ zCI σp Vp Dp tp up ∧ Dp 0 3 = 0) → (∀ t, t < 4 * n → fs t = xBi (xOld Vo w g i t)) → QW v D cs zm_W_law 44 12000 1000000 X 133 [some (.ref (v.2.2.1 3)), some (zr Go 0), some (zr Gp 0), some (iZ w), some (iZ h), some (.ref qa), some (.ref qs), some (.ref qt), some (iZ (i : Int)), x9, x10, x11, x12] [] (xGr cs qa n ra gp ++ (zws Go σo ++ (zws Gp σp ++ [(qs, Sum.inl (cs 0, zarr 0 (4 * n) fs)), (qt, Sum.inl (cs 0, zarr 0 n fo))]))) (400 + 272 * i) (50000 + 25120 * i) := by
  intro d
  induction d with
  | zero =>
    intro i hi gp σo σp Vp Dp tp up fs x9 x10 x11 x12 hgp hco hp hfs
    obtain rfl : i = n := hi
    refine QW_iload zd_W_law_133 rfl ?_
    refine QW_iload_n zd_W_law_135 rfl ?_
    refine QW_iload zd_W_law_136 rfl ?_
    refine QW_imul zd_W_law_138 ?_
    refine QW_z hn.symm ?_
    refine QW_icmp_ge zd_W_law_139 ⟨⟨by omega, by omega⟩, by omega, by omega⟩ (fun hz => ?_) (fun hz => by omega)
    exact q_same hGo hGp hw hh hn hn36 ⟨by omega, by omega⟩ hHo (fun t ht => by rw [hfs t ht, xLv_all hw hn hg.1 hHo.1]; rfl) k hco
  | succ d ih =>
    intro i hi gp σo σp Vp Dp tp up fs x9 x10 x11 x12 hgp hco hp hfs
    have hin : i < n := by omega
    have hfi := hfo i hin
    have hri := hg.2.2 i hin
    have e461 : ∀ (gp : Nat → Nat → Int) (σo σp Vp Dp : zPH) (tp up : Nat) (fs : Nat → Int) (x9 x10 x11 x12 : Option Value), (∀ j, j < n → gp j 1 = g j 1 ∧ gp j 2 = g j 2) → zCI σo Vo Do to uo → (zBD Vp Dp ∧ zCI σp Vp Dp tp up ∧ Dp 0 3 = 0) → (∀ t, t < 4 * n → fs t = xBi (xOld Vo w g (i + 1) t)) → QW v D cs zm_W_law 44 12000 1000000 X 461 [some (.ref (v.2.2.1 3)), some (zr Go 0), some (zr Gp 0), some (iZ w), some (iZ h), some (.ref qa), some (.ref qs), some (.ref qt), some (iZ (i : Int)), x9, x10, x11, x12] [] (xGr cs qa n ra gp ++ (zws Go σo ++ (zws Gp σp ++ [(qs, Sum.inl (cs 0, zarr 0 (4 * n) fs)), (qt, Sum.inl (cs 0, zarr 0 n fo))]))) (400 + 272 * i + 272) (50000 + 25120 * i + 25120) := by
      intro gp σo σp Vp Dp tp up fs x9 x10 x11 x12 hgp hco hp hfs
      refine QW_iinc zd_W_law_461 rfl rfl (by decide) rfl ?_
      refine QW_goto zd_W_law_464 ?_
      have := ih (i + 1) (by omega) gp σo σp Vp Dp tp up fs x9 x10 x11 x12 hgp hco hp hfs
      rw [Int.natCast_add] at this
      exact QW_widen (by omega) (by omega) this
    by_cases q1 : g i 0 = 1
    · refine QW_iload zd_W_law_133 rfl ?_
      refine QW_iload_n zd_W_law_135 rfl ?_
      refine QW_iload zd_W_law_136 rfl ?_
      refine QW_imul zd_W_law_138 ?_
      refine QW_z hn.symm ?_
      refine QW_icmp_ge zd_W_law_139 ⟨⟨by omega, by omega⟩, by omega, by omega⟩ (fun hz => by omega) (fun hz => ?_)
      refine QW_aload zd_W_law_142 rfl ?_
      refine QW_iload zd_W_law_144 rfl ?_
      refine QW_iald (f := fo) zd_W_law_146 (List.mem_append_right _ (List.mem_append_right _ (List.mem_append_right _ (List.mem_cons_of_mem _ List.mem_cons_self)))) ⟨by omega, by omega⟩ (by omega) ?_
      refine QW_z (show _ = g i 0 by rw [Int.toNat_natCast]; exact hfi) ?_
      refine QW_iconst zd_W_law_147 ?_
      refine QW_icmp_eq zd_W_law_148 ⟨⟨by omega, by omega⟩, by omega, by omega⟩ (fun hz => ?_) (fun hz => absurd q1 hz)
      exact q_lamp hGo hGp hw hh hn hn36 hg hHo hfo hin q1 ⟨by omega, by omega⟩ (fun gp σo σp Vp Dp tp up fs x9 x10 x11 x12 a b c d => e461 gp σo σp Vp Dp tp up fs x9 x10 x11 x12 a b c d) hgp hco hp hfs
    · refine QW_iload zd_W_law_133 rfl ?_
      refine QW_iload_n zd_W_law_135 rfl ?_
      refine QW_iload zd_W_law_136 rfl ?_
      refine QW_imul zd_W_law_138 ?_
      refine QW_z hn.symm ?_
      refine QW_icmp_ge zd_W_law_139 ⟨⟨by omega, by omega⟩, by omega, by omega⟩ (fun hz => by omega) (fun hz => ?_)
      refine QW_aload zd_W_law_142 rfl ?_
      refine QW_iload zd_W_law_144 rfl ?_
      refine QW_iald (f := fo) zd_W_law_146 (List.mem_append_right _ (List.mem_append_right _ (List.mem_append_right _ (List.mem_cons_of_mem _ List.mem_cons_self)))) ⟨by omega, by omega⟩ (by omega) ?_
      refine QW_z (show _ = g i 0 by rw [Int.toNat_natCast]; exact hfi) ?_
      refine QW_iconst zd_W_law_147 ?_
      refine QW_icmp_eq zd_W_law_148 ⟨⟨by omega, by omega⟩, by omega, by omega⟩ (fun hz => absurd hz q1) (fun hz => ?_)
      exact QW_goto zd_W_law_151 (QW_widen (by omega) (by omega) (e461 gp σo σp Vp Dp tp up fs x9 x10 x11 x12 hgp hco hp (fun t ht => by rw [hfs t ht]; exact (xOld_s0 q1).symm)))
end LAMP
