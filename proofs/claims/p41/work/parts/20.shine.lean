def zSo (σ : zPH) (t p : Nat) : Int := if σ (t + 2) p = -1 then 0 else if σ (t + 4) (σ (t + 2) p).toNat = 0 then 6 else σ (t + 4) (σ (t + 2) p).toNat
def zSl (σ : zPH) (t p : Nat) (tu st : Int) : Int := if σ (t + 2) p = -1 then 0 else zlk σ t (σ (t + 2) p).toNat tu st
/-- light of a colour that comes to a square with such a piece by way w goes on by way w' -/
def zOut (so lk : Int) (b w w' : Nat) : Prop := ((so = 0 ∨ so = 3 ∨ (so = 4 ∧ zbt lk b) ∨ (so = 5 ∧ b = 0) ∨ (so = 8 ∧ lk = 1)) ∧ w' = w) ∨ ((so = 2 ∨ so = 3 ∨ so = 9) ∧ w' = zmw lk w) ∨ (so = 5 ∧ b = 1 ∧ w' = (w + 1) % 4) ∨ (so = 5 ∧ b = 2 ∧ w' = (w + 3) % 4)
/-- from node to node in the class's table -/
def zcS (σ : zPH) (t : Nat) (tu st : Int) (b n m : Nat) : Prop := ∃ w' : Nat, zOut (zSo σ t (n / 4)) (zSl σ t (n / 4) tu st) b (n % 4) w' ∧ σ (t + 1) (4 * (n / 4) + w') = (m : Int)
theorem zbt_m1 {c : Int} {b : Nat} (hc : 0 ≤ c) : zbt (c % 2) b ↔ zbt c b ∧ b = 0 := by
  rw [← zand_1 hc, zbt_and, zbt_1]
theorem zbt_m2 {c : Int} {b : Nat} : zbt (zand c 2) b ↔ zbt c b ∧ b = 1 := by
  rw [zbt_and, show (2 : Int) = 2 ^ 1 from rfl, zbt_pow]
theorem zbt_m4 {c : Int} {b : Nat} : zbt (zand c 4) b ↔ zbt c b ∧ b = 2 := by
  rw [zbt_and, show (4 : Int) = 2 ^ 2 from rfl, zbt_pow]
theorem zand_8 {x y : Int} (hx : 0 ≤ x ∧ x < 8) : 0 ≤ zand x y ∧ zand x y < 8 := by
  have h1 := zand_nn x y
  have h2 := zand_le (y := y) hx.1
  omega
set_option maxHeartbeats 4000000 in
theorem s_L_pass {G : zG} {σ : zPH} {X : zX} {a t : Nat} (ha : zisL a) (ht : zisT t) (hL : zLG σ a) (hT : zTs σ t) {n : Nat} {z c : Int} (hz : z = (n : Int)) (hn : n < 576) (hc : 0 ≤ c ∧ c < 8) (hX : ∀ σ', zLG σ' a → zSd σ σ' a (fun m b => zbt c b ∧ zcS σ t (σ a 6) (σ a 7) b n m) (σ (a + 4) n + 1) → X none σ') : MS G zm_L_pass 1 [zr G a, zr G t, iZ z, iZ c] σ X := by
  subst hz
  refine k_L_pass ha ht ?_
  obtain ⟨hN, hPo, -, hPc, -⟩ := id hT
  have hP0 := hPo (n / 4)
  have hl2 := hL.2.1
  have h67 := hL.2.2.2.2.2.2
  have e4 : (n : Int) % 4 = ((n % 4 : Nat) : Int) := by omega
  have ed : ((n : Int) / 4).toNat = n / 4 := by omega
  have hw4 : n % 4 < 4 := by omega
  have hrow : ∀ {σ1 : zPH} {T : Nat → Nat → Prop} {s : Int}, zSd σ σ1 a T s → σ1 (t + 1) = σ (t + 1) := fun h => h.1 _ (by have := zLs3 ha ht (q := t + 1) (by omega) (by omega); omega) (by have := zLs3 ha ht (q := t + 1) (by omega) (by omega); omega) (by have := zLs3 ha ht (q := t + 1) (by omega) (by omega); omega) (by have := zLs3 ha ht (q := t + 1) (by omega) (by omega); omega)
  refine ⟨by omega, ?_⟩
  rintro x4 e4' x5 e5
  rw [e4] at e4'
  subst e4'
  subst e5
  refine ⟨by omega, ?_⟩
  rintro x6 e6
  rw [Int.toNat_natCast] at e6
  subst e6
  refine ⟨by omega, by omega, ?_⟩
  rw [ed]
  rintro x7 e7
  subst e7
  have eb : ((n : Int)).toNat = n := Int.toNat_natCast n
  have en : n = 4 * (n / 4) + n % 4 := by omega
  refine ⟨by omega, fun hp => ?_, fun hp => ?_⟩
  · have hP1 := hPc (σ (t + 2) (n / 4)).toNat
    have hk8 := zlk_8 (tu := σ a 6) (st := σ a 7) hP1
    have hkg := zlk_g (tu := σ a 6) (st := σ a 7) hP1
    have es : zSo σ t (n / 4) = if σ (t + 4) (σ (t + 2) (n / 4)).toNat = 0 then 6 else σ (t + 4) (σ (t + 2) (n / 4)).toNat := by rw [zSo, if_neg hp]
    have el : zSl σ t (n / 4) (σ a 6) (σ a 7) = zlk σ t (σ (t + 2) (n / 4)).toNat (σ a 6) (σ a 7) := by rw [zSl, if_neg hp]
    refine s_T_lookNow ht (by omega) hP1 h67.1 h67.2 ?_
    refine ⟨_, rfl, by omega, by have := hP1.1; omega, ?_⟩
    generalize hk : zlk σ t (σ (t + 2) (n / 4)).toNat (σ a 6) (σ a 7) = k at *
    generalize hso : σ (t + 4) (σ (t + 2) (n / 4)).toNat = so at *
    have hmw := zmw_lt (f := k) hw4
    have hidx : ∀ w' : Nat, w' < 4 → ((n : Int) - ((n % 4 : Nat) : Int) + (w' : Int)).toNat = 4 * (n / 4) + w' := fun w' h => by omega
    refine ⟨fun hs => ?_, fun hs => ?_, fun hs => ?_, fun hs => ?_, fun hs => ?_, fun hs => ?_⟩
    · rw [if_neg (by omega)] at es
      refine s_L_turnedWay hw4 (by omega) ⟨_, rfl, by omega, ?_⟩
      rw [hidx _ hmw]
      refine s_L_send ha hL (hN _) hc (fun σ1 g1 d1 => ⟨rfl, hX σ1 g1 (d1.to fun m b => ?_)⟩)
      constructor
      · rintro ⟨h1, h2⟩
        exact ⟨h2, _, Or.inr (Or.inl ⟨by rw [es]; omega, by rw [el]⟩), h1.symm⟩
      · rintro ⟨h2, w', h3, h4⟩
        unfold zOut at h3; rw [es, el] at h3
        have : w' = zmw k (n % 4) := by omega
        rw [this] at h4
        exact ⟨h4.symm, h2⟩
    · rw [if_neg (by omega)] at es
      refine s_L_turnedWay hw4 (by omega) ⟨_, rfl, by omega, ?_⟩
      rw [hidx _ hmw]
      refine s_L_send ha hL (hN _) hc (fun σ1 g1 d1 => ⟨rfl, by omega, ?_⟩)
      rw [hrow d1, eb]
      refine s_L_send ha g1 (hN _) hc (fun σ2 g2 d2 => ⟨rfl, hX σ2 g2 ((d1.trans (fun n => (hl2 n).1) (fun n => (g1.2.1 n).1) d2).to fun m b => ?_)⟩)
      constructor
      · rintro (⟨h1, h2⟩ | ⟨h1, h2⟩)
        · exact ⟨h2, _, Or.inr (Or.inl ⟨by rw [es]; omega, by rw [el]⟩), h1.symm⟩
        · exact ⟨h2, n % 4, Or.inl ⟨by rw [es]; omega, rfl⟩, by rw [← en]; exact h1.symm⟩
      · rintro ⟨h2, w', h3, h4⟩
        unfold zOut at h3; rw [es, el] at h3
        rcases (show w' = zmw k (n % 4) ∨ w' = n % 4 by omega) with h | h
        · rw [h] at h4; exact Or.inl ⟨h4.symm, h2⟩
        · rw [h, ← en] at h4; exact Or.inr ⟨h4.symm, h2⟩
    · rw [if_neg (by omega)] at es
      refine ⟨by omega, ⟨hc.1, hkg hs⟩, ?_⟩
      rw [eb]
      refine s_L_send ha hL (hN _) (zand_8 hc) (fun σ1 g1 d1 => ⟨rfl, hX σ1 g1 (d1.to fun m b => ?_)⟩)
      rw [zbt_and]
      constructor
      · rintro ⟨h1, h2, h3⟩
        exact ⟨h2, n % 4, Or.inl ⟨by rw [es, el]; exact Or.inr (Or.inr (Or.inl ⟨hs, h3⟩)), rfl⟩, by rw [← en]; exact h1.symm⟩
      · rintro ⟨h2, w', h3, h4⟩
        unfold zOut at h3; rw [es, el] at h3
        have h5 : zbt k b ∧ w' = n % 4 := by
          rcases h3 with ⟨h3, h6⟩ | h3 | h3 | h3
          · refine ⟨?_, h6⟩
            rcases h3 with h3 | h3 | h3 | h3 | h3
            · omega
            · omega
            · exact h3.2
            · omega
            · omega
          · omega
          · omega
          · omega
        rw [h5.2, ← en] at h4
        exact ⟨h4.symm, h2, h5.1⟩
    · rw [if_neg (by omega)] at es
      refine ⟨by omega, ?_⟩
      rw [eb]
      refine s_L_send ha hL (hN _) (by omega) (fun σ1 g1 d1 => ⟨rfl, by omega, by omega, hc.1, ?_⟩)
      rw [hrow d1, show (((n % 4 : Nat) : Int) + 1) % 4 = (((n % 4 + 1) % 4 : Nat) : Int) by omega, hidx _ (by omega)]
      refine s_L_send ha g1 (hN _) (zand_8 hc) (fun σ2 g2 d2 => ⟨rfl, by omega, by omega, hc.1, ?_⟩)
      have d12 := d1.trans (fun n => (hl2 n).1) (fun n => (g1.2.1 n).1) d2
      rw [hrow d12, show (((n % 4 : Nat) : Int) + 3) % 4 = (((n % 4 + 3) % 4 : Nat) : Int) by omega, hidx _ (by omega)]
      refine s_L_send ha g2 (hN _) (zand_8 hc) (fun σ3 g3 d3 => ⟨rfl, hX σ3 g3 ((d12.trans (fun n => (hl2 n).1) (fun n => (g2.2.1 n).1) d3).to fun m b => ?_)⟩)
      rw [zbt_m1 hc.1, zbt_m2, zbt_m4]
      constructor
      · rintro ((⟨h1, h2, h3⟩ | ⟨h1, h2, h3⟩) | ⟨h1, h2, h3⟩)
        · exact ⟨h2, n % 4, Or.inl ⟨by rw [es]; omega, rfl⟩, by rw [← en]; exact h1.symm⟩
        · exact ⟨h2, _, Or.inr (Or.inr (Or.inl ⟨by rw [es]; exact hs, h3, rfl⟩)), h1.symm⟩
        · exact ⟨h2, _, Or.inr (Or.inr (Or.inr ⟨by rw [es]; exact hs, h3, rfl⟩)), h1.symm⟩
      · rintro ⟨h2, w', h3, h4⟩
        unfold zOut at h3; rw [es, el] at h3
        rcases (show (b = 0 ∧ w' = n % 4) ∨ (b = 1 ∧ w' = (n % 4 + 1) % 4) ∨ (b = 2 ∧ w' = (n % 4 + 3) % 4) by omega) with ⟨h5, h6⟩ | ⟨h5, h6⟩ | ⟨h5, h6⟩
        · rw [h6, ← en] at h4; exact Or.inl (Or.inl ⟨h4.symm, h2, h5⟩)
        · rw [h6] at h4; exact Or.inl (Or.inr ⟨h4.symm, h2, h5⟩)
        · rw [h6] at h4; exact Or.inr ⟨h4.symm, h2, h5⟩
    · rw [if_neg (by omega)] at es
      refine ⟨by omega, by omega, fun h1 => ?_, fun h1 => ?_⟩
      · rw [eb]
        refine s_L_send ha hL (hN _) (by decide) (fun σ1 g1 d1 => ⟨rfl, hX σ1 g1 (d1.to fun m b => ?_)⟩)
        constructor
        · rintro ⟨-, h2⟩; exact absurd h2 zbt_0
        · rintro ⟨h2, w', h3, h4⟩
          unfold zOut at h3; rw [es, el] at h3; omega
      · rw [eb]
        refine s_L_send ha hL (hN _) hc (fun σ1 g1 d1 => ⟨rfl, hX σ1 g1 (d1.to fun m b => ?_)⟩)
        constructor
        · rintro ⟨h3, h2⟩
          exact ⟨h2, n % 4, Or.inl ⟨by rw [es, el]; omega, rfl⟩, by rw [← en]; exact h3.symm⟩
        · rintro ⟨h2, w', h3, h4⟩
          unfold zOut at h3; rw [es, el] at h3
          rw [show w' = n % 4 by omega, ← en] at h4
          exact ⟨h4.symm, h2⟩
    · refine hX σ hL (zSd.same fun m b => ?_)
      rintro ⟨h2, w', h3, h4⟩
      unfold zOut at h3; rw [es, el] at h3
      exfalso
      have := hP1.1
      split at h3 <;> omega
  · refine ⟨by omega, ?_⟩
    rw [eb]
    refine s_L_send ha hL (hN _) hc (fun σ1 g1 d1 => ⟨rfl, hX σ1 g1 (d1.to fun m b => ?_)⟩)
    have es : zSo σ t (n / 4) = 0 := by rw [zSo, if_pos hp]
    constructor
    · rintro ⟨h1, h2⟩
      exact ⟨h2, n % 4, Or.inl ⟨Or.inl es, rfl⟩, by rw [← en]; exact h1.symm⟩
    · rintro ⟨h2, w', h3, h4⟩
      unfold zOut at h3; rw [es] at h3
      rw [show w' = n % 4 by omega, ← en] at h4
      exact ⟨h4.symm, h2⟩
def zFa (σ σ' : zPH) (a : Nat) : Prop := (∀ q, q ≠ a → q ≠ a + 1 → q ≠ a + 3 → q ≠ a + 4 → σ' q = σ q) ∧ ∀ k, k ≠ 3 → σ' a k = σ a k
theorem zSd.fa {σ σ' : zPH} {a : Nat} {T : Nat → Nat → Prop} {s : Int} (h : zSd σ σ' a T s) : zFa σ σ' a := ⟨h.1, h.2.1⟩
theorem zFa.trans {σ σ1 σ2 : zPH} {a : Nat} (h1 : zFa σ σ1 a) (h2 : zFa σ1 σ2 a) : zFa σ σ2 a := ⟨fun q a b c d => by rw [h2.1 q a b c d, h1.1 q a b c d], fun k hk => by rw [h2.2 k hk, h1.2 k hk]⟩
theorem zFa.rfl' {σ : zPH} {a : Nat} : zFa σ σ a := ⟨fun _ _ _ _ _ => rfl, fun _ _ => rfl⟩
theorem zFa.tab {σ σ' : zPH} {a t : Nat} (ha : zisL a) (ht : zisT t) (h : zFa σ σ' a) {q : Nat} (h1 : t ≤ q) (h2 : q ≤ t + 12) : σ' q = σ q := by
  obtain ⟨e1, e2, e3, e4, e5⟩ := zLs3 ha ht h1 h2
  exact h.1 q e1 e2 e4 e5
theorem zcS_to {σ σ' : zPH} {t : Nat} (h : ∀ q, t ≤ q → q ≤ t + 12 → σ' q = σ q) {tu st : Int} {b n m : Nat} : zcS σ' t tu st b n m ↔ zcS σ t tu st b n m := by
  unfold zcS zSo zSl zlk
  rw [h (t + 1) (by omega) (by omega), h (t + 2) (by omega) (by omega), h (t + 4) (by omega) (by omega), h (t + 5) (by omega) (by omega), h (t + 6) (by omega) (by omega)]
theorem s_L_spread {G : zG} {σ : zPH} {X : zX} {a t : Nat} (ha : zisL a) (ht : zisT t) (hL : zLG σ a) (hT : zTs σ t) (I : Nat → zPH → Prop) (h0 : I 0 σ)
    (hs : ∀ (i : Nat) (σ1 σ2 : zPH), I i σ1 → zLG σ1 a → zFa σ σ1 a → (i : Int) < σ1 a 3 → zSd σ1 σ2 a (fun m b => zbt (σ1 (a + 3) i % 8) b ∧ zcS σ t (σ a 6) (σ a 7) b (σ1 (a + 3) i / 8).toNat m) (σ1 (a + 4) (σ1 (a + 3) i / 8).toNat + 1) → zLG σ2 a → I (i + 1) σ2)
    (hX : ∀ (i : Nat) (σ' : zPH), I i σ' → zLG σ' a → zFa σ σ' a → σ' a 3 ≤ (i : Int) → X none σ') : MS G zm_L_spread 2 [zr G a, zr G t] σ X := by
  refine k_L_spread ha ht ?_
  refine zLP1_ind (fun x σ1 => ∃ i : Nat, x = (i : Int) ∧ i ≤ 1728 ∧ I i σ1 ∧ zLG σ1 a ∧ zFa σ σ1 a) (fun x _ => (1728 - x).toNat) ?_ ⟨0, rfl, by omega, h0, hL, zFa.rfl'⟩
  rintro K x σ1 ⟨i, rfl, hi, hI, hG, hF⟩ hK
  have hGr := hG.1
  have hG3 := hG.2.2.1 i
  refine ⟨by omega, fun h => hX i σ1 hI hG hF h, fun h => ⟨by omega, fun h2 => hX i σ1 hI hG hF (by omega), fun h2 => ?_⟩⟩
  refine s_L_arrivedNode ha (by omega) (by rw [Int.toNat_natCast]; exact hG3) ⟨_, rfl, by omega, ?_⟩
  rw [Int.toNat_natCast]
  refine s_L_pass ha ht hG (hT.to fun q h1 h2 => hF.tab ha ht h1 h2) (n := (σ1 (a + 3) i / 8).toNat) (by omega) (by omega) (by omega) (fun σ2 g2 d2 => ⟨rfl, ?_⟩)
  refine hK _ _ ⟨i + 1, by omega, by omega, hs i σ1 σ2 hI hG hF h (d2.to fun m b => ?_) g2, g2, hF.trans d2.fa⟩ (by omega)
  rw [zcS_to (fun q h1 h2 => hF.tab ha ht h1 h2), hF.2 6 (by decide), hF.2 7 (by decide)]
theorem s_L_darken {G : zG} {σ : zPH} {X : zX} {a : Nat} (ha : zisL a) (hL : zLG σ a) (hX : ∀ σ', zLG σ' a → (∀ q, q ≠ a → q ≠ a + 1 → σ' q = σ q) → (∀ k, k ≠ 3 → σ' a k = σ a k) → σ' a 3 = 0 → (∀ n, σ' (a + 1) n = 0) → X none σ') : MS G zm_L_darken 1 [zr G a] σ X := by
  refine k_L_darken ha ?_
  obtain ⟨l1, l2, l3, l4, l5, l6, l7, l8⟩ := id hL
  refine zLP1_ind (fun x σ1 => ∃ i : Nat, x = (i : Int) ∧ (i : Int) ≤ σ a 3 ∧ (∀ q, q ≠ a + 1 → σ1 q = σ q) ∧ (∀ n, σ1 (a + 1) n = 0 ∨ (σ1 (a + 1) n = σ (a + 1) n ∧ ∃ j : Nat, i ≤ j ∧ (j : Int) < σ a 3 ∧ σ (a + 3) j / 8 = (n : Int)))) (fun x _ => (1728 - x).toNat) ?_ ⟨0, rfl, by omega, fun _ _ => rfl, fun n => ?_⟩
  · rintro K x σ1 ⟨i, rfl, hi, hF, hn⟩ hK
    have hFa : σ1 a = σ a := hF a (by omega)
    refine ⟨by rw [hFa]; omega, fun h => ?_, fun h => ?_⟩
    · rintro σ29 e29
      rw [hFa] at h
      have ea : ∀ k, σ29 a k = if k = 3 then 0 else σ a k := fun k => by
        rw [e29]; split
        · rename_i q; subst q; rw [zupd_same]
        · rename_i q; rw [zupd_nk q, hFa]
      have eq' : ∀ q, q ≠ a → q ≠ a + 1 → σ29 q = σ q := fun q h1 h2 => by rw [e29, zupd_row h1, hF q h2]
      have e0 : ∀ n, σ29 (a + 1) n = 0 := fun n => by
        rw [e29, zupd_row (by omega)]
        rcases hn n with q | ⟨-, j, j1, j2, -⟩
        · exact q
        · omega
      refine hX σ29 ⟨by rw [ea, if_pos rfl]; omega, fun n => by rw [e0]; decide, fun j => by rw [eq' _ (by omega) (by omega)]; exact l3 j, fun j hj => ?_, fun n b hb => ?_, ?_, by rw [ea, if_neg (by decide)]; exact l7, by rw [ea, if_neg (by decide)]; exact l8⟩ eq' (fun k hk => by rw [ea, if_neg hk]) (by rw [ea, if_pos rfl]) e0
      · rw [ea, if_pos rfl] at hj; omega
      · rw [e0] at hb; exact absurd hb zbt_0
      · rw [ea, if_pos rfl]; exact (zpc_le _ _).1
    · rw [hFa] at h
      have h3 := l3 i
      have e3 : σ1 (a + 3) = σ (a + 3) := hF _ (by omega)
      refine s_L_arrivedNode ha (by omega) (by rw [Int.toNat_natCast, e3]; exact h3) ⟨_, rfl, by rw [Int.toNat_natCast, e3]; omega, ?_⟩
      rintro σ20 e20
      refine hK _ _ ⟨i + 1, by omega, by omega, fun q hq => by rw [e20, zupd_row hq, hF q hq], fun n => ?_⟩ (by omega)
      rw [e20, Int.toNat_natCast, e3]
      by_cases hq : n = (σ (a + 3) i / 8).toNat
      · left; rw [hq, zupd_same]
      · rw [zupd_nk hq]
        rcases hn n with q | ⟨q, j, j1, j2, j3⟩
        · exact Or.inl q
        · refine Or.inr ⟨q, j, ?_, j2, j3⟩
          rcases (show i = j ∨ i + 1 ≤ j by omega) with rfl | q2
          · omega
          · exact q2
  · by_cases h : σ (a + 1) n = 0
    · exact Or.inl h
    · obtain ⟨b, hb⟩ := (zbt_ne0 (l2 n).1).mp h
      obtain ⟨j, j1, j2, -⟩ := l5 n b hb
      exact Or.inr ⟨rfl, j, by omega, j1, j2⟩
