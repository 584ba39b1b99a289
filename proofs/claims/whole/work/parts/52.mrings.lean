section MP
variable {G : zG} {σ V D : zPH} {X : zX}
theorem s_M_isRing (hB : zBD V D) (h : zMI σ V D) {b0 at0 : Nat} {z co : Int} (hz : z = (at0 : Int)) (hb0 : b0 < 3) (hcb : co = 2 ^ b0) (hat : zva V (at0 / 4)) (h1 : ∀ σ', zMI σ' V D → zfM σ σ' → zRe (zvS V (D 0 0) (D 0 1) b0 at0) (zvS V (D 0 0) (D 0 1) b0) at0 → X (some (iZ 1)) σ') (h0 : ∀ σ', zMI σ' V D → zfM σ σ' → ¬ zRe (zvS V (D 0 0) (D 0 1) b0 at0) (zvS V (D 0 0) (D 0 1) b0) at0 → X (some (iZ 0)) σ') : MS G zm_M_isRing 4 [zr G 58, iZ z, iZ co] σ X := by
  subst hz
  have hV := hB.1
  obtain ⟨t1, t2, t3, t4⟩ := h.tu hB
  obtain ⟨d1, d2, -⟩ := h.2.2.1.1
  have hco8 : 0 ≤ co ∧ co < 8 := by
    have : b0 = 0 ∨ b0 = 1 ∨ b0 = 2 := by omega
    rcases this with rfl | rfl | rfl <;> rw [hcb] <;> decide
  have cb : ∀ b, zbt co b ↔ b = b0 := fun b => by rw [hcb, zbt_pow]
  obtain ⟨s, hsd⟩ : ∃ s : Nat → Nat → Prop, s = zvS V (D 0 0) (D 0 1) b0 := ⟨_, rfl⟩
  rw [← hsd] at h1 h0
  have hsv : ∀ n m, zva V (n / 4) → s n m → zva V (m / 4) := fun n m a b => by rw [hsd] at b; exact zvS_va hV a b
  have lt4 : ∀ n, zva V (n / 4) → n < 576 := fun n hn => by have := (zva.lt hV hn).1; omega
  have hal := lt4 at0 hat
  refine k_M_isRing ?_
  refine zLP1_ind (fun x3 σ1 => ∃ i : Nat, x3 = (i : Int) ∧ i ≤ 576 ∧ zfM σ σ1 ∧ ∀ m, m < i → σ1 84 m = 0) (fun x3 _ => (576 - x3).toNat) ?_ ⟨0, rfl, by decide, zfM.rf, fun m hm => by omega⟩
  rintro K x3 σ1 ⟨i, rfl, hi, F1, z1⟩ hK
  refine ⟨by omega, fun hge => ?_, fun hlt => ⟨by omega, ?_⟩⟩
  rotate_left
  · rintro σ2 e2
    refine hK _ _ ⟨i + 1, by omega, by omega, F1.trans ⟨fun q h1 h2 h3 => by rw [e2, zupd_row h2], fun k hk => by rw [e2, zupd_row (by decide)]⟩, fun m hm => ?_⟩ (by omega)
    rw [e2]
    by_cases q : m = i
    · rw [q, Int.toNat_natCast, zupd_same]
    · rw [zupd_nk (by omega)]; exact z1 m (by omega)
  clear hK
  have hi6 : i = 576 := by omega
  subst hi6
  rintro σ2 e2
  have F2 : zfM σ σ2 := F1.trans ⟨fun q h1 h2 h3 => by rw [e2, zupd_row h1], fun k hk => by rw [e2, zupd_nk hk]⟩
  have z2 : ∀ m, m < 576 → σ2 84 m = 0 := fun m hm => by rw [e2, zupd_row (by decide)]; exact z1 m hm
  have h55 : σ2 58 55 = 0 := by rw [e2, zupd_same]
  have Q2 : zmQ σ2 V := by
    refine ⟨fun m hm => by rw [z2 m hm]; decide, by omega, ?_, fun j hj => by omega⟩
    have := zsm_3 (f := fun m => zpp (σ2 84 m)) (n := 576) (fun m hm => by show 0 ≤ zpp (σ2 84 m) ∧ zpp (σ2 84 m) ≤ 3; rw [z2 m hm]; decide)
    unfold zBs; omega
  have M2 := F2.vw h.1
  have e42 : σ2 58 42 = D 0 0 := by rw [F2.2 42 (by decide)]; exact d1
  have e43 : σ2 58 43 = D 0 1 := by rw [F2.2 43 (by decide)]; exact d2
  have cgP : ∀ (n : Nat) (m b : Nat), (zbt co b ∧ zvS V (D 0 0) (D 0 1) b n m) ↔ (b = b0 ∧ s n m) := fun n m b => by
    rw [cb, hsd]
    exact ⟨fun z => ⟨z.1, by rw [← z.1]; exact z.2⟩, fun z => ⟨z.1, by rw [z.1]; exact z.2⟩⟩
  refine ⟨by omega, by omega, ?_⟩
  rw [e43]
  refine s_M_goes hV M2 Q2 (by rw [e42, ← d1]; exact t1) (by rw [← d2]; exact ⟨t3, t2.1⟩) (n := at0) (by omega) (by omega) hat hco8 (fun σ3 M3 Q3 A3 => ⟨rfl, ?_⟩)
  rw [e42] at A3
  have A3' := A3.cg (cgP at0)
  have b3 : ∀ m, m < 576 → ∀ b, zbt (σ3 84 m) b ↔ b = b0 ∧ s at0 m := fun m hm b => by
    rw [A3'.1, z2 m hm]
    exact ⟨fun z => z.elim (fun z => absurd z zbt_0) id, Or.inr⟩
  refine zLP0_ind (fun σ4 => zmQ σ4 V ∧ zfM σ σ4 ∧ (∀ m b, m < 576 → zbt (σ4 84 m) b → b = b0 ∧ zRe (s at0) s m) ∧ (∀ m, s at0 m → zbt (σ4 84 m) b0) ∧ (∀ n : Nat, n < 576 → zbt (σ4 84 n) b0 → (∃ j : Nat, (j : Int) < σ4 58 55 ∧ σ4 85 j = (n : Int)) ∨ ∀ m, s n m → zbt (σ4 84 m) b0) ∧ ∀ j : Nat, (j : Int) < σ4 58 55 → ∃ m : Nat, zva V (m / 4) ∧ σ4 85 j = (m : Int) ∧ zbt (σ4 84 m) b0) (fun σ4 => (2 * (1728 - zBs σ4 576) + σ4 58 55).toNat) ?_ ⟨Q3, F2.trans A3.fM, fun m b hm hb => ⟨((b3 m hm b).mp hb).1, zRe.src ((b3 m hm b).mp hb).2⟩, fun m hm => (b3 m (lt4 m (hsv _ _ hat hm)) b0).mpr ⟨rfl, hm⟩, fun n hn hb => Or.inl ?_, fun j hj => ?_⟩
  rotate_left
  · have hne : σ3 84 n ≠ σ2 84 n := fun z => by rw [z, z2 n hn] at hb; exact zbt_0 hb
    obtain ⟨j, j1, j2, j3⟩ := A3.2.2.2.1.1 n hne
    exact ⟨j, j2, j3⟩
  · obtain ⟨m, m1, m2⟩ := Q3.2.2.2 j hj
    obtain ⟨m', b, p1, p2, p3⟩ := A3'.2.2.2.1.2 j (by omega) hj
    have : m' = m := by omega
    subst this
    exact ⟨m', m1, m2, by rw [← ((b3 m' (lt4 _ m1) b).mp p2).1]; exact p2⟩
  rintro K σ4 ⟨Q4, F4, so, inc, clo, stk⟩ hK
  have M4 := F4.vw h.1
  have I4 := h.W F4.W
  have hB4 := zBs_r Q4
  have hh4 := Q4.2.1
  have hh4' := Q4.2.2.1
  have a8 := Q4.1 at0 hal
  have vaR : ∀ n, zRe (s at0) s n → zva V (n / 4) := fun n hn => zRe.ind (P := fun n => zva V (n / 4)) (fun n hn => hsv _ _ hat hn) (fun n m _ hv hs => hsv n m hv hs) hn
  have ends : (σ4 58 55 ≤ 0 ∨ σ4 84 at0 ≠ 0) → b_M_isRing_96 G (at0 : Int) co X σ4 := fun hor => by
    refine ⟨by omega, by rw [Int.toNat_natCast]; omega, ?_⟩
    rw [Int.toNat_natCast]
    refine ⟨fun z => h0 σ4 I4 F4 (fun hr => ?_), fun z => ?_⟩
    · have hle : σ4 58 55 ≤ 0 := hor.elim id (fun y => absurd z y)
      have := (zRe.ind (P := fun n => zva V (n / 4) ∧ zbt (σ4 84 n) b0) (fun n hn => ⟨hsv _ _ hat hn, inc n hn⟩) (fun n m _ hp hs => ⟨hsv n m hp.1 hs, by
        rcases clo n (lt4 n hp.1) hp.2 with ⟨j, j1, j2⟩ | hc
        · omega
        · exact hc m hs⟩) hr).2
      rw [z] at this
      exact zbt_0 this
    · obtain ⟨b, hb⟩ := (zbt_ne0 a8.1).mp z
      exact h1 σ4 I4 F4 (so at0 b hal hb).2
  refine ⟨by omega, fun hle => ends (Or.inl hle), fun hgt => ⟨by omega, by rw [Int.toNat_natCast]; omega, fun z => ends (Or.inr (by rw [Int.toNat_natCast] at z; exact z)), fun _ => ?_⟩⟩
  rintro σ5 e5
  have h5 : σ5 58 55 = σ4 58 55 - 1 := by rw [e5, zupd_same]
  have r5 : ∀ q, q ≠ 58 → σ5 q = σ4 q := fun q hq => by rw [e5, zupd_row hq]
  have F5' : zfM σ4 σ5 := ⟨fun q q1 q2 q3 => r5 q q1, fun k hk => by rw [e5, zupd_nk hk]⟩
  have F5 := F4.trans F5'
  have M5 := F5.vw h.1
  rw [h5]
  refine ⟨by omega, ?_⟩
  rintro x2 e2x
  rw [r5 85 (by decide)] at e2x
  obtain ⟨n, hn, hn2, hn3⟩ := stk (σ4 58 55 - 1).toNat (by omega)
  rw [hn2] at e2x
  subst e2x
  have hnl := lt4 n hn
  have e84 : σ5 84 = σ4 84 := r5 84 (by decide)
  have eBs : zBs σ5 576 = zBs σ4 576 := by unfold zBs; rw [e84]
  have Q5 : zmQ σ5 V := ⟨fun m hm => by rw [e84]; exact Q4.1 m hm, by omega, by omega, fun j hj => by rw [r5 85 (by decide)]; exact Q4.2.2.2 j (by omega)⟩
  have e42' : σ5 58 42 = D 0 0 := by rw [F5.2 42 (by decide)]; exact d1
  have e43' : σ5 58 43 = D 0 1 := by rw [F5.2 43 (by decide)]; exact d2
  refine ⟨by omega, by omega, ?_⟩
  rw [e43']
  refine s_M_goes hV M5 Q5 (by rw [e42', ← d1]; exact t1) (by rw [← d2]; exact ⟨t3, t2.1⟩) (n := n) (by omega) (by omega) hn hco8 (fun σ6 M6 Q6 A6 => ⟨rfl, ?_⟩)
  rw [e42'] at A6
  have A6' := A6.cg (cgP n)
  have hB6 := zBs_r Q6
  have bit6 : ∀ m b, zbt (σ6 84 m) b ↔ zbt (σ4 84 m) b ∨ (b = b0 ∧ s n m) := fun m b => by rw [A6'.1, e84]
  have hmono : ∀ m b, zbt (σ4 84 m) b → zbt (σ6 84 m) b := fun m b hb => (bit6 m b).mpr (Or.inl hb)
  have hrn := (so n b0 hnl hn3).2
  refine hK _ ⟨Q6, F5.trans A6.fM, fun m b hm hb => ?_, fun m hm => hmono m b0 (inc m hm), fun n' hn' hb => ?_, fun j hj => ?_⟩ (by have := A6.2.2.2.2.1; have := Q6.2.1; have := A6.2.1; show (2 * (1728 - zBs σ6 576) + σ6 58 55).toNat < (2 * (1728 - zBs σ4 576) + σ4 58 55).toNat; omega)
  · rcases (bit6 m b).mp hb with z | ⟨z1, z2⟩
    · exact so m b hm z
    · exact ⟨z1, hrn.step z2⟩
  · by_cases hch : σ6 84 n' = σ5 84 n'
    · rw [hch, e84] at hb
      by_cases hnn : n' = n
      · rw [hnn] at hb ⊢
        exact Or.inr fun m hs => (bit6 m b0).mpr (Or.inr ⟨rfl, hs⟩)
      · rcases clo n' hn' hb with ⟨j, j1, j2⟩ | hc
        · have hj : j ≠ (σ4 58 55 - 1).toNat := fun z => by rw [z, hn2] at j2; omega
          have := A6.2.1
          exact Or.inl ⟨j, by omega, by rw [A6.2.2.1 j (by omega), r5 85 (by decide)]; exact j2⟩
        · exact Or.inr fun m hs => hmono m b0 (hc m hs)
    · obtain ⟨j, j1, j2, j3⟩ := A6.2.2.2.1.1 n' hch
      exact Or.inl ⟨j, j2, j3⟩
  · by_cases y : (j : Int) < σ5 58 55
    · obtain ⟨m, m1, m2, m3⟩ := stk j (by omega)
      exact ⟨m, m1, by rw [A6.2.2.1 j y, r5 85 (by decide)]; exact m2, hmono m b0 m3⟩
    · obtain ⟨m, m1, m2⟩ := Q6.2.2.2 j hj
      obtain ⟨m', b, p1, p2, p3⟩ := A6'.2.2.2.1.2 j (by omega) hj
      have : m' = m := by omega
      subst this
      rw [e84] at p3
      have hb : b = b0 := by
        rcases (bit6 m' b).mp p2 with u | u
        · exact absurd u p3
        · exact u.1
      subst hb
      exact ⟨m', m1, m2, p2⟩
theorem s_M_rings (hB : zBD V D) (h : zMI σ V D) {co : Int} (hco : zI co) (hX : ∀ σ' x, zRgs V D co x → zMI σ' V D → zfA σ σ' → X (some (iZ x)) σ') : MS G zm_M_rings 5 [zr G 58, iZ co] σ X := by
  have hV := hB.1
  obtain ⟨t1, t2, t3, t4⟩ := h.tu hB
  obtain ⟨d1, d2, -⟩ := h.2.2.1.1
  have lt4 : ∀ n, zva V (n / 4) → n < 576 := fun n hn => by have := (zva.lt hV hn).1; omega
  have main : ∀ b0 : Nat, b0 < 3 → co = 2 ^ b0 → (co = 1 ∨ co = 2 ∨ co = 4) → b_M_rings_17 G co X σ := by
    intro b0 hb0 hcb hc3
    have cb : ∀ b, zbt co b ↔ b = b0 := fun b => by rw [hcb, zbt_pow]
    have h7 : zbt 7 b0 := (zall_bt (n := 3) (e := b0)).mpr hb0
    have hL : ∀ m, zvL V 255 7 b0 m ↔ zvL V 255 (2 ^ b0) b0 m := fun m =>
      ⟨fun ⟨q, a, b, c, d, _, f⟩ => ⟨q, a, b, c, d, zbt_pow.mpr rfl, f⟩, fun ⟨q, a, b, c, d, _, f⟩ => ⟨q, a, b, c, d, h7, f⟩⟩
    have hLe : zvL V 255 7 b0 = zvL V 255 (2 ^ b0) b0 := funext fun m => propext (hL m)
    refine s_M_shineNow hB h ⟨t3, t2.1⟩ (fun σ1 M1 F1 L1 => ⟨rfl, ?_⟩)
    rw [d2] at L1
    have lit : ∀ m, m < 576 → (zand (σ1 84 m) co ≠ 0 ↔ zRe (zvL V 255 (2 ^ b0) b0) (zvS V (D 0 0) (D 0 1) b0) m) := fun m hm => by
      rw [L1 m hm, zbt_ne0 (zand_nn _ _), ← hLe]
      constructor
      · rintro ⟨b, hb⟩
        rw [zbt_and, cb, zLv_bt] at hb
        rw [← hb.2]; exact hb.1.2
      · intro hr
        exact ⟨b0, by rw [zbt_and, cb, zLv_bt]; exact ⟨⟨hb0, hr⟩, rfl⟩⟩
    refine zLP1_ind (fun x2 σ2 => ∃ i : Nat, x2 = (i : Int) ∧ i ≤ 576 ∧ (∀ q, q ≠ 89 → σ2 q = σ1 q) ∧ ∀ m, m < i → (σ2 89 m = 0 ∨ σ2 89 m = 1) ∧ (σ2 89 m ≠ 0 ↔ zRe (zvL V 255 (2 ^ b0) b0) (zvS V (D 0 0) (D 0 1) b0) m)) (fun x2 _ => (576 - x2).toNat) ?_ ⟨0, rfl, by decide, fun _ _ => rfl, fun m hm => by omega⟩
    rintro K x2 σ2 ⟨i, rfl, hi, F2, g2⟩ hK
    refine ⟨by omega, fun hge => ?_, fun hlt => ⟨by omega, ?_⟩⟩
    rotate_left
    · have put : ∀ v : Int, (v = 0 ∨ v = 1) → (v ≠ 0 ↔ zRe (zvL V 255 (2 ^ b0) b0) (zvS V (D 0 0) (D 0 1) b0) i) → b_M_rings_55 G co X K (i : Int) v (i : Int) σ2 := fun v hv hv2 => by
        refine ⟨by omega, hv, ?_⟩
        rintro σ3 e3
        rw [Int.toNat_natCast] at e3
        refine hK _ _ ⟨i + 1, by omega, by omega, fun q hq => by rw [e3, zupd_row hq, F2 q hq], fun m hm => ?_⟩ (by omega)
        rw [e3]
        by_cases q : m = i
        · rw [q, zupd_same]; exact ⟨hv, hv2⟩
        · rw [zupd_nk q]; exact g2 m (by omega)
      rw [Int.toNat_natCast, F2 84 (by decide)]
      have hl := lit i (by omega)
      have l8 := L1 i (by omega)
      have z8 := zLv_8 (V := V) (tu := D 0 0) (st := D 0 1) (la := 255) (co := 7) (m := i)
      have a8 := zand_8 (x := σ1 84 i) (y := co) (by rw [l8]; exact z8)
      refine ⟨⟨by rw [l8]; exact z8.1, by omega⟩, by omega, fun z => put 0 (Or.inl rfl) ⟨fun y => absurd rfl y, fun y => absurd z (hl.mpr y)⟩, fun z => put 1 (Or.inr rfl) ⟨fun _ => hl.mp z, fun _ => by decide⟩⟩
    clear hK
    have hi6 : i = 576 := by omega
    subst hi6
    have M2 : zMI σ2 V D := M1.W ⟨fun q a b => by rw [F2 q (by omega)], fun k a b => by rw [F2 58 (by decide)]⟩
    have FA : zfA σ σ2 := F1.W.A.trans (fun q hq => F2 q (by omega))
    refine zLP2_ind (fun x2 x3 σ3 => ∃ q : Nat, x3 = (q : Int) ∧ q ≤ 144 ∧ x2 = zcn (zRgq V D b0) q ∧ zMI σ3 V D ∧ zfA σ σ3 ∧ σ3 89 = σ2 89) (fun _ x3 _ => (144 - x3).toNat) ?_ ⟨0, rfl, by decide, rfl, M2, FA, rfl⟩
    rintro K x2 x3 σ3 ⟨q, rfl, hq, rfl, M3, F3, e3⟩ hK
    have hcr := zcn_r (zRgq V D b0) q
    refine ⟨by omega, fun hge => ?_, fun hlt => ?_⟩
    · rw [show q = 144 by omega]
      exact hX σ3 _ (Or.inl ⟨b0, hb0, hcb, rfl⟩) M3 F3
    · have vaR : ∀ m, zRe (zvL V 255 (2 ^ b0) b0) (zvS V (D 0 0) (D 0 1) b0) m → zva V (m / 4) := fun m hm => zRe.ind (P := fun n => zva V (n / 4)) (fun n hn => zvL_va hV hn) (fun n m _ hv hs => zvS_va hV hv hs) hm
      obtain ⟨R, hR⟩ : ∃ R : Nat → Prop, ∀ w, R w ↔ zRe (zvL V 255 (2 ^ b0) b0) (zvS V (D 0 0) (D 0 1) b0) (4 * q + w) ∧ zRe (zvS V (D 0 0) (D 0 1) b0 (4 * q + w)) (zvS V (D 0 0) (D 0 1) b0) (4 * q + w) := ⟨_, fun _ => Iff.rfl⟩
      refine zLP4_ind (fun y2 y3 x4 x5 σ4 => y2 = zcn (zRgq V D b0) q ∧ y3 = (q : Int) ∧ ∃ w : Nat, x5 = (w : Int) ∧ w ≤ 4 ∧ zMI σ4 V D ∧ zfA σ σ4 ∧ σ4 89 = σ2 89 ∧ ((x4 = 0 ∧ ∀ v, v < w → ¬ R v) ∨ (x4 = 1 ∧ ∃ v, v < w ∧ R v))) (fun _ _ _ x5 _ => (4 - x5).toNat) ?_ ⟨rfl, rfl, 0, rfl, by decide, M3, F3, e3, Or.inl ⟨rfl, fun v hv => by omega⟩⟩
      rintro K2 y2 y3 x4 x5 σ4 ⟨rfl, rfl, w, rfl, hw, M4, F4, e4, best⟩ hK2
      have x4r : x4 = 0 ∨ x4 = 1 := best.elim (fun z => Or.inl z.1) (fun z => Or.inr z.1)
      refine ⟨by omega, fun hge2 => ?_, fun hlt2 => ?_⟩
      · have hw4 : w = 4 := by omega
        subst hw4
        have hq4 : zRgq V D b0 q ↔ ∃ v, v < 4 ∧ R v := by
          constructor
          · rintro ⟨-, v, v1, v2⟩; exact ⟨v, v1, (hR v).mpr v2⟩
          · rintro ⟨v, v1, v2⟩
            have := vaR _ ((hR v).mp v2).1
            rw [show (4 * q + v) / 4 = q by omega] at this
            exact ⟨this, v, v1, (hR v).mp v2⟩
        refine ⟨by rcases x4r with r | r <;> rw [r] <;> decide, fun z => ?_, fun z => ?_⟩
        · rintro y ey
          refine hK _ _ _ ⟨q + 1, by omega, by omega, ?_, M4, F4, e4⟩ (by omega)
          simp only [zcn]
          rw [zbI_f (fun hh => by
            obtain ⟨v, v1, v2⟩ := hq4.mp hh
            rcases best with ⟨-, b⟩ | ⟨a, -⟩
            · exact b v v1 v2
            · exact absurd (a.symm.trans z) (by decide))]
          exact ey
        · rintro y ey
          refine hK _ _ _ ⟨q + 1, by omega, by omega, ?_, M4, F4, e4⟩ (by omega)
          simp only [zcn]
          rw [zbI_t (hq4.mpr (by
            rcases best with ⟨a, -⟩ | ⟨-, b⟩
            · exact absurd a z
            · exact b))]
          exact ey
      · obtain ⟨g5, g6⟩ := g2 (4 * q + w) (by omega)
        have yes : ∀ σ5, zMI σ5 V D → zfA σ4 σ5 → σ5 89 = σ2 89 → (∃ v, v < w + 1 ∧ R v) → b_M_rings_118 G co X K K2 (zcn (zRgq V D b0) q) (q : Int) (w : Int) σ5 := fun σ5 a b c d => hK2 _ _ _ _ _ ⟨rfl, rfl, w + 1, by omega, by omega, a, F4.trans b, c, Or.inr ⟨rfl, d⟩⟩ (by omega)
        have nay : ∀ σ5, zMI σ5 V D → zfA σ4 σ5 → σ5 89 = σ2 89 → x4 = 0 → ¬ R w → b_M_rings_122 G co X K K2 (zcn (zRgq V D b0) q) (q : Int) (w : Int) σ5 := fun σ5 a b c d e => hK2 _ _ _ _ _ ⟨rfl, rfl, w + 1, by omega, by omega, a, F4.trans b, c, Or.inl ⟨rfl, fun v hv => by
          rcases (show v < w ∨ v = w by omega) with u | rfl
          · rcases best with ⟨-, bb⟩ | ⟨aa, -⟩
            · exact bb v u
            · omega
          · exact e⟩⟩ (by omega)
        rw [show (4 * (q : Int) + (w : Int)) = ((4 * q + w : Nat) : Int) by omega]
        refine ⟨by omega, fun z => yes σ4 M4 zfA.rf e4 ?_, fun z => ⟨by omega, by rw [Int.toNat_natCast, e4]; omega, fun z2 => nay σ4 M4 zfA.rf e4 z ?_, fun z2 => ?_⟩⟩
        · rcases best with ⟨a, -⟩ | ⟨-, v, v1, v2⟩
          · exact absurd a z
          · exact ⟨v, by omega, v2⟩
        · rw [Int.toNat_natCast, e4] at z2
          exact fun hh => (g6.mpr ((hR w).mp hh).1) z2
        · rw [Int.toNat_natCast, e4] at z2
          have hre := g6.mp z2
          refine s_M_isRing hB M4 (b0 := b0) (at0 := 4 * q + w) rfl hb0 hcb (vaR _ hre) (fun σ5 M5 F5 hr => Or.inr ⟨rfl, ?_⟩) (fun σ5 M5 F5 hr => Or.inl ⟨rfl, ?_⟩)
          · exact yes σ5 M5 F5.W.A (by rw [F5.1 89 (by decide) (by decide) (by decide)]; exact e4) ⟨w, by omega, (hR w).mpr ⟨hre, hr⟩⟩
          · exact nay σ5 M5 F5.W.A (by rw [F5.1 89 (by decide) (by decide) (by decide)]; exact e4) z (fun hh => hr ((hR w).mp hh).2)
  exact k_M_rings ⟨hco, fun q => main 0 (by decide) (by rw [q]; rfl) (Or.inl q), fun _ => ⟨hco, fun q => main 1 (by decide) (by rw [q]; rfl) (Or.inr (Or.inl q)), fun _ => ⟨hco, fun q => main 2 (by decide) (by rw [q]; rfl) (Or.inr (Or.inr q)), fun _ => hX σ _ (Or.inr ⟨by omega, rfl⟩) h zfA.rf⟩⟩⟩
end MP
