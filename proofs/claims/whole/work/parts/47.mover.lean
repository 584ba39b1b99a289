/-! The model's board with one thing otherwise -/
theorem zmF_b {σ : zPH} (hb : σ 58 13 = 0 ∨ σ 58 13 = 1) {q : Nat} (h49 : σ 58 49 ≠ (q : Int)) (h50 : σ 58 50 ≠ (q : Int)) : (zmF σ (q : Int)).toNat = 144 * (σ 58 13).toNat + q ∧ zmF σ (q : Int) = 144 * σ 58 13 + (q : Int) := by
  unfold zmF
  rw [if_neg (fun z => h49 z.symm), if_neg (fun z => h50 z.symm)]
  omega
theorem zMV_0 {σ V : zPH} (hV : zVd V) (hb : zmBs σ V) (hr : zMR σ) : zMV σ V := by
  obtain ⟨b0, b1, b2, b3, b4, b5, b6⟩ := hb
  obtain ⟨r1, r2, r3, r4, r5, -⟩ := hr
  have hF : ∀ q : Nat, _ := fun q => zmF_b b0 (q := q) (by omega) (by omega)
  have hS : ∀ q : Nat, zmS σ q = σ 67 (144 * (σ 58 13).toNat + q) := fun q => by unfold zmS; rw [if_neg (by omega), if_neg (by omega), (hF q).1]
  refine ⟨⟨b0, by omega, by omega, by omega, by omega, by omega, by omega⟩, b1, fun q hq => ?_, fun q hv h0 h5 h6 h7 => ?_, fun q hv _ => ?_, fun e he => ?_, ⟨fun z => absurd r1 z, fun m hm => ⟨fun z => absurd z (b5 m hm), fun z => absurd r1 z.1⟩⟩, b6⟩
  · rw [hS]; exact b2 q hq
  · obtain ⟨c1, c2, c3⟩ := b3 q hv
    obtain ⟨c4, c5⟩ := c1 h0 h5 h6 h7
    have hl := (zva.lt hV hv).1
    refine Or.inr (Or.inr ⟨by omega, by omega, ?_, ?_, fun h4 => ⟨?_, c5 h4⟩⟩)
    · rw [(hF q).1]; exact ((b2 q hl).1 hv).symm
    · rw [(hF q).1]; exact fun h8 => (c4 h8).symm
    · rw [(hF q).1]; exact (c3 h0 h4 h5 h6).symm
  · obtain ⟨c1, c2, c3⟩ := b3 q hv
    rw [(hF q).1]; exact ⟨c2, c3⟩
  · obtain ⟨e1, e2⟩ := b4 e he
    refine ⟨e1, Or.inr ?_⟩
    obtain ⟨p, hp⟩ := Int.eq_ofNat_of_zero_le e1.1
    rw [hp] at e1 e2 ⊢
    rw [(hF p).2]
    omega
theorem zmT_to {σ V V' : zPH} {b : Nat} (h : zmT σ V b) (e0 : V' 0 = V 0) (e : ∀ r, 7 ≤ r → r ≤ 11 → V' r = V r) : zmT σ V' b := by
  unfold zmT at *
  rw [e0, e 7 (by omega) (by omega), e 8 (by omega) (by omega), e 9 (by omega) (by omega), e 10 (by omega) (by omega), e 11 (by omega) (by omega)]
  exact h
/-- a square that is empty -/
theorem zMV_rem {σ V : zPH} {q0 : Nat} (hV : zVd V) (hb : zmBs σ V) (h45 : σ 58 45 = (q0 : Int)) (h46 : σ 58 46 = -1) (h49 : σ 58 49 = -1) (h50 : σ 58 50 = -1) (h51 : σ 58 51 = -1) (hq0 : zva V q0) (h0 : V 1 q0 ≠ 0) : zMV σ (zVrem V q0) := by
  have e0 : zVrem V q0 0 = V 0 := zVrem_r (by decide) (by decide) (by decide) (by decide)
  have hl0 := (zva.lt hV hq0).1
  have wh : ∀ r k : Nat, (r = 5 ∨ r = 6 ∨ r = 12) → zVrem V q0 r k = if V r k = (q0 : Int) then -1 else V r k := fun r k h => by
    unfold zVrem; rw [if_neg (by omega)]
    by_cases q : V r k = (q0 : Int)
    · rw [if_pos ⟨h, q⟩, if_pos q]
    · rw [if_neg (fun z => q z.2), if_neg q]
  have k1 : ∀ r k, k ≠ q0 → (r = 1 ∨ r = 2 ∨ r = 3 ∨ r = 4) → zVrem V q0 r k = V r k := fun r k h h2 => zVrem_k h (by omega) (by omega) (by omega)
  have k0 : zVrem V q0 1 q0 = 0 := by simp [zVrem]
  obtain ⟨b0, b1, b2, b3, b4, b5, b6⟩ := hb
  have hF : ∀ q : Nat, _ := fun q => zmF_b b0 (q := q) (by omega) (by omega)
  have hS : ∀ q : Nat, zmS σ q = if q = q0 then 0 else σ 67 (144 * (σ 58 13).toNat + q) := fun q => by
    unfold zmS
    by_cases z : q = q0
    · rw [if_pos (by omega), if_pos z]
    · rw [if_neg (by omega), if_neg (by omega), if_neg z, (hF q).1]
  refine ⟨⟨b0, by omega, by omega, by omega, by omega, by omega, by omega⟩, by unfold zmB; rw [e0]; exact b1, fun q hq => ?_, fun q hv n0 n5 n6 n7 => ?_, fun q hv _ => ?_, fun e he => ?_, ⟨fun _ => ?_, fun m hm => ?_⟩, zmT_to b6 e0 (fun r r1 r2 => zVrem_r (by omega) (by omega) (by omega) (by omega))⟩
  · rw [zva_to e0, hS]
    by_cases z : q = q0
    · rw [if_pos z, z, k0]; exact ⟨fun _ => rfl, fun _ => by decide⟩
    · rw [if_neg z, k1 1 q z (by omega)]; exact b2 q hq
  · rw [zva_to e0] at hv
    have z : q ≠ q0 := fun z => n0 (by rw [z]; exact k0)
    rw [k1 1 q z (by omega)] at n0 n5 n6 n7
    rw [k1 1 q z (by omega), k1 2 q z (by omega), k1 3 q z (by omega), (hF q).1]
    obtain ⟨c1, c2, c3⟩ := b3 q hv
    obtain ⟨c4, c5⟩ := c1 n0 n5 n6 n7
    exact Or.inr (Or.inr ⟨by omega, by omega, ((b2 q (zva.lt hV hv).1).1 hv).symm, fun h8 => (c4 h8).symm, fun h4 => ⟨(c3 n0 h4 n5 n6).symm, c5 h4⟩⟩)
  · rw [zva_to e0] at hv
    by_cases z : q = q0
    · rw [z, k0]; exact ⟨fun y => absurd y (by decide), fun y => absurd rfl y⟩
    · rw [k1 1 q z (by omega), k1 2 q z (by omega), k1 4 q z (by omega), (hF q).1]
      exact (b3 q hv).2
  · rw [e0] at he
    obtain ⟨e1, e2⟩ := b4 e he
    rw [wh 5 e (by omega)]
    refine ⟨e1, ?_⟩
    obtain ⟨p, hp⟩ := Int.eq_ofNat_of_zero_le e1.1
    rw [hp] at e1 e2 ⊢
    rw [(hF p).2]
    by_cases z : V 5 e = (q0 : Int)
    · rw [if_pos z]; exact Or.inl ⟨by omega, rfl⟩
    · rw [if_neg z]; exact Or.inr ⟨by omega, by omega, by omega⟩
  · rw [h45, (hF q0).1, show (144 * σ 58 13 + (q0 : Int)).toNat = 144 * (σ 58 13).toNat + q0 by omega, (b2 q0 hl0).1 hq0, e0]
    obtain ⟨v1, v2, v3, v4, v5, v6, v7, v8⟩ := hV.2.2.1 q0 hq0
    refine ⟨by omega, fun z => ?_⟩
    rw [(b3 q0 hq0).2.2 (by omega) (by omega) (by omega) (by omega)]
    exact (v7 (by omega)).1
  · rw [e0] at hm
    rw [h45, (hF q0).1, show (144 * σ 58 13 + (q0 : Int)).toNat = 144 * (σ 58 13).toNat + q0 by omega, (b2 q0 hl0).1 hq0, wh 6 m (by omega)]
    obtain ⟨v1, v2, v3, v4, v5, v6, v7, v8⟩ := hV.2.2.1 q0 hq0
    have hm6 := b5 m hm
    constructor
    · intro z
      by_cases y : V 6 m = (q0 : Int)
      · rcases hV.2.2.2.2.1 m hm with x | ⟨x1, x2, x3, x4⟩
        · exact absurd x hm6
        · rw [y, Int.toNat_natCast] at x3 x4
          refine ⟨by omega, by omega, ?_⟩
          rw [(b3 q0 hq0).2.2 (by omega) (by omega) (by omega) (by omega)]; exact x4
      · rw [if_neg y] at z; exact absurd z hm6
    · rintro ⟨-, z1, z2⟩
      rw [(b3 q0 hq0).2.2 (by omega) (by omega) (by omega) (by omega)] at z2
      have := (v7 (by omega)).2.2
      rw [z2, Int.toNat_natCast] at this
      rw [if_pos this]
/-- a piece more -/
theorem zMV_add {σ V : zPH} {q0 : Nat} {s f : Int} (hV : zVd V) (hb : zmBs σ V) (h45 : σ 58 45 = -1) (h46 : σ 58 46 = (q0 : Int)) (h47 : σ 58 47 = s) (h48 : σ 58 48 = f) (h49 : σ 58 49 = -1) (h50 : σ 58 50 = -1) (h51 : σ 58 51 = -1) (hq0 : zva V q0) (hs : s = 2 ∨ s = 6) : zMV σ (zVadd V q0 s f) := by
  have e0 : zVadd V q0 s f 0 = V 0 := zVadd_r (by decide) (by decide) (by decide)
  have hl0 := (zva.lt hV hq0).1
  have k1 : ∀ r k, k ≠ q0 → zVadd V q0 s f r k = V r k := fun r k h => zVadd_k h
  have ks : zVadd V q0 s f 1 q0 = s := by simp [zVadd]
  have kn : zVadd V q0 s f 2 q0 = -1 := by simp [zVadd]
  have kf : zVadd V q0 s f 3 q0 = f := by simp [zVadd]
  obtain ⟨b0, b1, b2, b3, b4, b5, b6⟩ := hb
  have hF : ∀ q : Nat, _ := fun q => zmF_b b0 (q := q) (by omega) (by omega)
  have hS : ∀ q : Nat, zmS σ q = if q = q0 then s else σ 67 (144 * (σ 58 13).toNat + q) := fun q => by
    unfold zmS
    by_cases z : q = q0
    · rw [if_neg (by omega), if_pos (by omega), if_pos z, h47]
    · rw [if_neg (by omega), if_neg (by omega), if_neg z, (hF q).1]
  refine ⟨⟨b0, by omega, by omega, by omega, by omega, by omega, by omega⟩, by unfold zmB; rw [e0]; exact b1, fun q hq => ?_, fun q hv n0 n5 n6 n7 => ?_, fun q hv hne => ?_, fun e he => ?_, ⟨fun z => absurd h45 z, fun m hm => ?_⟩, zmT_to b6 e0 (fun r r1 r2 => zVadd_r (by omega) (by omega) (by omega))⟩
  · rw [zva_to e0, hS]
    by_cases z : q = q0
    · rw [if_pos z, z, ks]; exact ⟨fun _ => rfl, fun y => absurd hq0 y⟩
    · rw [if_neg z, k1 1 q z]; exact b2 q hq
  · rw [zva_to e0] at hv
    by_cases z : q = q0
    · rw [z, ks, kn, kf]; exact Or.inl ⟨by omega, h48.symm, rfl⟩
    · rw [k1 1 q z] at n0 n5 n6 n7
      rw [k1 1 q z, k1 2 q z, k1 3 q z, (hF q).1]
      obtain ⟨c1, c2, c3⟩ := b3 q hv
      obtain ⟨c4, c5⟩ := c1 n0 n5 n6 n7
      exact Or.inr (Or.inr ⟨by omega, by omega, ((b2 q (zva.lt hV hv).1).1 hv).symm, fun h8 => (c4 h8).symm, fun h4 => ⟨(c3 n0 h4 n5 n6).symm, c5 h4⟩⟩)
  · rw [zva_to e0] at hv
    have z : q ≠ q0 := fun z => hne (by omega)
    rw [k1 1 q z, k1 2 q z, k1 4 q z, (hF q).1]
    exact (b3 q hv).2
  · rw [e0] at he
    obtain ⟨e1, e2⟩ := b4 e he
    rw [show zVadd V q0 s f 5 = V 5 from zVadd_r (by decide) (by decide) (by decide)]
    refine ⟨e1, Or.inr ?_⟩
    obtain ⟨p, hp⟩ := Int.eq_ofNat_of_zero_le e1.1
    rw [hp] at e1 e2 ⊢
    rw [(hF p).2]
    omega
  · rw [e0] at hm
    rw [show zVadd V q0 s f 6 = V 6 from zVadd_r (by decide) (by decide) (by decide)]
    exact ⟨fun z => absurd z (b5 m hm), fun z => absurd h45 z.1⟩
/-- a glass of another colour -/
theorem zMV_tin {σ V : zPH} {q0 : Nat} {c : Int} (hV : zVd V) (hb : zmBs σ V) (h45 : σ 58 45 = -1) (h46 : σ 58 46 = -1) (h49 : σ 58 49 = -1) (h50 : σ 58 50 = -1) (h51 : σ 58 51 = (q0 : Int)) (h52 : σ 58 52 = c) (hq0 : zva V q0) (h4 : V 1 q0 = 4) : zMV σ (zVtin V q0 c) := by
  have e0 : zVtin V q0 c 0 = V 0 := zVtin_r (by decide)
  have hl0 := (zva.lt hV hq0).1
  have rr : ∀ r, r ≠ 3 → zVtin V q0 c r = V r := fun r hr => zVtin_r hr
  have k1 : ∀ k, k ≠ q0 → zVtin V q0 c 3 k = V 3 k := fun k h => zVtin_k h
  have kf : zVtin V q0 c 3 q0 = c := by simp [zVtin]
  obtain ⟨b0, b1, b2, b3, b4, b5, b6⟩ := hb
  have hF : ∀ q : Nat, _ := fun q => zmF_b b0 (q := q) (by omega) (by omega)
  have hS : ∀ q : Nat, zmS σ q = σ 67 (144 * (σ 58 13).toNat + q) := fun q => by unfold zmS; rw [if_neg (by omega), if_neg (by omega), (hF q).1]
  refine ⟨⟨b0, by omega, by omega, by omega, by omega, by omega, by omega⟩, by unfold zmB; rw [e0]; exact b1, fun q hq => ?_, fun q hv n0 n5 n6 n7 => ?_, fun q hv hne => ?_, fun e he => ?_, ⟨fun z => absurd h45 z, fun m hm => ?_⟩, zmT_to b6 e0 (fun r r1 r2 => rr r (by omega))⟩
  · rw [zva_to e0, hS, rr 1 (by decide)]; exact b2 q hq
  · rw [zva_to e0] at hv
    rw [rr 1 (by decide)] at n0 n5 n6 n7
    rw [rr 1 (by decide), rr 2 (by decide)]
    by_cases z : q = q0
    · rw [z, kf]; exact Or.inr (Or.inl ⟨by omega, by omega, h4, h52.symm⟩)
    · rw [k1 q z, (hF q).1]
      obtain ⟨c1, c2, c3⟩ := b3 q hv
      obtain ⟨c4, c5⟩ := c1 n0 n5 n6 n7
      exact Or.inr (Or.inr ⟨by omega, by omega, ((b2 q (zva.lt hV hv).1).1 hv).symm, fun h8 => (c4 h8).symm, fun h4 => ⟨(c3 n0 h4 n5 n6).symm, c5 h4⟩⟩)
  · rw [zva_to e0] at hv
    rw [rr 1 (by decide), rr 2 (by decide), rr 4 (by decide), (hF q).1]
    exact (b3 q hv).2
  · rw [e0] at he
    obtain ⟨e1, e2⟩ := b4 e he
    rw [rr 5 (by decide)]
    refine ⟨e1, Or.inr ?_⟩
    obtain ⟨p, hp⟩ := Int.eq_ofNat_of_zero_le e1.1
    rw [hp] at e1 e2 ⊢
    rw [(hF p).2]
    omega
  · rw [e0] at hm
    rw [rr 6 (by decide)]
    exact ⟨fun z => absurd z (b5 m hm), fun z => absurd h45 z.1⟩
/-- two squares that change places -/
theorem zMV_swp {σ V : zPH} {a b : Nat} (hV : zVd V) (hb : zmBs σ V) (h45 : σ 58 45 = -1) (h46 : σ 58 46 = -1) (h49 : σ 58 49 = (a : Int)) (h50 : σ 58 50 = (b : Int)) (h51 : σ 58 51 = -1) (ha : zva V a) (hbv : zva V b) (hab : a ≠ b) : zMV σ (zVswp V a b) := by
  have e0 : zVswp V a b 0 = V 0 := zVswp_r (Or.inl rfl)
  have hla := (zva.lt hV ha).1
  have hlb := (zva.lt hV hbv).1
  obtain ⟨b0, b1, b2, b3, b4, b5, b6⟩ := hb
  obtain ⟨sw, hsw⟩ : ∃ sw : Nat → Nat, ∀ q, sw q = if q = a then b else if q = b then a else q := ⟨_, fun _ => rfl⟩
  have k1 : ∀ r k, (r = 1 ∨ r = 2 ∨ r = 3 ∨ r = 4) → zVswp V a b r k = V r (sw k) := fun r k h => by
    unfold zVswp; rw [if_pos h, hsw]
    split
    · rfl
    · split <;> rfl
  have wh : ∀ r k : Nat, (r = 5 ∨ r = 6 ∨ r = 12) → zVswp V a b r k = if V r k = (a : Int) then (b : Int) else if V r k = (b : Int) then (a : Int) else V r k := fun r k h => by
    unfold zVswp; rw [if_neg (by omega), if_pos h]
  have hva : ∀ q, zva V q → zva V (sw q) := fun q hq => by
    rw [hsw]; split
    · exact hbv
    · split
      · exact ha
      · exact hq
  have hF : ∀ q : Nat, (zmF σ (q : Int)).toNat = 144 * (σ 58 13).toNat + sw q ∧ zmF σ (q : Int) = 144 * σ 58 13 + (sw q : Int) := fun q => by
    unfold zmF
    rw [hsw, h49, h50]
    by_cases z : q = a
    · rw [if_pos (by omega), if_pos z]; omega
    · by_cases z2 : q = b
      · rw [if_neg (by omega), if_pos (by omega), if_neg z, if_pos z2]; omega
      · rw [if_neg (by omega), if_neg (by omega), if_neg z, if_neg z2]; omega
  have hS : ∀ q : Nat, zmS σ q = σ 67 (144 * (σ 58 13).toNat + sw q) := fun q => by unfold zmS; rw [if_neg (by omega), if_neg (by omega), (hF q).1]
  refine ⟨⟨b0, by omega, by omega, by omega, by omega, by omega, by omega⟩, by unfold zmB; rw [e0]; exact b1, fun q hq => ?_, fun q hv n0 n5 n6 n7 => ?_, fun q hv hne => ?_, fun e he => ?_, ⟨fun z => absurd h45 z, fun m hm => ?_⟩, zmT_to b6 e0 (fun r r1 r2 => zVswp_r (by omega))⟩
  · rw [zva_to e0, hS, k1 1 q (by omega)]
    refine ⟨fun y => (b2 _ (zva.lt hV (hva q y)).1).1 (hva q y), fun y => ?_⟩
    have : sw q = q := by
      rw [hsw, if_neg (fun z => y (by rw [z]; exact ha)), if_neg (fun z => y (by rw [z]; exact hbv))]
    rw [this]; exact (b2 q hq).2 y
  · rw [zva_to e0] at hv
    rw [k1 1 q (by omega)] at n0 n5 n6 n7
    rw [k1 1 q (by omega), k1 2 q (by omega), k1 3 q (by omega), (hF q).1]
    obtain ⟨c1, c2, c3⟩ := b3 _ (hva q hv)
    obtain ⟨c4, c5⟩ := c1 n0 n5 n6 n7
    exact Or.inr (Or.inr ⟨by omega, by omega, ((b2 _ (zva.lt hV (hva q hv)).1).1 (hva q hv)).symm, fun h8 => (c4 h8).symm, fun h4 => ⟨(c3 n0 h4 n5 n6).symm, c5 h4⟩⟩)
  · rw [zva_to e0] at hv
    rw [k1 1 q (by omega), k1 2 q (by omega), k1 4 q (by omega), (hF q).1]
    exact (b3 _ (hva q hv)).2
  · rw [e0] at he
    obtain ⟨e1, e2⟩ := b4 e he
    rw [wh 5 e (by omega)]
    refine ⟨e1, Or.inr ?_⟩
    obtain ⟨p, hp⟩ := Int.eq_ofNat_of_zero_le e1.1
    rw [hp] at e1 e2 ⊢
    rw [(hF p).2, e2, hsw]
    by_cases z : p = a
    · rw [if_pos z, if_pos (by omega)]; omega
    · by_cases z2 : p = b
      · rw [if_neg z, if_pos z2, if_neg (by omega), if_pos (by omega)]; omega
      · rw [if_neg z, if_neg z2, if_neg (by omega), if_neg (by omega)]; omega
  · rw [e0] at hm
    have h6 := b5 m hm
    rw [wh 6 m (by omega)]
    refine ⟨fun z => ?_, fun z => absurd h45 z.1⟩
    split at z
    · omega
    · split at z
      · omega
      · exact absurd z h6
