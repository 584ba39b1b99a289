theorem s_L_comesAgain {G : zG} {σ : zPH} {X : zX} {a t : Nat} (ha : zisL a) (ht : zisT t) (hL : zLG σ a) (hT : zTs σ t) {tu st c : Int} {n : Nat} {z : Int} (hz : z = (n : Int)) (htu : 0 ≤ tu ∧ tu < 2147483648) (hst : 0 ≤ st ∧ st < 2147483648) (hn : n < 576) (hc : 0 ≤ c ∧ c < 8)
    (hX : ∀ (σ' : zPH), zLG σ' a → zFs σ σ' a → ((∃ b, zbt c b ∧ zRe (zcS σ t tu st b n) (zcS σ t tu st b) n) → X (some (iZ 1)) σ') ∧ ((¬ ∃ b, zbt c b ∧ zRe (zcS σ t tu st b n) (zcS σ t tu st b) n) → X (some (iZ 0)) σ')) : MS G zm_L_comesAgain 3 [zr G a, zr G t, iZ tu, iZ st, iZ z, iZ c] σ X := by
  subst hz
  refine k_L_comesAgain ha ht ?_
  refine s_L_darken ha hL (fun σ0 g0 r0 f0 ar0 in0 => ⟨rfl, ?_⟩)
  rintro σ6 e6 σ11 e11
  have r11 : ∀ q, q ≠ a → q ≠ a + 1 → σ11 q = σ q := fun q h1 h2 => by rw [e11, zupd_row h1, e6, zupd_row h1, r0 q h1 h2]
  have f11 : σ11 a 6 = tu ∧ σ11 a 7 = st ∧ σ11 a 3 = 0 ∧ ∀ n, σ11 (a + 1) n = 0 := by
    refine ⟨by rw [e11, zupd_nk (by decide), e6, zupd_same], by rw [e11, zupd_same], by rw [e11, zupd_nk (by decide), e6, zupd_nk (by decide), ar0], fun n => by rw [e11, zupd_row (by omega), e6, zupd_row (by omega), in0]⟩
  have g11 : zLG σ11 a := ⟨by rw [f11.2.2.1]; omega, fun n => by rw [f11.2.2.2]; decide, fun j => by rw [r11 _ (by omega) (by omega)]; exact hL.2.2.1 j, fun j hj => by rw [f11.2.2.1] at hj; omega, fun n b hb => by rw [f11.2.2.2] at hb; exact absurd hb zbt_0, by rw [f11.2.2.1]; exact (zpc_le _ _).1, by rw [f11.1]; exact htu, by rw [f11.2.1]; exact hst⟩
  have tb : ∀ q, t ≤ q → q ≤ t + 12 → σ11 q = σ q := fun q h1 h2 => by
    have e := zLs3 ha ht h1 h2
    rw [r11 q e.1 e.2.1]
  refine s_L_pass ha ht g11 (hT.to tb) rfl hn hc (fun σ1 g1 d1 => ⟨rfl, ?_⟩)
  rw [f11.1, f11.2.1] at d1
  have F1 := d1.fa
  have tb1 : ∀ q, t ≤ q → q ≤ t + 12 → σ1 q = σ q := fun q h1 h2 => by rw [F1.tab ha ht h1 h2, tb q h1 h2]
  have e6' : σ1 a 6 = tu := by rw [F1.2 6 (by decide), f11.1]
  have e7' : σ1 a 7 = st := by rw [F1.2 7 (by decide), f11.2.1]
  have hsrc : ∀ m b, zbt (σ1 (a + 1) m) b ↔ (zbt c b ∧ zcS σ t tu st b n m) := fun m b => by
    rw [d1.2.2.2.2.1, f11.2.2.2]
    simp only [zbt_0, false_or, zcS_to tb]
  refine s_L_spread ha ht g1 (hT.to tb1) (zCl (fun b m => zbt c b ∧ zcS σ t tu st b n m) (zcS σ t tu st) a) (zCl_0 g1 hsrc) (fun i σ3 σ4 hI g3 _ hlt d g4 => zCl_s hI g3 hlt (d.to fun m b => by rw [zcS_to tb1, e6', e7'])) (fun j σ2 hI g2 F2 hj => ⟨rfl, ?_⟩)
  have fin := zCl_e hI g2 hj
  have hr : ∀ b, zRe (fun m => zbt c b ∧ zcS σ t tu st b n m) (zcS σ t tu st b) n ↔ zbt c b ∧ zRe (zcS σ t tu st b n) (zcS σ t tu st b) n := fun b => by
    constructor
    · intro h
      have hb : zbt c b := h.ind (P := fun _ => zbt c b) (fun _ q => q.1) (fun _ _ _ q _ => q)
      exact ⟨hb, h.ind (P := fun m => zRe (zcS σ t tu st b n) (zcS σ t tu st b) m) (fun _ q => zRe.src q.2) (fun _ _ _ q hs => q.step hs)⟩
    · rintro ⟨hb, h⟩
      exact h.ind (P := fun m => zRe (fun m => zbt c b ∧ zcS σ t tu st b n m) (zcS σ t tu st b) m) (fun _ q => zRe.src ⟨hb, q⟩) (fun _ _ _ q hs => q.step hs)
  have fs : zFs σ σ2 a := fun q q1 q2 q3 q4 q5 => by rw [F2.1 q q1 q2 q4 q5, F1.1 q q1 q2 q4 q5, r11 q q1 q2]
  have hx := hX σ2 g2 fs
  have hne := zbt_ne0 (g2.2.1 n).1
  have hb8 := g2.2.1 n
  refine ⟨by omega, by rw [Int.toNat_natCast]; omega, fun h => hx.2 ?_, fun h => hx.1 ?_⟩
  · rw [Int.toNat_natCast] at h
    rintro ⟨b, q⟩
    exact hne.mpr ⟨b, (fin n b).mpr ((hr b).mpr q)⟩ h
  · rw [Int.toNat_natCast] at h
    obtain ⟨b, q⟩ := hne.mp h
    exact ⟨b, (hr b).mp ((fin n b).mp q)⟩
/-- the least of what is told of a square's four nodes -/
def zLe4 (into far : Nat → Int) (q : Nat) (n : Nat) (r : Int) : Prop := (r = -1 ∧ ∀ w : Nat, w < n → into (4 * q + w) = 0) ∨ (1 ≤ r ∧ (∃ w : Nat, w < n ∧ into (4 * q + w) ≠ 0 ∧ far (4 * q + w) = r) ∧ ∀ w : Nat, w < n → into (4 * q + w) ≠ 0 → r ≤ far (4 * q + w))
theorem s_L_leastTo {G : zG} {σ : zPH} {X : zX} {a : Nat} (ha : zisL a) (hL : zLG σ a) {q : Nat} {z : Int} (hz : z = (q : Int)) (hq : q < 144) (hf : ∀ n, σ (a + 1) n ≠ 0 → 1 ≤ σ (a + 4) n ∧ σ (a + 4) n < 2000) (hX : ∀ r, zLe4 (σ (a + 1)) (σ (a + 4)) q 4 r → X (some (iZ r)) σ) : MS G zm_L_leastTo 0 [zr G a, iZ z] σ X := by
  subst hz
  refine k_L_leastTo ha ?_
  refine zLP2_ind (fun r x σ1 => σ1 = σ ∧ ∃ i : Nat, x = (i : Int) ∧ i ≤ 4 ∧ zLe4 (σ (a + 1)) (σ (a + 4)) q i r) (fun _ x _ => (4 - x).toNat) ?_ ⟨rfl, 0, rfl, by omega, Or.inl ⟨rfl, fun w hw => by omega⟩⟩
  rintro K r x σ1 ⟨rfl, i, rfl, hi, hr⟩ hK
  refine ⟨by omega, fun h => hX r (by rw [show i = 4 by omega] at hr; exact hr), fun h => ⟨by omega, fun h2 => by omega, fun _ => ?_⟩⟩
  rintro x4 e4
  have e4' : x4.toNat = 4 * q + i := by omega
  have hb := hL.2.1 (4 * q + i)
  have hfar := hf (4 * q + i)
  have hr2 : -1 ≤ r ∧ r < 2000 := by
    rcases hr with ⟨h1, -⟩ | ⟨h1, ⟨w, w1, w2, w3⟩, -⟩
    · omega
    · have := hf _ w2; omega
  refine ⟨by omega, by rw [e4']; omega, fun h0 => ?_, fun h0 => ⟨by omega, fun hn => ?_, fun hn => ⟨by omega, by rw [e4']; rw [e4'] at h0; have := hfar h0; omega, fun hle => ?_, fun hlt => ?_⟩⟩⟩
  · rw [e4'] at h0
    refine hK _ _ _ ⟨rfl, i + 1, by omega, by omega, ?_⟩ (by omega)
    rcases hr with ⟨h1, h2⟩ | ⟨h1, ⟨w, w1, w2, w3⟩, h3⟩
    · refine Or.inl ⟨h1, fun w hw => ?_⟩
      rcases (show w < i ∨ w = i by omega) with q | rfl
      · exact h2 w q
      · exact h0
    · refine Or.inr ⟨h1, ⟨w, by omega, w2, w3⟩, fun w hw hne => ?_⟩
      rcases (show w < i ∨ w = i by omega) with q | rfl
      · exact h3 w q hne
      · exact absurd h0 hne
  · rw [e4'] at h0
    refine ⟨by omega, ?_⟩
    rintro x2 e2
    rw [e4'] at e2
    refine hK _ _ _ ⟨rfl, i + 1, by omega, by omega, Or.inr ⟨by rw [e2]; exact (hfar h0).1, ⟨i, by omega, h0, e2.symm⟩, fun w hw hne => ?_⟩⟩ (by omega)
    rcases (show w < i ∨ w = i by omega) with q | rfl
    · rcases hr with ⟨h1, h2⟩ | ⟨h1, -⟩
      · exact absurd (h2 w q) hne
      · omega
    · omega
  · rw [e4'] at h0 hle
    refine hK _ _ _ ⟨rfl, i + 1, by omega, by omega, ?_⟩ (by omega)
    rcases hr with ⟨h1, h2⟩ | ⟨h1, ⟨w, w1, w2, w3⟩, h3⟩
    · omega
    · refine Or.inr ⟨h1, ⟨w, by omega, w2, w3⟩, fun w hw hne => ?_⟩
      rcases (show w < i ∨ w = i by omega) with q | rfl
      · exact h3 w q hne
      · exact hle
  · rw [e4'] at h0 hlt
    refine ⟨by omega, ?_⟩
    rintro x2 e2
    rw [e4'] at e2
    refine hK _ _ _ ⟨rfl, i + 1, by omega, by omega, Or.inr ⟨by rw [e2]; exact (hfar h0).1, ⟨i, by omega, h0, e2.symm⟩, fun w hw hne => ?_⟩⟩ (by omega)
    rcases (show w < i ∨ w = i by omega) with q | rfl
    · rcases hr with ⟨h1, h2⟩ | ⟨h1, -, h3⟩
      · exact absurd (h2 w q) hne
      · have := h3 w q hne; omega
    · omega
/-- light of one colour in the order of its way -/
def zBf (S : Nat → Prop) (s : Nat → Nat → Prop) (b0 a i : Nat) (σ1 : zPH) : Prop := (i : Int) ≤ σ1 a 3 ∧
  (∀ j : Nat, (j : Int) < σ1 a 3 → (∀ b, zbt (σ1 (a + 3) j % 8) b ↔ b = b0) ∧ 1 ≤ σ1 (a + 4) (σ1 (a + 3) j / 8).toNat ∧ σ1 (a + 4) (σ1 (a + 3) j / 8).toNat ≤ (j : Int) + 1 ∧ zRk S s (σ1 (a + 4) (σ1 (a + 3) j / 8).toNat - 1).toNat (σ1 (a + 3) j / 8).toNat) ∧
  (∀ j j' : Nat, j ≤ j' → (j' : Int) < σ1 a 3 → σ1 (a + 4) (σ1 (a + 3) j / 8).toNat ≤ σ1 (a + 4) (σ1 (a + 3) j' / 8).toNat) ∧
  ((i : Int) < σ1 a 3 → ∀ j : Nat, (j : Int) < σ1 a 3 → σ1 (a + 4) (σ1 (a + 3) j / 8).toNat ≤ σ1 (a + 4) (σ1 (a + 3) i / 8).toNat + 1) ∧
  (∀ j : Nat, j < i → ∀ n, s (σ1 (a + 3) j / 8).toNat n → σ1 (a + 1) n ≠ 0 ∧ σ1 (a + 4) n ≤ σ1 (a + 4) (σ1 (a + 3) j / 8).toNat + 1) ∧
  ∀ n, S n → σ1 (a + 1) n ≠ 0 ∧ σ1 (a + 4) n = 1
theorem zBf_0 {S : Nat → Prop} {s : Nat → Nat → Prop} {b0 a : Nat} {σ1 : zPH} (hG : zLG σ1 a) (h : ∀ m b, zbt (σ1 (a + 1) m) b ↔ b = b0 ∧ S m) (hf : ∀ m, σ1 (a + 1) m ≠ 0 → σ1 (a + 4) m = 1) : zBf S s b0 a 0 σ1 := by
  have lit : ∀ j : Nat, (j : Int) < σ1 a 3 → S (σ1 (a + 3) j / 8).toNat ∧ σ1 (a + 4) (σ1 (a + 3) j / 8).toNat = 1 ∧ ∀ b, zbt (σ1 (a + 3) j % 8) b ↔ b = b0 := fun j hj => by
    obtain ⟨h1, h2⟩ := hG.2.2.2.1 j hj
    have h3 := hG.2.2.1 j
    obtain ⟨b, hb⟩ := (zbt_ne0 (show 0 ≤ σ1 (a + 3) j % 8 by omega)).mp h1
    have h4 := (h _ b).mp (h2 b hb)
    refine ⟨h4.2, hf _ ((zbt_ne0 (hG.2.1 _).1).mpr ⟨b, h2 b hb⟩), fun b' => ⟨fun q => ((h _ b').mp (h2 b' q)).1, fun q => by rw [q, ← h4.1]; exact hb⟩⟩
  refine ⟨hG.1.1, fun j hj => ?_, fun j j' h1 h2 => ?_, fun h1 j hj => ?_, fun j hj => by omega, fun n hn => ?_⟩
  · obtain ⟨h1, h2, h3⟩ := lit j hj
    exact ⟨h3, by omega, by omega, by rw [h2]; exact h1⟩
  · have := lit j (by omega); have := lit j' h2; omega
  · have := lit j hj; have := lit 0 h1; omega
  · have hne : σ1 (a + 1) n ≠ 0 := (zbt_ne0 (hG.2.1 _).1).mpr ⟨b0, (h n b0).mpr ⟨rfl, hn⟩⟩
    exact ⟨hne, hf n hne⟩
theorem zBf_s {S : Nat → Prop} {s : Nat → Nat → Prop} {b0 a i : Nat} {σ1 σ2 : zPH} (h : zBf S s b0 a i σ1) (hG : zLG σ1 a) (hG2 : zLG σ2 a) (hi : (i : Int) < σ1 a 3) (d : zSd σ1 σ2 a (fun m b => zbt (σ1 (a + 3) i % 8) b ∧ s (σ1 (a + 3) i / 8).toNat m) (σ1 (a + 4) (σ1 (a + 3) i / 8).toNat + 1)) : zBf S s b0 a (i + 1) σ2 := by
  obtain ⟨c0, c1, c2, c3, c4, c5⟩ := h
  obtain ⟨d1, d2, d3, d4, d5, d6, d7, d8⟩ := d
  have c3 := c3 hi
  obtain ⟨ci1, ci2, ci3, ci4⟩ := c1 i hi
  have mono : ∀ m, σ1 (a + 1) m ≠ 0 → σ2 (a + 1) m ≠ 0 ∧ σ2 (a + 4) m = σ1 (a + 4) m := fun m hm => by
    obtain ⟨b, hb⟩ := (zbt_ne0 (hG.2.1 m).1).mp hm
    exact ⟨(zbt_ne0 (hG2.2.1 m).1).mpr ⟨b, (d5 m b).mpr (Or.inl hb)⟩, d6 m hm⟩
  have litj : ∀ j : Nat, (j : Int) < σ1 a 3 → σ1 (a + 1) (σ1 (a + 3) j / 8).toNat ≠ 0 := fun j hj => by
    obtain ⟨h1, h2⟩ := hG.2.2.2.1 j hj
    obtain ⟨b, hb⟩ := (zbt_ne0 (show 0 ≤ σ1 (a + 3) j % 8 by have := hG.2.2.1 j; omega)).mp h1
    exact (zbt_ne0 (hG.2.1 _).1).mpr ⟨b, h2 b hb⟩
  have one : ∀ m b, zbt (σ1 (a + 1) m) b → b = b0 := fun m b hb => by
    obtain ⟨j, j1, j2, j3⟩ := hG.2.2.2.2.1 m b hb
    exact ((c1 j j1).1 b).mp j3
  -- old entries
  have old : ∀ j : Nat, (j : Int) < σ1 a 3 → σ2 (a + 3) j = σ1 (a + 3) j ∧ σ2 (a + 4) (σ1 (a + 3) j / 8).toNat = σ1 (a + 4) (σ1 (a + 3) j / 8).toNat := fun j hj => ⟨d4 j hj, (mono _ (litj j hj)).2⟩
  -- new entries
  have new : ∀ j : Nat, σ1 a 3 ≤ (j : Int) → (j : Int) < σ2 a 3 → (∀ b, zbt (σ2 (a + 3) j % 8) b ↔ b = b0) ∧ s (σ1 (a + 3) i / 8).toNat (σ2 (a + 3) j / 8).toNat ∧ σ2 (a + 4) (σ2 (a + 3) j / 8).toNat = σ1 (a + 4) (σ1 (a + 3) i / 8).toNat + 1 := fun j hj1 hj2 => by
    obtain ⟨h1, h2⟩ := hG2.2.2.2.1 j hj2
    obtain ⟨b, hb⟩ := (zbt_ne0 (show 0 ≤ σ2 (a + 3) j % 8 by have := hG2.2.2.1 j; omega)).mp h1
    have h8 := fun b hb => d8 j hj1 hj2 b hb
    have hb0 : ∀ b, zbt (σ2 (a + 3) j % 8) b → b = b0 := fun b hb => (ci1 b).mp (h8 b hb).1.1
    have hdark : σ1 (a + 1) (σ2 (a + 3) j / 8).toNat = 0 := by
      apply Classical.byContradiction
      intro q
      obtain ⟨b', hb'⟩ := (zbt_ne0 (hG.2.1 _).1).mp q
      have e1 := one _ b' hb'
      have e2 := hb0 b hb
      rw [e1, ← e2] at hb'
      exact (h8 b hb).2 hb'
    refine ⟨fun b' => ⟨hb0 b', fun q => by rw [q, ← hb0 b hb]; exact hb⟩, (h8 b hb).1.2, d7 _ hdark ((zbt_ne0 (hG2.2.1 _).1).mpr ⟨b, h2 b hb⟩)⟩
  have val : ∀ j : Nat, (j : Int) < σ2 a 3 → (((j : Int) < σ1 a 3 ∧ σ2 (a + 4) (σ2 (a + 3) j / 8).toNat = σ1 (a + 4) (σ1 (a + 3) j / 8).toNat) ∨ (σ1 a 3 ≤ (j : Int) ∧ σ2 (a + 4) (σ2 (a + 3) j / 8).toNat = σ1 (a + 4) (σ1 (a + 3) i / 8).toNat + 1)) := fun j hj => by
    by_cases q : (j : Int) < σ1 a 3
    · obtain ⟨o1, o2⟩ := old j q
      exact Or.inl ⟨q, by rw [o1, o2]⟩
    · exact Or.inr ⟨by omega, (new j (by omega) hj).2.2⟩
  refine ⟨by omega, fun j hj => ?_, fun j j' h1 h2 => ?_, fun h1 j hj => ?_, fun j hj n hn => ?_, fun n hn => ?_⟩
  · by_cases q : (j : Int) < σ1 a 3
    · obtain ⟨o1, o2⟩ := old j q
      rw [o1, o2]
      exact c1 j q
    · obtain ⟨n1, n2, n3⟩ := new j (by omega) hj
      refine ⟨n1, by rw [n3]; omega, by rw [n3]; omega, ?_⟩
      rw [n3, show (σ1 (a + 4) (σ1 (a + 3) i / 8).toNat + 1 - 1).toNat = (σ1 (a + 4) (σ1 (a + 3) i / 8).toNat - 1).toNat + 1 by omega]
      exact Or.inr ⟨_, ci4, n2⟩
  · rcases val j (by omega) with ⟨q1, q2⟩ | ⟨q1, q2⟩ <;> rcases val j' h2 with ⟨q3, q4⟩ | ⟨q3, q4⟩
    · rw [q2, q4]; exact c2 j j' h1 q3
    · rw [q2, q4]; exact c3 j q1
    · omega
    · omega
  · have hi1 : σ1 (a + 4) (σ1 (a + 3) i / 8).toNat ≤ σ2 (a + 4) (σ2 (a + 3) (i + 1) / 8).toNat := by
      rcases val (i + 1) h1 with ⟨q1, q2⟩ | ⟨q1, q2⟩
      · rw [q2]; exact c2 i (i + 1) (by omega) q1
      · omega
    rcases val j hj with ⟨q1, q2⟩ | ⟨q1, q2⟩
    · have := c3 j q1; omega
    · omega
  · have hjlt : (j : Int) < σ1 a 3 := by omega
    obtain ⟨o1, o2⟩ := old j hjlt
    rw [o1] at hn ⊢
    rw [o2]
    rcases (show j < i ∨ j = i by omega) with q | rfl
    · obtain ⟨p1, p2⟩ := c4 j q n hn
      obtain ⟨m1, m2⟩ := mono n p1
      exact ⟨m1, by rw [m2]; exact p2⟩
    · by_cases hd : σ1 (a + 1) n = 0
      · have hne : σ2 (a + 1) n ≠ 0 := (zbt_ne0 (hG2.2.1 _).1).mpr ⟨b0, (d5 n b0).mpr (Or.inr ⟨(ci1 b0).mpr rfl, hn⟩)⟩
        exact ⟨hne, by rw [d7 n hd hne]; omega⟩
      · obtain ⟨m1, m2⟩ := mono n hd
        refine ⟨m1, ?_⟩
        rw [m2]
        obtain ⟨b, hb⟩ := (zbt_ne0 (hG.2.1 _).1).mp hd
        obtain ⟨k, k1, k2, k3⟩ := hG.2.2.2.2.1 n b hb
        have := c3 k k1
        rw [k2, Int.toNat_natCast] at this
        exact this
  · obtain ⟨p1, p2⟩ := c5 n hn
    obtain ⟨m1, m2⟩ := mono n p1
    exact ⟨m1, by rw [m2]; exact p2⟩
/-- how far a node is: r squares -/
def zDi (S : Nat → Prop) (s : Nat → Nat → Prop) (n : Nat) (r : Int) : Prop := 1 ≤ r ∧ zRk S s (r - 1).toNat n ∧ ∀ k : Nat, zRk S s k n → r ≤ (k : Int) + 1
theorem zBf_e {S : Nat → Prop} {s : Nat → Nat → Prop} {b0 a i : Nat} {σ1 : zPH} (h : zBf S s b0 a i σ1) (hG : zLG σ1 a) (hi : σ1 a 3 ≤ (i : Int)) : (∀ n, σ1 (a + 1) n ≠ 0 ↔ zRe S s n) ∧ ∀ n, σ1 (a + 1) n ≠ 0 → zDi S s n (σ1 (a + 4) n) ∧ σ1 (a + 4) n ≤ 1728 := by
  obtain ⟨c0, c1, c2, c3, c4, c5⟩ := h
  have lit : ∀ n, σ1 (a + 1) n ≠ 0 → ∃ j : Nat, (j : Int) < σ1 a 3 ∧ (σ1 (a + 3) j / 8).toNat = n := fun n hn => by
    obtain ⟨b, hb⟩ := (zbt_ne0 (hG.2.1 _).1).mp hn
    obtain ⟨k, k1, k2, k3⟩ := hG.2.2.2.2.1 n b hb
    exact ⟨k, k1, by rw [k2, Int.toNat_natCast]⟩
  have key : ∀ (k n : Nat), zRk S s k n → σ1 (a + 1) n ≠ 0 ∧ σ1 (a + 4) n ≤ (k : Int) + 1 := by
    intro k
    induction k with
    | zero => intro n hn; obtain ⟨p1, p2⟩ := c5 n hn; exact ⟨p1, by omega⟩
    | succ k ih =>
      intro n hn
      rcases hn with hn | ⟨m, hm, hs⟩
      · obtain ⟨p1, p2⟩ := ih n hn; exact ⟨p1, by omega⟩
      · obtain ⟨p1, p2⟩ := ih m hm
        obtain ⟨j, j1, j2⟩ := lit m p1
        rw [← j2] at hs
        obtain ⟨q1, q2⟩ := c4 j (by omega) n hs
        rw [j2] at q2
        exact ⟨q1, by omega⟩
  refine ⟨fun n => ⟨fun hn => ?_, fun ⟨k, hk⟩ => (key k n hk).1⟩, fun n hn => ?_⟩
  · obtain ⟨j, j1, j2⟩ := lit n hn
    rw [← j2]
    exact ⟨_, (c1 j j1).2.2.2⟩
  · obtain ⟨j, j1, j2⟩ := lit n hn
    obtain ⟨-, q1, q2, q3⟩ := c1 j j1
    rw [j2] at q1 q2 q3
    have := hG.1.2
    exact ⟨⟨q1, q3, fun k hk => (key k n hk).2⟩, by omega⟩
