/-- come to in k steps at most -/
def zRk (S : Nat → Prop) (s : Nat → Nat → Prop) : Nat → Nat → Prop
  | 0 => S
  | k + 1 => fun n => zRk S s k n ∨ ∃ m, zRk S s k m ∧ s m n
def zRe (S : Nat → Prop) (s : Nat → Nat → Prop) (n : Nat) : Prop := ∃ k, zRk S s k n
theorem zRe.src {S : Nat → Prop} {s : Nat → Nat → Prop} {n : Nat} (h : S n) : zRe S s n := ⟨0, h⟩
theorem zRe.step {S : Nat → Prop} {s : Nat → Nat → Prop} {n m : Nat} (h : zRe S s n) (hs : s n m) : zRe S s m := by
  obtain ⟨k, hk⟩ := h
  exact ⟨k + 1, Or.inr ⟨n, hk, hs⟩⟩
theorem zRe.ind {S : Nat → Prop} {s : Nat → Nat → Prop} {P : Nat → Prop} (h0 : ∀ n, S n → P n) (h1 : ∀ n m, zRe S s n → P n → s n m → P m) {n : Nat} (h : zRe S s n) : P n := by
  obtain ⟨k, hk⟩ := h
  induction k generalizing n with
  | zero => exact h0 n hk
  | succ k ih =>
    rcases hk with hk | ⟨m, hm, hs⟩
    · exact ih hk
    · exact h1 m n ⟨k, hm⟩ (ih hm) hs
def zFs (σ σ' : zPH) (a : Nat) : Prop := ∀ q, q ≠ a → q ≠ a + 1 → q ≠ a + 2 → q ≠ a + 3 → q ≠ a + 4 → σ' q = σ q
theorem zFs.tab {σ σ' : zPH} {a t : Nat} (ha : zisL a) (ht : zisT t) (h : zFs σ σ' a) {q : Nat} (h1 : t ≤ q) (h2 : q ≤ t + 12) : σ' q = σ q := by
  obtain ⟨e1, e2, e3, e4, e5⟩ := zLs3 ha ht h1 h2
  exact h q e1 e2 e3 e4 e5
theorem zFs.trans {σ σ1 σ2 : zPH} {a : Nat} (h1 : zFs σ σ1 a) (h2 : zFs σ1 σ2 a) : zFs σ σ2 a := fun q a b c d e => by rw [h2 q a b c d e, h1 q a b c d e]
theorem zFs.rfl' {σ : zPH} {a : Nat} : zFs σ σ a := fun _ _ _ _ _ _ => rfl
/-- where the lamps send their light -/
def zcL (σ : zPH) (t : Nat) (lamps cols : Int) (b m : Nat) : Prop := ∃ l : Nat, (l : Int) < σ (t + 8) 0 ∧ lamps / 2 ^ l % 2 = 1 ∧ σ (t + 3) (σ (t + 9) l).toNat ≠ -1 ∧ zbt (σ (t + 6) (σ (t + 9) l).toNat) b ∧ zbt cols b ∧ σ (t + 1) (σ (t + 3) (σ (t + 9) l).toNat * 4 + σ (t + 7) (σ (t + 9) l).toNat).toNat = (m : Int)
/-- what the worklist keeps -/
def zCl (S : Nat → Nat → Prop) (s : Nat → Nat → Nat → Prop) (a i : Nat) (σ1 : zPH) : Prop := (i : Int) ≤ σ1 a 3 ∧ (∀ m b, zbt (σ1 (a + 1) m) b → zRe (S b) (s b) m) ∧ (∀ m b, S b m → zbt (σ1 (a + 1) m) b) ∧ ∀ j : Nat, j < i → ∀ b m, zbt (σ1 (a + 3) j % 8) b → s b (σ1 (a + 3) j / 8).toNat m → zbt (σ1 (a + 1) m) b
theorem zCl_0 {S : Nat → Nat → Prop} {s : Nat → Nat → Nat → Prop} {a : Nat} {σ1 : zPH} (hG : zLG σ1 a) (h : ∀ m b, zbt (σ1 (a + 1) m) b ↔ S b m) : zCl S s a 0 σ1 :=
  ⟨hG.1.1, fun m b hb => zRe.src ((h m b).mp hb), fun m b hb => (h m b).mpr hb, fun j hj => by omega⟩
theorem zCl_s {S : Nat → Nat → Prop} {s : Nat → Nat → Nat → Prop} {a i : Nat} {σ1 σ2 : zPH} {f : Int} (h : zCl S s a i σ1) (hG : zLG σ1 a) (hi : (i : Int) < σ1 a 3) (d : zSd σ1 σ2 a (fun m b => zbt (σ1 (a + 3) i % 8) b ∧ s b (σ1 (a + 3) i / 8).toNat m) f) : zCl S s a (i + 1) σ2 := by
  obtain ⟨c0, c1, c2, c3⟩ := h
  obtain ⟨d1, d2, d3, d4, d5, -⟩ := d
  refine ⟨by omega, fun m b hb => ?_, fun m b hb => (d5 m b).mpr (Or.inl (c2 m b hb)), fun j hj b m hb hm => ?_⟩
  · rcases (d5 m b).mp hb with q | ⟨q1, q2⟩
    · exact c1 m b q
    · exact (c1 _ b ((hG.2.2.2.1 i hi).2 b q1)).step q2
  · rw [d4 j (by omega)] at hb hm
    rw [d5]
    rcases (show j < i ∨ j = i by omega) with q | rfl
    · exact Or.inl (c3 j q b m hb hm)
    · exact Or.inr ⟨hb, hm⟩
theorem zCl_e {S : Nat → Nat → Prop} {s : Nat → Nat → Nat → Prop} {a i : Nat} {σ1 : zPH} (h : zCl S s a i σ1) (hG : zLG σ1 a) (hi : σ1 a 3 ≤ (i : Int)) : ∀ m b, zbt (σ1 (a + 1) m) b ↔ zRe (S b) (s b) m := by
  obtain ⟨c0, c1, c2, c3⟩ := h
  intro m b
  refine ⟨c1 m b, fun q => q.ind (P := fun m => zbt (σ1 (a + 1) m) b) (fun n hn => c2 n b hn) (fun n k _ hn hk => ?_)⟩
  obtain ⟨j, j1, j2, j3⟩ := hG.2.2.2.2.1 n b hn
  refine c3 j (by omega) b k j3 ?_
  rw [j2, Int.toNat_natCast]; exact hk
set_option maxHeartbeats 4000000 in
theorem s_L_shine {G : zG} {σ : zPH} {X : zX} {a t : Nat} (ha : zisL a) (ht : zisT t) (hL : zLG σ a) (hT : zTs σ t) {tu st lamps cols : Int} (htu : 0 ≤ tu ∧ tu < 2147483648) (hst : 0 ≤ st ∧ st < 2147483648) (hla : 0 ≤ lamps ∧ lamps < 2147483648) (hco : 0 ≤ cols ∧ cols < 8) (I : Nat → zPH → Prop)
    (h0 : ∀ σ1, zLG σ1 a → zFs σ σ1 a → (∀ m b, zbt (σ1 (a + 1) m) b ↔ zcL σ t lamps cols b m) → (∀ m, σ1 (a + 1) m ≠ 0 → σ1 (a + 4) m = 1) → I 0 σ1)
    (hs : ∀ (i : Nat) (σ1 σ2 : zPH), I i σ1 → zLG σ1 a → (i : Int) < σ1 a 3 → zSd σ1 σ2 a (fun m b => zbt (σ1 (a + 3) i % 8) b ∧ zcS σ t tu st b (σ1 (a + 3) i / 8).toNat m) (σ1 (a + 4) (σ1 (a + 3) i / 8).toNat + 1) → zLG σ2 a → I (i + 1) σ2)
    (hX : ∀ (i : Nat) (σ1 σ' : zPH), I i σ1 → zLG σ1 a → σ1 a 3 ≤ (i : Int) → zLG σ' a → zFs σ σ' a → σ' (a + 1) = σ1 (a + 1) → σ' (a + 3) = σ1 (a + 3) → σ' (a + 4) = σ1 (a + 4) → σ' a 3 = σ1 a 3 → (∀ e : Nat, (e : Int) < σ (t + 8) 3 → σ' (a + 2) e = zci σ' a (σ (t + 3) (σ (t + 9) (24 + e)).toNat)) → (0 ≤ σ' a 2 ∧ σ' a 2 < 2 ^ (σ (t + 8) 3).toNat) → (∀ e : Nat, zbt (σ' a 2) e ↔ (e : Int) < σ (t + 8) 3 ∧ σ' (a + 2) e ≠ 0) → X none σ') : MS G zm_L_shine 3 [zr G a, zr G t, iZ tu, iZ st, iZ lamps, iZ cols] σ X := by
  refine k_L_shine ha ht ?_
  refine s_L_darken ha hL (fun σ0 g0 r0 f0 ar0 in0 => ⟨rfl, ?_⟩)
  rintro σ6 e6 σ11 e11
  obtain ⟨hN, hPo, hSq, hPc, hdim, hMe, hCt, hCt2, hLm⟩ := id hT
  have r11 : ∀ q, q ≠ a → q ≠ a + 1 → σ11 q = σ q := fun q h1 h2 => by rw [e11, zupd_row h1, e6, zupd_row h1, r0 q h1 h2]
  have f11 : σ11 a 6 = tu ∧ σ11 a 7 = st ∧ σ11 a 3 = 0 ∧ ∀ n, σ11 (a + 1) n = 0 := by
    refine ⟨by rw [e11, zupd_nk (by decide), e6, zupd_same], by rw [e11, zupd_same], by rw [e11, zupd_nk (by decide), e6, zupd_nk (by decide), ar0], fun n => by rw [e11, zupd_row (by omega), e6, zupd_row (by omega), in0]⟩
  have g11 : zLG σ11 a := ⟨by rw [f11.2.2.1]; omega, fun n => by rw [f11.2.2.2]; decide, fun j => by rw [r11 _ (by omega) (by omega)]; exact hL.2.2.1 j, fun j hj => by rw [f11.2.2.1] at hj; omega, fun n b hb => by rw [f11.2.2.2] at hb; exact absurd hb zbt_0, by rw [f11.2.2.1]; exact (zpc_le _ _).1, by rw [f11.1]; exact htu, by rw [f11.2.1]; exact hst⟩
  have tabF : ∀ {σ1 : zPH}, zFa σ11 σ1 a → ∀ q, t ≤ q → q ≤ t + 12 → σ1 q = σ q := fun h q h1 h2 => by
    have e := zLs3 ha ht h1 h2
    rw [h.tab ha ht h1 h2, r11 q e.1 e.2.1]
  refine zLP1_ind (fun x σ1 => ∃ i : Nat, x = (i : Int) ∧ (i : Int) ≤ σ (t + 8) 0 ∧ zLG σ1 a ∧ zFa σ11 σ1 a ∧ (∀ m b, zbt (σ1 (a + 1) m) b ↔ ∃ l : Nat, l < i ∧ lamps / 2 ^ l % 2 = 1 ∧ σ (t + 3) (σ (t + 9) l).toNat ≠ -1 ∧ zbt (σ (t + 6) (σ (t + 9) l).toNat) b ∧ zbt cols b ∧ σ (t + 1) (σ (t + 3) (σ (t + 9) l).toNat * 4 + σ (t + 7) (σ (t + 9) l).toNat).toNat = (m : Int)) ∧ (∀ m, σ1 (a + 1) m ≠ 0 → σ1 (a + 4) m = 1)) (fun x _ => (8 - x).toNat) ?_ ⟨0, rfl, (hCt 0).1, g11, zFa.rfl', fun m b => ⟨fun q => by rw [f11.2.2.2] at q; exact absurd q zbt_0, fun ⟨l, q, _⟩ => by omega⟩, fun m hm => absurd (f11.2.2.2 m) hm⟩
  rintro K x σ1 ⟨i, rfl, hi, hG, hF, hB, hfar⟩ hK
  have tb := tabF hF
  have hC0 := hCt 0
  have e8 : σ1 (t + 8) = σ (t + 8) := tb _ (by omega) (by omega)
  refine ⟨by rw [e8]; omega, fun h => ?_, fun h => ?_⟩
  · rw [e8] at h
    have hT1 : zTs σ1 t := hT.to tb
    have e1_6 : σ1 a 6 = tu := by rw [hF.2 6 (by decide), f11.1]
    have e1_7 : σ1 a 7 = st := by rw [hF.2 7 (by decide), f11.2.1]
    have fs1 : zFs σ σ1 a := fun q q1 q2 q3 q4 q5 => by rw [hF.1 q q1 q2 q4 q5, r11 q q1 q2]
    refine s_L_spread ha ht hG hT1 I (h0 σ1 hG fs1 (fun m b => ?_) hfar) (fun i σ3 σ4 hI g3 _ hlt d g4 => hs i σ3 σ4 hI g3 hlt (d.to fun m b => ?_) g4) (fun j σ2 hI g2 F2 hj => ⟨rfl, ?_⟩)
    · rw [hB]
      constructor
      · rintro ⟨l, q1, q2⟩; exact ⟨l, by omega, q2⟩
      · rintro ⟨l, q1, q2⟩; exact ⟨l, by omega, q2⟩
    · rw [zcS_to tb, e1_6, e1_7]
    · rintro σ108 e108
      have F12 := hF.trans F2
      have tb2 := tabF F12
      have hC3 := hCt 3
      have r108 : ∀ q, q ≠ a → σ108 q = σ2 q := fun q hq => by rw [e108, zupd_row hq]
      refine zLP1_ind (fun x σ3 => ∃ e : Nat, x = (e : Int) ∧ (e : Int) ≤ σ (t + 8) 3 ∧ (∀ q, q ≠ a → q ≠ a + 2 → σ3 q = σ2 q) ∧ (∀ k, k ≠ 2 → σ3 a k = σ2 a k) ∧ (∀ d : Nat, d < e → σ3 (a + 2) d = zci σ2 a (σ (t + 3) (σ (t + 9) (24 + d)).toNat)) ∧ 0 ≤ σ3 a 2 ∧ (∀ d : Nat, zbt (σ3 a 2) d ↔ d < e ∧ σ3 (a + 2) d ≠ 0)) (fun x _ => (8 - x).toNat) ?_ ⟨0, rfl, hC3.1, fun q h1 _ => r108 q h1, fun k hk => by rw [e108, zupd_nk hk], fun d hd => by omega, by rw [e108, zupd_same]; decide, fun d => by rw [e108, zupd_same]; exact ⟨fun q => absurd q zbt_0, fun q => by omega⟩⟩
      rintro K2 x σ3 ⟨e, rfl, he, hr, hf, hse, hnn, hbits⟩ hK2
      have tb3 : ∀ q, t ≤ q → q ≤ t + 12 → σ3 q = σ q := fun q h1 h2 => by
        have e := zLs3 ha ht h1 h2
        rw [hr q e.1 e.2.2.1, tb2 q h1 h2]
      have e38 : σ3 (t + 8) = σ (t + 8) := tb3 _ (by omega) (by omega)
      have r1 : σ3 (a + 1) = σ2 (a + 1) := hr _ (by omega) (by omega)
      have zc : ∀ {σ' : zPH}, σ' (a + 1) = σ2 (a + 1) → ∀ q, zci σ' a q = zci σ2 a q := fun h q => by unfold zci; rw [h]
      refine ⟨by rw [e38]; omega, fun h => ?_, fun h => ?_⟩
      · rw [e38] at h
        refine hX j σ2 σ3 hI g2 hj ?_ (fun q q1 q2 q3 q4 q5 => by rw [hr q q1 q3, F12.1 q q1 q2 q4 q5, r11 q q1 q2]) r1 (hr _ (by omega) (by omega)) (hr _ (by omega) (by omega)) (hf 3 (by decide)) (fun d hd => by rw [hse d (by omega), zc r1]) ⟨hnn, ?_⟩ (fun d => by rw [hbits]; constructor <;> rintro ⟨q1, q2⟩ <;> exact ⟨by omega, q2⟩)
        · unfold zLG at g2 ⊢
          rw [hf 3 (by decide), r1, hr (a + 3) (by omega) (by omega), hf 6 (by decide), hf 7 (by decide)]
          exact g2
        · refine zlt_bt hnn (fun d hd => ?_)
          have := ((hbits d).mp hd).1; omega
      · rw [e38] at h
        refine s_T_squareOf ht (hT.to tb3) (by decide) (by omega) ⟨_, rfl, ?_⟩
        rw [show (3 * 8 + (e : Int)).toNat = 24 + e by omega, tb3 (t + 3) (by omega) (by omega), tb3 (t + 9) (by omega) (by omega)]
        have hz := hSq (σ (t + 9) (24 + e)).toNat
        refine s_L_comesInto ha (by rw [r1]; exact g2.2.1) (by omega) ⟨_, rfl, by omega, ?_⟩
        rintro σ142 e142
        rw [Int.toNat_natCast] at e142 ⊢
        have hz8 : 0 ≤ zci σ3 a (σ (t + 3) (σ (t + 9) (24 + e)).toNat) ∧ zci σ3 a (σ (t + 3) (σ (t + 9) (24 + e)).toNat) < 8 := by
          unfold zci; split
          · omega
          · rw [r1]
            have q := g2.2.1
            exact ⟨zor_nn _ _, zor_lt 3 (zor_lt 3 (zor_lt 3 (q _).2 (q _).2) (q _).2) (q _).2⟩
        have e142s : σ142 (a + 2) e = zci σ3 a (σ (t + 3) (σ (t + 9) (24 + e)).toNat) := by rw [e142, zupd_same]
        have e142a : σ142 a = σ3 a := by rw [e142, zupd_row (by omega)]
        have hse' : ∀ d : Nat, d < e + 1 → σ142 (a + 2) d = zci σ2 a (σ (t + 3) (σ (t + 9) (24 + d)).toNat) := fun d hd => by
          rcases (show d = e ∨ d < e by omega) with rfl | q
          · rw [e142s, zc r1]
          · rw [e142, zupd_nk (by omega), hse d q]
        have hr' : ∀ q, q ≠ a → q ≠ a + 2 → σ142 q = σ2 q := fun q q1 q2 => by rw [e142, zupd_row q2, hr q q1 q2]
        have hnd : ∀ d, d ≠ e → σ142 (a + 2) d = σ3 (a + 2) d := fun d hd => by rw [e142, zupd_nk hd]
        refine ⟨by omega, by rw [e142s]; omega, fun hz0 => ?_, fun hz0 => ⟨by omega, ⟨by rw [e142a]; exact hnn, ?_⟩, ?_⟩⟩
        · refine hK2 _ _ ⟨e + 1, by omega, by omega, hr', fun k hk => by rw [e142a, hf k hk], hse', by rw [e142a]; exact hnn, fun d => ?_⟩ (by omega)
          rw [e142a, hbits]
          rcases Classical.em (d = e) with rfl | q
          · constructor
            · rintro ⟨q, _⟩; omega
            · rintro ⟨_, q⟩; exact absurd hz0 q
          · rw [hnd d q]
            constructor <;> rintro ⟨q1, q2⟩ <;> exact ⟨by omega, q2⟩
        · rw [Int.one_mul]; exact zpow_nn _
        · rintro σ163 e163
          rw [Int.one_mul] at e163
          refine hK2 _ _ ⟨e + 1, by omega, by omega, fun q q1 q2 => by rw [e163, zupd_row q1, hr' q q1 q2], fun k hk => by rw [e163, zupd_nk hk, e142a, hf k hk], fun d hd => by rw [e163, zupd_row (by omega), hse' d hd], by rw [e163, zupd_same]; exact zor_nn _ _, fun d => ?_⟩ (by omega)
          rw [e163, zupd_same, zbt_or, e142a, hbits, zbt_pow, zupd_row (by omega)]
          rcases Classical.em (d = e) with rfl | q
          · exact ⟨fun _ => ⟨by omega, hz0⟩, fun _ => Or.inr rfl⟩
          · rw [hnd d q]
            constructor
            · rintro (⟨q1, q2⟩ | q1)
              · exact ⟨by omega, q2⟩
              · exact absurd q1 q
            · rintro ⟨q1, q2⟩; exact Or.inl ⟨by omega, q2⟩
  · rw [e8] at h
    refine s_T_pieceOf ht (by decide) (by omega) ⟨_, rfl, ?_⟩
    rw [show (0 * 8 + (i : Int)).toNat = i by omega, tb (t + 9) (by omega) (by omega)]
    have hm := hMe i
    have hz := hSq (σ (t + 9) i).toNat
    have hp := hPc (σ (t + 9) i).toNat
    have hlm := hLm i h
    refine ⟨by omega, ?_⟩
    rintro x8 e8'
    rw [tb (t + 3) (by omega) (by omega)] at e8'
    have nope : ¬ (lamps / 2 ^ i % 2 = 1 ∧ σ (t + 3) (σ (t + 9) i).toNat ≠ -1) → K ((i : Int) + 1) σ1 := fun hno => hK _ _ ⟨i + 1, by omega, by omega, hG, hF, fun m b => by
      rw [hB]
      constructor
      · rintro ⟨l, q1, q2⟩; exact ⟨l, by omega, q2⟩
      · rintro ⟨l, q1, q2⟩
        rcases (show l < i ∨ l = i by omega) with q | rfl
        · exact ⟨l, q, q2⟩
        · exact absurd ⟨q2.1, q2.2.1⟩ hno, hfar⟩ (by omega)
    refine ⟨by omega, by rw [Int.toNat_natCast]; omega, fun hb => ?_, fun hb => ⟨by omega, fun hn => ?_, fun hn => ?_⟩⟩
    · rw [Int.toNat_natCast] at hb
      exact nope (fun q => hb q.1)
    · rw [e8'] at hn
      exact nope (fun q => q.2 hn)
    · rw [Int.toNat_natCast] at hb
      rw [e8'] at hn ⊢
      rw [tb (t + 7) (by omega) (by omega), tb (t + 6) (by omega) (by omega), tb (t + 1) (by omega) (by omega)]
      have hp3 := hp.2.2.2.2.2.2
      have hp2 := hp.2.2.1
      refine ⟨by omega, by omega, by omega, ⟨hlm.2, hco.1⟩, ?_⟩
      refine s_L_send ha hG (hN _) (zand_8 ⟨hlm.2, hp2.2⟩) (fun σ2 g2 d2 => ⟨rfl, ?_⟩)
      refine hK _ _ ⟨i + 1, by omega, by omega, g2, hF.trans d2.fa, fun m b => ?_, fun m hm => ?_⟩ (by omega)
      · rw [d2.2.2.2.2.1, hB]
        simp only [zbt_and]
        constructor
        · rintro (⟨l, q1, q2⟩ | ⟨q1, q2, q3⟩)
          · exact ⟨l, by omega, q2⟩
          · exact ⟨i, by omega, hb, hn, q2, q3, q1.symm⟩
        · rintro ⟨l, q1, q2⟩
          rcases (show l < i ∨ l = i by omega) with q | rfl
          · exact Or.inl ⟨l, q, q2⟩
          · exact Or.inr ⟨q2.2.2.2.2.symm, q2.2.2.1, q2.2.2.2.1⟩
      · by_cases q : σ1 (a + 1) m = 0
        · exact d2.2.2.2.2.2.2.1 m q hm
        · rw [d2.2.2.2.2.2.1 m q, hfar m q]
theorem s_L_shine_re {G : zG} {σ : zPH} {X : zX} {a t : Nat} (ha : zisL a) (ht : zisT t) (hL : zLG σ a) (hT : zTs σ t) {tu st lamps cols : Int} (htu : 0 ≤ tu ∧ tu < 2147483648) (hst : 0 ≤ st ∧ st < 2147483648) (hla : 0 ≤ lamps ∧ lamps < 2147483648) (hco : 0 ≤ cols ∧ cols < 8)
    (hX : ∀ (σ' : zPH), zLG σ' a → zFs σ σ' a → (∀ m b, zbt (σ' (a + 1) m) b ↔ zRe (zcL σ t lamps cols b) (zcS σ t tu st b) m) → (∀ e : Nat, (e : Int) < σ (t + 8) 3 → σ' (a + 2) e = zci σ' a (σ (t + 3) (σ (t + 9) (24 + e)).toNat)) → (0 ≤ σ' a 2 ∧ σ' a 2 < 2 ^ (σ (t + 8) 3).toNat) → (∀ e : Nat, zbt (σ' a 2) e ↔ (e : Int) < σ (t + 8) 3 ∧ σ' (a + 2) e ≠ 0) → X none σ') : MS G zm_L_shine 3 [zr G a, zr G t, iZ tu, iZ st, iZ lamps, iZ cols] σ X := by
  refine s_L_shine ha ht hL hT htu hst hla hco (zCl (zcL σ t lamps cols) (zcS σ t tu st) a) (fun σ1 g1 _ hb _ => zCl_0 g1 hb) (fun i σ1 σ2 hI g1 hi d _ => zCl_s hI g1 hi d) (fun i σ1 σ' hI g1 hi g' hF e1 e3 e4 ea hse hr hb => hX σ' g' hF (fun m b => ?_) hse hr hb)
  rw [e1]
  exact zCl_e hI g1 hi m b
