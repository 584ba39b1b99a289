section MT
variable {G : zG} {σ V : zPH} {X : zX}
/-- which lamps shine -/
def zOl (σ : zPH) (la : Int) : Prop := (σ 58 56 = -1 ∧ la = 255) ∨ ∃ n : Nat, n < 8 ∧ σ 58 56 = (n : Int) ∧ la = 2 ^ n
/-- only light has changed -/
def zfM (σ σ' : zPH) : Prop := (∀ q, q ≠ 58 → q ≠ 84 → q ≠ 85 → σ' q = σ q) ∧ ∀ k, k ≠ 55 → σ' 58 k = σ 58 k
theorem zfM.rf {σ : zPH} : zfM σ σ := ⟨fun _ _ _ _ => rfl, fun _ _ => rfl⟩
theorem zfM.trans {σ σ1 σ2 : zPH} (h : zfM σ σ1) (h2 : zfM σ1 σ2) : zfM σ σ2 := ⟨fun q a b c => by rw [h2.1 q a b c, h.1 q a b c], fun k hk => by rw [h2.2 k hk, h.2 k hk]⟩
theorem zfM.vw {σ σ' V : zPH} (h : zfM σ σ') (hv : zMV σ V) : zMV σ' V := hv.to (fun q h1 h2 => h.1 q (by omega) (by omega) (by omega)) (fun k hk => h.2 k (by omega))
theorem zAd.fM {σ σ' : zPH} {P : Nat → Nat → Prop} (h : zAd σ σ' P) : zfM σ σ' := h.2.2.2.2.2
theorem zla_iff {σ : zPH} {la : Int} (h : zOl σ la) {n : Int} (hn : 0 ≤ n ∧ n < 8) : la / 2 ^ n.toNat % 2 = 1 ↔ σ 58 56 = -1 ∨ σ 58 56 = n := by
  rcases h with ⟨h1, rfl⟩ | ⟨k, hk, h1, rfl⟩
  · refine ⟨fun _ => Or.inl h1, fun _ => ?_⟩
    have : n = 0 ∨ n = 1 ∨ n = 2 ∨ n = 3 ∨ n = 4 ∨ n = 5 ∨ n = 6 ∨ n = 7 := by omega
    rcases this with rfl | rfl | rfl | rfl | rfl | rfl | rfl | rfl <;> rfl
  · rw [← zbt_div (zpow_nn k), zbt_pow]; omega
/-- what the lamps ahead of square i send -/
def zlP (V : zPH) (la : Int) (i : Nat) (m b : Nat) : Prop := ∃ q : Nat, q < i ∧ zva V q ∧ V 1 q = 1 ∧ la / 2 ^ (V 2 q).toNat % 2 = 1 ∧ zbt (V 3 q) b ∧ zN V q (V 4 q).toNat = (m : Int)
theorem zlP_s {V : zPH} {la : Int} {i m b : Nat} : zlP V la (i + 1) m b ↔ zlP V la i m b ∨ (zva V i ∧ V 1 i = 1 ∧ la / 2 ^ (V 2 i).toNat % 2 = 1 ∧ zbt (V 3 i) b ∧ zN V i (V 4 i).toNat = (m : Int)) := by
  constructor
  · rintro ⟨q, h1, h2⟩
    rcases (show q < i ∨ q = i by omega) with z | rfl
    · exact Or.inl ⟨q, z, h2⟩
    · exact Or.inr h2
  · rintro (⟨q, h1, h2⟩ | h2)
    · exact ⟨q, by omega, h2⟩
    · exact ⟨i, by omega, h2⟩
theorem s_M_shines (hV : zVd V) (h : zMV σ V) (htu : zI (σ 58 42) ∧ 0 ≤ σ 58 42) {st la : Int} (hst : zI st ∧ 0 ≤ st) (hla : zOl σ la) (hX : ∀ σ', zMV σ' V → zfM σ σ' → (∀ m, m < 576 → σ' 84 m = zLv V (σ 58 42) st la 7 m) → X none σ') : MS G zm_M_shines 4 [zr G 58, iZ st] σ X := by
  refine k_M_shines ?_
  refine zLP1_ind (fun x2 σ1 => ∃ i : Nat, x2 = (i : Int) ∧ i ≤ 576 ∧ zfM σ σ1 ∧ ∀ m, m < i → σ1 84 m = 0) (fun x2 _ => (576 - x2).toNat) ?_ ⟨0, rfl, by decide, zfM.rf, fun m hm => by omega⟩
  rintro K x2 σ1 ⟨i, rfl, hi, F1, z1⟩ hK
  refine ⟨by omega, fun hge => ?_, fun hlt => ⟨by omega, ?_⟩⟩
  rotate_left
  · rintro σ2 e2
    refine hK _ _ ⟨i + 1, by omega, by omega, F1.trans ⟨fun q h1 h2 h3 => by rw [e2, zupd_row h2], fun k hk => by rw [e2, zupd_row (by decide)]⟩, fun m hm => ?_⟩ (by omega)
    rw [e2]
    by_cases q : m = i
    · rw [q, Int.toNat_natCast, zupd_same]
    · rw [zupd_nk (by omega)]; exact z1 m (by omega)
  clear hK
  have hi6 : i = 576 := by omega
  subst hi6
  rintro σ2 e2
  have F2 : zfM σ σ2 := F1.trans ⟨fun q h1 h2 h3 => by rw [e2, zupd_row h1], fun k hk => by rw [e2, zupd_nk hk]⟩
  have z2 : ∀ m, m < 576 → σ2 84 m = 0 := fun m hm => by rw [e2, zupd_row (by decide)]; exact z1 m hm
  have h55 : σ2 58 55 = 0 := by rw [e2, zupd_same]
  have Q2 : zmQ σ2 V := by
    refine ⟨fun m hm => by rw [z2 m hm]; decide, by omega, ?_, fun j hj => by omega⟩
    have := zsm_3 (f := fun m => zpp (σ2 84 m)) (n := 576) (fun m hm => by show 0 ≤ zpp (σ2 84 m) ∧ zpp (σ2 84 m) ≤ 3; rw [z2 m hm]; decide)
    unfold zBs; omega
  refine zLP1_ind (fun x2 σ3 => ∃ i : Nat, x2 = (i : Int) ∧ i ≤ 144 ∧ zmQ σ3 V ∧ zAd σ2 σ3 (zlP V la i)) (fun x2 _ => (144 - x2).toNat) ?_ ⟨0, rfl, by decide, Q2, zAd.rf.cg fun m b => ⟨fun z => z.elim, fun ⟨q, hq, _⟩ => by omega⟩⟩
  rintro K x2 σ3 ⟨i, rfl, hi, Q3, A3⟩ hK
  have F3 : zfM σ σ3 := F2.trans A3.fM
  have M3 := F3.vw h
  refine ⟨by omega, fun hge => ?_, fun hlt => ?_⟩
  rotate_left
  · have hcl := M3.2.2.1 i (by omega)
    refine s_M_sortAt' M3.1 (by omega) ⟨_, rfl, ?_⟩
    by_cases hv : zva V i
    · rw [hcl.1 hv]
      obtain ⟨v1, v2, -⟩ := hV.2.2.1 _ hv
      refine ⟨by omega, fun q => hK _ _ ⟨i + 1, by omega, by omega, Q3, A3.cg fun m b => ?_⟩ (by omega), fun q => ?_⟩
      · rw [zlP_s]
        exact ⟨Or.inl, fun z => z.elim id (fun z => absurd z.2.1 q)⟩
      · obtain ⟨n1, n2, n3, -⟩ := v2 q
        have hcnt := hV.2.1
        have hE := M3.2.2.2.2.1 i hv
        obtain ⟨d0, d1, d2, d3, d4⟩ : (i : Int) ≠ σ3 58 46 ∧ (i : Int) ≠ σ3 58 51 ∧ V 1 i = σ3 67 (zmF σ3 i).toNat ∧ V 3 i = σ3 69 (zmF σ3 i).toNat ∧ (V 1 i ≠ 4 → V 2 i = σ3 68 (zmF σ3 i).toNat ∧ 0 ≤ V 2 i) := by
          rcases M3.2.2.2.1 i hv (by omega) (by omega) (by omega) (by omega) with d | d | d
          · omega
          · omega
          · exact ⟨d.1, d.2.1, d.2.2.1, d.2.2.2.1 (by omega), d.2.2.2.2⟩
        have e70 := (hE d0).1 q
        have hf := zmF_r M3.1 (q := (i : Int)) (by omega)
        have h56 : σ3 58 56 = σ 58 56 := F3.2 56 (by decide)
        have hcond := zla_iff hla (n := V 2 i) (by omega)
        have go : la / 2 ^ (V 2 i).toNat % 2 = 1 → b_M_shines_68 G st X K (i : Int) σ3 := fun hc => by
          refine s_M_from M3.1 (by omega) ⟨_, rfl, by omega, s_M_from M3.1 (by omega) ⟨_, rfl, by omega, ?_⟩⟩
          rw [e70, ← d3]
          refine s_M_sends hV M3 Q3 (w := (V 4 i).toNat) rfl (by omega) hv (by omega) n2 (fun σ4 M4 Q4 A4 => ⟨rfl, ?_⟩)
          refine hK _ _ ⟨i + 1, by omega, by omega, Q4, (A3.tr A4).cg fun m b => ?_⟩ (by omega)
          rw [zlP_s]
          exact ⟨fun z => z.elim Or.inl (fun z => Or.inr ⟨hv, q, hc, z.2, z.1⟩), fun z => z.elim Or.inl (fun z => Or.inr ⟨z.2.2.2.2, z.2.2.2.1⟩)⟩
        refine ⟨by rcases hla with ⟨a, -⟩ | ⟨k, a, b, -⟩ <;> omega, fun q2 => go (hcond.mpr (Or.inl (by omega))), fun q2 => ?_⟩
        refine s_M_numberAt' M3.1 (by omega) ⟨_, rfl, ?_⟩
        rw [← (d4 (by omega)).1]
        refine ⟨⟨by omega, by rcases hla with ⟨a, -⟩ | ⟨k, a, b, -⟩ <;> omega⟩, fun q3 => go (hcond.mpr (Or.inr (by omega))), fun q3 => hK _ _ ⟨i + 1, by omega, by omega, Q3, A3.cg fun m b => ?_⟩ (by omega)⟩
        rw [zlP_s]
        refine ⟨Or.inl, fun z => z.elim id (fun z => ?_)⟩
        have := hcond.mp z.2.2.1
        omega
    · have hc := hcl.2 hv
      refine ⟨hc.2, fun q => hK _ _ ⟨i + 1, by omega, by omega, Q3, A3.cg fun m b => ?_⟩ (by omega), fun q => absurd q hc.1⟩
      rw [zlP_s]
      exact ⟨Or.inl, fun z => z.elim id (fun z => absurd z.1 hv)⟩
  clear hK
  have hi1 : i = 144 := by omega
  subst hi1
  have h7 : ∀ b, zbt 7 b ↔ b < 3 := fun b => zall_bt (n := 3) (e := b)
  have hL : ∀ m b, zlP V la 144 m b ↔ zvL V la 7 b m := by
    intro m b
    constructor
    · rintro ⟨q, -, h1, h2, h3, h4, h5⟩
      exact ⟨q, h1, h2, h3, h4, (h7 b).mpr (zbt_lt8 ((hV.2.2.1 q h1).2.1 h2).2.1.2 h4), h5⟩
    · rintro ⟨q, h1, h2, h3, h4, -, h5⟩
      exact ⟨q, (zva.lt hV h1).1, h1, h2, h3, h4, h5⟩
  have b3 : ∀ m, m < 576 → ∀ b, zbt (σ3 84 m) b ↔ zvL V la 7 b m := fun m hm b => by
    rw [A3.1, z2 m hm, hL]
    exact ⟨fun z => z.elim (fun z => absurd z zbt_0) id, Or.inr⟩
  have vaR : ∀ b n, zRe (zvL V la 7 b) (zvS V (σ 58 42) st b) n → zva V (n / 4) := fun b n hn => zRe.ind (P := fun n => zva V (n / 4)) (fun n hn => zvL_va hV hn) (fun n m _ hv hs => zvS_va hV hv hs) hn
  have lt4 : ∀ n, zva V (n / 4) → n < 576 := fun n hn => by have := (zva.lt hV hn).1; omega
  refine zLP0_ind (fun σ4 => zmQ σ4 V ∧ zfM σ σ4 ∧ (∀ m b, m < 576 → zbt (σ4 84 m) b → zRe (zvL V la 7 b) (zvS V (σ 58 42) st b) m) ∧ (∀ m b, zvL V la 7 b m → zbt (σ4 84 m) b) ∧ ∀ n b, n < 576 → zbt (σ4 84 n) b → (∃ j : Nat, (j : Int) < σ4 58 55 ∧ σ4 85 j = (n : Int)) ∨ ∀ m, zvS V (σ 58 42) st b n m → zbt (σ4 84 m) b) (fun σ4 => (2 * (1728 - zBs σ4 576) + σ4 58 55).toNat) ?_ ⟨Q3, F3, fun m b hm hb => zRe.src ((b3 m hm b).mp hb), fun m b hb => (b3 m (lt4 m (zvL_va hV hb)) b).mpr hb, fun n b hn hb => Or.inl ?_⟩
  rotate_left
  · have hne : σ3 84 n ≠ σ2 84 n := fun z => by rw [z, z2 n hn] at hb; exact zbt_0 hb
    obtain ⟨j, j1, j2, j3⟩ := A3.2.2.2.1.1 n hne
    exact ⟨j, j2, j3⟩
  rintro K σ4 ⟨Q4, F4, so, inc, clo⟩ hK
  have M4 := F4.vw h
  have hB4 := zBs_r Q4
  have hh4 := Q4.2.1
  have hh4' := Q4.2.2.1
  refine ⟨by omega, fun hle => ?_, fun hgt => ?_⟩
  · refine hX σ4 M4 F4 (fun m hm => zLv_of (Q4.1 m hm) fun b => ⟨so m b hm, fun hr => ?_⟩)
    exact (zRe.ind (P := fun n => zva V (n / 4) ∧ zbt (σ4 84 n) b) (fun n hn => ⟨zvL_va hV hn, inc n b hn⟩) (fun n m _ hp hs => ⟨zvS_va hV hp.1 hs, by
      rcases clo n b (lt4 n hp.1) hp.2 with ⟨j, j1, j2⟩ | hc
      · omega
      · exact hc m hs⟩) hr).2
  · rintro σ5 e5
    have h5 : σ5 58 55 = σ4 58 55 - 1 := by rw [e5, zupd_same]
    have r5 : ∀ q, q ≠ 58 → σ5 q = σ4 q := fun q hq => by rw [e5, zupd_row hq]
    have F5' : zfM σ4 σ5 := ⟨fun q q1 q2 q3 => r5 q q1, fun k hk => by rw [e5, zupd_nk hk]⟩
    have F5 := F4.trans F5'
    have M5 := F5.vw h
    rw [h5]
    refine ⟨by omega, ?_⟩
    rintro x2 e2x
    rw [r5 85 (by decide)] at e2x
    obtain ⟨n, hn, hn2⟩ := Q4.2.2.2 (σ4 58 55 - 1).toNat (by omega)
    rw [hn2] at e2x
    subst e2x
    have hnl := lt4 n hn
    have e84 : σ5 84 = σ4 84 := r5 84 (by decide)
    have eBs : zBs σ5 576 = zBs σ4 576 := by unfold zBs; rw [e84]
    have Q5 : zmQ σ5 V := ⟨fun m hm => by rw [e84]; exact Q4.1 m hm, by omega, by omega, fun j hj => by rw [r5 85 (by decide)]; exact Q4.2.2.2 j (by omega)⟩
    have e42 : σ5 58 42 = σ 58 42 := F5.2 42 (by decide)
    refine ⟨by omega, by omega, by omega, ?_⟩
    rw [Int.toNat_natCast, e84]
    refine s_M_goes hV M5 Q5 (by rw [e42]; exact htu) hst (n := n) (by omega) (by omega) hn (Q4.1 n hnl) (fun σ6 M6 Q6 A6 => ⟨rfl, ?_⟩)
    rw [e42] at A6
    have hB6 := zBs_r Q6
    have hmono : ∀ m b, zbt (σ4 84 m) b → zbt (σ6 84 m) b := fun m b hb => (A6.1 m b).mpr (Or.inl (by rw [e84]; exact hb))
    refine hK _ ⟨Q6, F5.trans A6.fM, fun m b hm hb => ?_, fun m b hb => hmono m b (inc m b hb), fun n' b hn' hb => ?_⟩ (by have := A6.2.2.2.2.1; have := Q6.2.1; have := A6.2.1; show (2 * (1728 - zBs σ6 576) + σ6 58 55).toNat < (2 * (1728 - zBs σ4 576) + σ4 58 55).toNat; omega)
    · rcases (A6.1 m b).mp hb with z | ⟨z1, z2⟩
      · rw [e84] at z; exact so m b hm z
      · exact (so n b hnl z1).step z2
    · by_cases hch : σ6 84 n' = σ5 84 n'
      · rw [hch, e84] at hb
        by_cases hnn : n' = n
        · rw [hnn] at hb ⊢
          exact Or.inr fun m hs => (A6.1 m b).mpr (Or.inr ⟨hb, hs⟩)
        · rcases clo n' b hn' hb with ⟨j, j1, j2⟩ | hc
          · refine Or.inl ⟨j, ?_, ?_⟩
            · have := A6.2.1
              have : j ≠ (σ4 58 55 - 1).toNat := fun z => by rw [z, hn2] at j2; omega
              omega
            · have : j ≠ (σ4 58 55 - 1).toNat := fun z => by rw [z, hn2] at j2; omega
              rw [A6.2.2.1 j (by omega), r5 85 (by decide)]; exact j2
          · exact Or.inr fun m hs => hmono m b (hc m hs)
      · obtain ⟨j, j1, j2, j3⟩ := A6.2.2.2.1.1 n' hch
        exact Or.inl ⟨j, j2, j3⟩
end MT
