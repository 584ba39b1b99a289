/-- sets of mirrors turned -/
def zSoP (V D : zPH) (k : Int) : Prop := (0 ≤ k ∧ k < 2 ^ (V 0 3).toNat) ∧ zWs V D (zEd V k (D 0 1))
/-- what solutions() answers -/
def zSol (V D : zPH) (w x : Int) : Prop := (w = 0 ∧ x = zcn (fun k => zWs V D (zEd V (k : Int) (D 0 1))) (2 ^ (V 0 3).toNat)) ∨ (w = 1 ∧ 0 ≤ x ∧ ∀ e : Nat, zbt x e ↔ (e : Int) < V 0 3 ∧ ∀ k, zSoP V D k → zbt k e) ∨ (w = 2 ∧ 0 ≤ x ∧ ∀ e : Nat, zbt x e ↔ (e : Int) < V 0 3 ∧ ∀ k, zSoP V D k → ¬ zbt k e) ∨ (¬ (0 ≤ w ∧ w ≤ 2) ∧ x = -1)
theorem zSol_u {V D : zPH} {w x y : Int} (h : zSol V D w x) (h' : zSol V D w y) : x = y := by
  rcases h with ⟨a, b⟩ | ⟨a, b, c⟩ | ⟨a, b, c⟩ | ⟨a, b⟩ <;> rcases h' with ⟨a', b'⟩ | ⟨a', b', c'⟩ | ⟨a', b', c'⟩ | ⟨a', b'⟩ <;> first | omega | (exact zbt_ext b b' (fun e => by rw [c, c'])) | (rw [b, b'])
theorem zall_bt {n e : Nat} : zbt ((2 : Int) ^ n - 1) e ↔ e < n := by
  unfold zbt
  have e1 : ((2 : Int) ^ n - 1).toNat = 2 ^ n - 1 := by rw [zpow_c]; omega
  rw [e1, Nat.testBit_two_pow_sub_one]
  simp
section CY
variable {G : zG} {σ V D : zPH} {X : zX} {t u : Nat}
theorem s_B_solutions (hB : zBD V D) (h : zCI σ V D t u) {w : Int} (hw : zI w) (hX : ∀ σ' x, zSol V D w x → zCI σ' V D t u → zfB σ σ' → X (some (iZ x)) σ') : MS G zm_B_solutions 7 [zr G 0, iZ w] σ X := by
  have hV3 := hB.1.2.1
  have h256 := zpow_le (show (V 0 3).toNat ≤ 8 by omega)
  rw [show (2 : Int) ^ 8 = 256 from rfl] at h256
  have hpp : (0 : Int) < 2 ^ (V 0 3).toNat := Int.pow_pos (by decide)
  have hpc := zpow_c (V 0 3).toNat
  refine k_B_solutions ⟨hw, fun q => hX σ _ (Or.inr (Or.inr (Or.inr ⟨by omega, rfl⟩))) h zfB.rf, fun q => ⟨hw, fun q2 => ?_, fun q2 => hX σ _ (Or.inr (Or.inr (Or.inr ⟨by omega, rfl⟩))) h zfB.rf⟩⟩
  refine s_B_allOf hB h (g := 1) rfl (by decide) ⟨_, rfl, ?_⟩
  refine zLP4_ind (fun x2 x3 x4 x5 σ1 => ∃ i : Nat, x5 = (i : Int) ∧ (i : Int) ≤ 2 ^ (V 0 3).toNat ∧ x2 = zcn (fun k => zWs V D (zEd V (k : Int) (D 0 1))) i ∧ (0 ≤ x3 ∧ ∀ e : Nat, zbt x3 e ↔ (e : Int) < V 0 3 ∧ ∀ k, zSoP V D k → k < (i : Int) → zbt k e) ∧ (0 ≤ x4 ∧ ∀ e : Nat, zbt x4 e ↔ (e : Int) < V 0 3 ∧ ∀ k, zSoP V D k → k < (i : Int) → ¬ zbt k e) ∧ (x3 < 256 ∧ x4 < 256) ∧ zCI σ1 V D t u ∧ zfB σ σ1) (fun _ _ _ x5 _ => (256 - x5).toNat) ?_ ⟨0, rfl, by omega, rfl, ⟨by show 0 ≤ 2 ^ (V 0 3).toNat - 1; omega, fun e => ?_⟩, ⟨by show 0 ≤ 2 ^ (V 0 3).toNat - 1; omega, fun e => ?_⟩, ⟨by show 2 ^ (V 0 3).toNat - 1 < 256; omega, by show 2 ^ (V 0 3).toNat - 1 < 256; omega⟩, h, zfB.rf⟩
  rotate_left
  · show zbt (2 ^ (V 0 3).toNat - 1) e ↔ _
    rw [zall_bt]
    exact ⟨fun z => ⟨by omega, fun k hk hk2 => by have := hk.1; omega⟩, fun z => by omega⟩
  · show zbt (2 ^ (V 0 3).toNat - 1) e ↔ _
    rw [zall_bt]
    exact ⟨fun z => ⟨by omega, fun k hk hk2 => by have := hk.1; omega⟩, fun z => by omega⟩
  rintro K x2 x3 x4 x5 σ1 ⟨i, rfl, hi, rfl, h3, h4, h34, c1, f1⟩ hK
  refine s_B_allOf hB c1 (g := 1) rfl (by decide) ⟨_, rfl, ?_⟩
  show (zI (i : Int) ∧ zI (2 ^ (V 0 3).toNat - 1)) ∧ (2 ^ (V 0 3).toNat - 1 < (i : Int) → _) ∧ ((i : Int) ≤ 2 ^ (V 0 3).toNat - 1 → _)
  refine ⟨by omega, fun hgt => ?_, fun hle => ?_⟩
  · have hie : (i : Int) = 2 ^ (V 0 3).toNat := by omega
    have hall : ∀ k, zSoP V D k → k < (i : Int) := fun k hk => by have := hk.1; omega
    refine ⟨hw, fun z => ⟨hw, fun z2 => hX σ1 _ (Or.inr (Or.inr (Or.inl ⟨by omega, h4.1, fun e => ?_⟩))) c1 f1, fun z2 => hX σ1 _ (Or.inr (Or.inl ⟨z2, h3.1, fun e => ?_⟩)) c1 f1⟩, fun z => hX σ1 _ (Or.inl ⟨z, ?_⟩) c1 f1⟩
    · rw [h4.2]; exact ⟨fun y => ⟨y.1, fun k hk => y.2 k hk (hall k hk)⟩, fun y => ⟨y.1, fun k hk _ => y.2 k hk⟩⟩
    · rw [h3.2]; exact ⟨fun y => ⟨y.1, fun k hk => y.2 k hk (hall k hk)⟩, fun y => ⟨y.1, fun k hk _ => y.2 k hk⟩⟩
    · rw [show i = 2 ^ (V 0 3).toNat by omega]
  · refine s_B_areMet hB c1 (by omega) (fun σ2 y c2 F2 => Or.inr ⟨rfl, ⟨h3.1, by omega⟩, ?_⟩) (fun σ2 y c2 F2 => Or.inl ⟨rfl, ?_⟩)
    · rintro x3' e3
      refine ⟨⟨h4.1, by omega⟩, ?_⟩
      rintro x4' e4
      have b3 := zand_le (y := (i : Int)) h3.1
      have b4 := zdif_le (y := (i : Int)) h4.1
      have hS : zSoP V D (i : Int) := ⟨by omega, y⟩
      refine hK _ _ _ _ _ ⟨i + 1, by omega, by omega, by simp only [zcn]; rw [zbI_t y], ⟨by rw [e3]; exact zand_nn _ _, fun e => ?_⟩, ⟨by rw [e4]; exact zdif_nn h4.1, fun e => ?_⟩, by omega, c2, f1.trans (zf19 F2)⟩ (by omega)
      · rw [e3, zbt_and, h3.2]
        constructor
        · rintro ⟨⟨z1, z2⟩, z3⟩
          refine ⟨z1, fun k hk hk2 => ?_⟩
          rcases (show k < (i : Int) ∨ k = (i : Int) by omega) with v | rfl
          · exact z2 k hk v
          · exact z3
        · rintro ⟨z1, z2⟩
          exact ⟨⟨z1, fun k hk hk2 => z2 k hk (by omega)⟩, z2 _ hS (by omega)⟩
      · rw [e4, zbt_dif ⟨h4.1, by omega⟩, h4.2]
        constructor
        · rintro ⟨⟨z1, z2⟩, z3⟩
          refine ⟨z1, fun k hk hk2 => ?_⟩
          rcases (show k < (i : Int) ∨ k = (i : Int) by omega) with v | rfl
          · exact z2 k hk v
          · exact z3
        · rintro ⟨z1, z2⟩
          exact ⟨⟨z1, fun k hk hk2 => z2 k hk (by omega)⟩, z2 _ hS (by omega)⟩
    · have hno : ∀ k, zSoP V D k → k < (i : Int) + 1 → k < (i : Int) := fun k hk hk2 => by
        rcases (show k < (i : Int) ∨ k = (i : Int) by omega) with v | rfl
        · exact v
        · exact absurd hk.2 y
      refine hK _ _ _ _ _ ⟨i + 1, by omega, by omega, by simp only [zcn]; rw [zbI_f y]; omega, ⟨h3.1, fun e => ?_⟩, ⟨h4.1, fun e => ?_⟩, h34, c2, f1.trans (zf19 F2)⟩ (by omega)
      · rw [h3.2]; exact ⟨fun z => ⟨z.1, fun k hk hk2 => z.2 k hk (hno k hk (by omega))⟩, fun z => ⟨z.1, fun k hk hk2 => z.2 k hk (by omega)⟩⟩
      · rw [h4.2]; exact ⟨fun z => ⟨z.1, fun k hk hk2 => z.2 k hk (hno k hk (by omega))⟩, fun z => ⟨z.1, fun k hk hk2 => z.2 k hk (by omega)⟩⟩
/-- the least way to an eye -/
def zRea (V D : zPH) (l e co x : Int) : Prop := (((0 ≤ l ∧ l < V 0 2) ∧ (0 ≤ e ∧ e < V 0 5) ∧ (co = 1 ∨ co = 2 ∨ co = 4)) ∧ ∃ b0 : Nat, b0 < 3 ∧ co = 2 ^ b0 ∧ ((x = -1 ∧ ∀ w : Nat, w < 4 → ¬ zRe (zvL V (2 ^ l.toNat) co b0) (zvS V (D 0 0) (D 0 1) b0) (4 * (V 5 e.toNat).toNat + w)) ∨ ((∃ w : Nat, w < 4 ∧ zDi (zvL V (2 ^ l.toNat) co b0) (zvS V (D 0 0) (D 0 1) b0) (4 * (V 5 e.toNat).toNat + w) x) ∧ ∀ (w : Nat) (y : Int), w < 4 → zDi (zvL V (2 ^ l.toNat) co b0) (zvS V (D 0 0) (D 0 1) b0) (4 * (V 5 e.toNat).toNat + w) y → x ≤ y))) ∨ (¬ ((0 ≤ l ∧ l < V 0 2) ∧ (0 ≤ e ∧ e < V 0 5) ∧ (co = 1 ∨ co = 2 ∨ co = 4)) ∧ x = -1)
theorem zRea_u {V D : zPH} {l e co x y : Int} (h : zRea V D l e co x) (h' : zRea V D l e co y) : x = y := by
  rcases h with ⟨a, b, b1, b2, b3⟩ | ⟨a, b⟩ <;> rcases h' with ⟨a', b', b1', b2', b3'⟩ | ⟨a', b'⟩
  · have hb : b = b' := by
      rw [b2] at b2'
      rcases (show b = 0 ∨ b = 1 ∨ b = 2 by omega) with rfl | rfl | rfl <;> rcases (show b' = 0 ∨ b' = 1 ∨ b' = 2 by omega) with rfl | rfl | rfl <;> first | rfl | (exact absurd b2' (by decide))
    subst hb
    rcases b3 with ⟨c1, c2⟩ | ⟨⟨w, c1, c2⟩, c3⟩ <;> rcases b3' with ⟨d1, d2⟩ | ⟨⟨w', d1, d2⟩, d3⟩
    · omega
    · exact absurd ⟨_, d2.2.1⟩ (c2 w' d1)
    · exact absurd ⟨_, c2.2.1⟩ (d2 w c1)
    · have := c3 w' y d1 d2; have := d3 w x c1 c2; omega
  · exact absurd a a'
  · exact absurd a' a
  · omega
theorem zDi_u {S : Nat → Prop} {s : Nat → Nat → Prop} {n : Nat} {r r' : Int} (h : zDi S s n r) (h' : zDi S s n r') : r = r' := by
  obtain ⟨a, b, c⟩ := h
  obtain ⟨a', b', c'⟩ := h'
  have := c _ b'
  have := c' _ b
  omega
theorem s_B_reach (hB : zBD V D) (h : zCI σ V D t u) {l e co : Int} (hl : zI l) (he : zI e) (hc : zI co) (hX : ∀ σ' x, zRea V D l e co x → zCI σ' V D t u → zfB σ σ' → X (some (iZ x)) σ') (hno : ∀ e : Nat, (e : Int) < V 0 5 → V 5 e ≠ -1) : MS G zm_B_reach 5 [zr G 0, iZ l, iZ e, iZ co] σ X := by
  have hr := hB.r
  have hV3 := hB.1.2.1
  have bad : ¬ ((0 ≤ l ∧ l < V 0 2) ∧ (0 ≤ e ∧ e < V 0 5) ∧ (co = 1 ∨ co = 2 ∨ co = 4)) → X (some (iZ (-1))) σ := fun q => hX σ _ (Or.inr ⟨q, rfl⟩) h zfB.rf
  refine k_B_reach h.1.1 (s_B_isNumber hB h (g := 0) rfl (by decide) hl (fun l1 l2 => Or.inr ⟨rfl, ?_⟩) (fun q => Or.inl ⟨rfl, bad (fun z => q z.1)⟩))
  refine s_B_isNumber hB h (g := 3) rfl (by decide) he (fun e1 e2 => Or.inr ⟨rfl, ?_⟩) (fun q => Or.inl ⟨rfl, bad (fun z => q z.2.1)⟩)
  refine s_B_isOneColour hc (fun c1 => Or.inr ⟨rfl, ?_⟩) (fun q => Or.inl ⟨rfl, bad (fun z => q z.2.2)⟩)
  have l2' : l < V 0 2 := l2
  have e2' : e < V 0 5 := e2
  refine ⟨by omega, ?_⟩
  rw [Int.one_mul]
  obtain ⟨b0, hb0, hco⟩ : ∃ b0 : Nat, b0 < 3 ∧ co = 2 ^ b0 := by
    rcases c1 with rfl | rfl | rfl
    · exact ⟨0, by decide, rfl⟩
    · exact ⟨1, by decide, rfl⟩
    · exact ⟨2, by decide, rfl⟩
  have hp8 := zpow_le (show l.toNat ≤ 8 by omega)
  rw [show (2 : Int) ^ 8 = 256 from rfl] at hp8
  have hp0 := zpow_nn l.toNat
  obtain ⟨d1, d2, -⟩ := h.2.2.2.2.1
  refine k_B_lightOf h.1.1 ⟨h.1.2.2.2.1, ?_⟩
  rw [d1, d2]
  refine s_shine_d (Or.inl rfl) h.1.1 h.2.2.2.1.1 hB.1 h.2.1.1 (by omega) (by omega) (by omega) hb0 hco (fun σ1 g F li hf hd => ⟨rfl, rfl, ?_⟩)
  have c1' : zCI σ1 V D t u := h.to (fun q h1 h2 h3 => F q (by omega) (by omega) (by omega) (by omega) (by omega)) g (zLG_to h.2.2.2.1.2 (fun q h1 h2 => F q (by omega) (by omega) (by omega) (by omega) (by omega)))
  refine ⟨c1'.1.2.2.2.1, s_T_squareOf c1'.1.1 c1'.2.1.1.1 (by decide) (by omega) ⟨_, rfl, ?_⟩⟩
  have hne := hno e.toNat (by omega)
  rcases hB.1.2.2.2.1 e.toNat (by omega) with z | ⟨z1, z2, z3, z4⟩
  · exact absurd z hne
  · have hm := (c1'.2.1.1.2.2.2.2.1 _ z2).2.1 z3
    rw [z4] at hm
    have hs := ((c1'.2.1.1.2.2.2.1 _ z2).2 (by omega)).2.2.2.2.2
    rw [hm] at hs
    rw [show (3 * 8 + e).toNat = 24 + ((e.toNat : Nat) : Int).toNat by omega, hs]
    generalize hq : (V 5 e.toNat).toNat = q at *
    refine s_L_leastTo (Or.inl rfl) g rfl (zP_lt hB.1 z2).2 hf (fun r hr4 => ⟨_, rfl, hX σ1 r (Or.inl ⟨⟨⟨l1, l2'⟩, ⟨e1, e2'⟩, c1⟩, b0, hb0, hco, ?_⟩) c1' (fun q hq => F q (by omega) (by omega) (by omega) (by omega) (by omega))⟩)
    have hdd : ∀ w : Nat, w < 4 → ((σ1 (19 + 1) (4 * zP V q + w) ≠ 0 ↔ zRe (zvL V (2 ^ l.toNat) co b0) (zvS V (D 0 0) (D 0 1) b0) (4 * q + w)) ∧ (σ1 (19 + 1) (4 * zP V q + w) ≠ 0 → zDi (zvL V (2 ^ l.toNat) co b0) (zvS V (D 0 0) (D 0 1) b0) (4 * q + w) (σ1 (19 + 4) (4 * zP V q + w)))) := fun w hw => by
      have := hd (4 * q + w) (by rw [show (4 * q + w) / 4 = q by omega]; exact z2)
      rw [zE_4 hw] at this
      exact this
    rw [hq]
    rcases hr4 with ⟨r1, r2⟩ | ⟨r1, ⟨w, w1, w2, w3⟩, r3⟩
    · exact Or.inl ⟨r1, fun w hw hre => (hdd w hw).1.mpr hre (r2 w hw)⟩
    · refine Or.inr ⟨⟨w, w1, by rw [← w3]; exact (hdd w w1).2 w2⟩, fun w' y hw' hy => ?_⟩
      have hl : σ1 (19 + 1) (4 * zP V q + w') ≠ 0 := (hdd w' hw').1.mpr ⟨_, hy.2.1⟩
      rw [zDi_u hy ((hdd w' hw').2 hl)]
      exact r3 w' hw' hl
/-- what behind() answers -/
def zBeh (V D : zPH) (e x : Int) : Prop := ((0 ≤ e ∧ e < V 0 5) ∧ 0 ≤ x ∧ ∀ l : Nat, zbt x l ↔ (l : Int) < V 0 2 ∧ zSe V (D 0 0) (D 0 1) (2 ^ l) 7 e.toNat ≠ 0) ∨ (¬ (0 ≤ e ∧ e < V 0 5) ∧ x = -1)
theorem zBeh_u {V D : zPH} {e x y : Int} (h : zBeh V D e x) (h' : zBeh V D e y) : x = y := by
  rcases h with ⟨a, b, c⟩ | ⟨a, b⟩ <;> rcases h' with ⟨a', b', c'⟩ | ⟨a', b'⟩
  · exact zbt_ext b b' (fun l => by rw [c, c'])
  · exact absurd a a'
  · exact absurd a' a
  · omega
theorem s_B_behind (hB : zBD V D) (h : zCI σ V D t u) {e : Int} (he : zI e) (hX : ∀ σ' x, zBeh V D e x → zCI σ' V D t u → zfB σ σ' → X (some (iZ x)) σ') : MS G zm_B_behind 5 [zr G 0, iZ e] σ X := by
  have hV3 := hB.1.2.1
  refine k_B_behind h.1.1 (s_B_isNumber hB h (g := 3) rfl (by decide) he (fun e1 e2 => Or.inr ⟨rfl, ?_⟩) (fun q => Or.inl ⟨rfl, hX σ _ (Or.inr ⟨q, rfl⟩) h zfB.rf⟩))
  have e2' : e < V 0 5 := e2
  refine zLP2_ind (fun x2 x3 σ1 => ∃ i : Nat, x3 = (i : Int) ∧ (i : Int) ≤ V 0 2 ∧ (0 ≤ x2 ∧ ∀ l : Nat, zbt x2 l ↔ l < i ∧ zSe V (D 0 0) (D 0 1) (2 ^ l) 7 e.toNat ≠ 0) ∧ zCI σ1 V D t u ∧ zfB σ σ1) (fun _ x3 _ => (8 - x3).toNat) ?_ ⟨0, rfl, by omega, ⟨by decide, fun l => ⟨fun z => absurd z zbt_0, fun z => by omega⟩⟩, h, zfB.rf⟩
  rintro K x2 x3 σ1 ⟨i, rfl, hi, hx, c1, f1⟩ hK
  have e8 : σ1 (t + 8) 0 = V 0 2 := c1.2.1.1.2.1.2.2.1
  refine ⟨c1.1.2.2.2.1, by omega, fun hge => hX σ1 _ (Or.inl ⟨⟨e1, e2'⟩, hx.1, fun l => ?_⟩) c1 f1, fun hlt => ⟨by omega, ?_⟩⟩
  · rw [hx.2]
    exact ⟨fun z => ⟨by omega, z.2⟩, fun z => ⟨by omega, z.2⟩⟩
  · rw [Int.one_mul, Int.toNat_natCast]
    have hp8 := zpow_le (show i ≤ 8 by omega)
    rw [show (2 : Int) ^ 8 = 256 from rfl] at hp8
    refine s_B_lightOf hB c1 ⟨zpow_nn _, by omega⟩ (by decide) (fun σ2 c2 f2 li => ⟨rfl, by omega, ?_⟩)
    have hse := li.2.2.1 e.toNat (by omega)
    have h8 := zSe_8 (V := V) (tu := D 0 0) (st := D 0 1) (la := 2 ^ i) (co := 7) (e := e.toNat)
    rw [show (21 : Nat) = 19 + 2 from rfl, hse]
    refine ⟨by omega, fun z => hK _ _ _ ⟨i + 1, by omega, by omega, ⟨hx.1, fun l => ?_⟩, c2, f1.trans f2⟩ (by omega), fun z => ⟨by omega, ⟨hx.1, zpow_nn _⟩, ?_⟩⟩
    · rw [hx.2]
      constructor
      · rintro ⟨z1, z2⟩; exact ⟨by omega, z2⟩
      · rintro ⟨z1, z2⟩
        rcases (show l < i ∨ l = i by omega) with v | rfl
        · exact ⟨v, z2⟩
        · exact absurd z z2
    · rintro y rfl
      refine hK _ _ _ ⟨i + 1, by omega, by omega, ⟨zor_nn _ _, fun l => ?_⟩, c2, f1.trans f2⟩ (by omega)
      rw [zbt_or, hx.2, zbt_pow]
      constructor
      · rintro (⟨z1, z2⟩ | rfl)
        · exact ⟨by omega, z2⟩
        · exact ⟨by omega, z⟩
      · rintro ⟨z1, z2⟩
        rcases (show l < i ∨ l = i by omega) with v | rfl
        · exact Or.inl ⟨v, z2⟩
        · exact Or.inr rfl
/-- squares in rings -/
def zRgq (V D : zPH) (b q : Nat) : Prop := zva V q ∧ ∃ w, w < 4 ∧ zRe (zvL V 255 (2 ^ b) b) (zvS V (D 0 0) (D 0 1) b) (4 * q + w) ∧ zRe (zvS V (D 0 0) (D 0 1) b (4 * q + w)) (zvS V (D 0 0) (D 0 1) b) (4 * q + w)
/-- what rings() answers -/
def zRgs (V D : zPH) (co x : Int) : Prop := (∃ b : Nat, b < 3 ∧ co = 2 ^ b ∧ x = zcn (zRgq V D b) 144) ∨ (¬ (co = 1 ∨ co = 2 ∨ co = 4) ∧ x = -1)
theorem zRgs_u {V D : zPH} {co x y : Int} (h : zRgs V D co x) (h' : zRgs V D co y) : x = y := by
  have hb : ∀ b : Nat, b < 3 → co = 2 ^ b → (co = 1 ∨ co = 2 ∨ co = 4) := fun b h1 h2 => by
    rcases (show b = 0 ∨ b = 1 ∨ b = 2 by omega) with rfl | rfl | rfl
    · exact Or.inl h2
    · exact Or.inr (Or.inl h2)
    · exact Or.inr (Or.inr h2)
  rcases h with ⟨b, a1, a2, a3⟩ | ⟨a, b⟩ <;> rcases h' with ⟨b', a1', a2', a3'⟩ | ⟨a', b'⟩
  · rw [a2] at a2'
    have : b = b' := by
      rcases (show b = 0 ∨ b = 1 ∨ b = 2 by omega) with rfl | rfl | rfl <;> rcases (show b' = 0 ∨ b' = 1 ∨ b' = 2 by omega) with rfl | rfl | rfl <;> first | rfl | (exact absurd a2' (by decide))
    rw [a3, a3', this]
  · exact absurd (hb b a1 a2) a'
  · exact absurd (hb b' a1' a2') a
  · omega
theorem s_B_rings (hB : zBD V D) (h : zCI σ V D t u) {co : Int} (hc : zI co) (hX : ∀ σ' x, zRgs V D co x → zCI σ' V D t u → zfB σ σ' → X (some (iZ x)) σ') : MS G zm_B_rings 5 [zr G 0, iZ co] σ X := by
  have hr := hB.r
  have ht : t = 32 ∨ t = 45 := h.1.1
  refine k_B_rings h.1.1 (s_B_isOneColour hc (fun c1 => Or.inr ⟨rfl, ?_⟩) (fun q => Or.inl ⟨rfl, hX σ _ (Or.inr ⟨q, rfl⟩) h zfB.rf⟩))
  obtain ⟨b0, hb0, hco⟩ : ∃ b0 : Nat, b0 < 3 ∧ co = 2 ^ b0 := by
    rcases c1 with rfl | rfl | rfl
    · exact ⟨0, by decide, rfl⟩
    · exact ⟨1, by decide, rfl⟩
    · exact ⟨2, by decide, rfl⟩
  refine s_B_lightOf hB h (by decide) (by omega) (fun σ1 c1 f1 li => ⟨rfl, ?_⟩)
  refine s_JA_fill (zs_2 _) (by decide) (by decide) (fun σ2 r2 z2 _ => ⟨rfl, ?_⟩)
  have c2 : zCI σ2 V D t u := c1.to (fun q q1 q2 q3 => r2 q q1) (zLG_to c1.2.2.2.1.1 (fun q q1 q2 => r2 q (by omega))) (zLG_to c1.2.2.2.1.2 (fun q q1 q2 => r2 q (by omega)))
  have g2 := c2.2.2.2.1.1
  -- light at a node, by the board
  have lit : ∀ m, zva V (m / 4) → (σ2 (19 + 1) (zE V m) ≠ 0 ↔ zRe (zvL V 255 co b0) (zvS V (D 0 0) (D 0 1) b0) m) := fun m hm => by
    rw [r2 (19 + 1) (by decide), li.1 m hm]
    rw [zbt_ne0 zLv_8.1]
    constructor
    · rintro ⟨b, hb⟩
      obtain ⟨hb3, hre⟩ := zLv_bt.mp hb
      have : b = b0 := by
        have hsrc : zbt co b := hre.ind (P := fun _ => zbt co b) (fun n hn => by obtain ⟨q, -, -, -, -, h5, -⟩ := hn; exact h5) (fun _ _ _ hn _ => hn)
        rw [hco, zbt_pow] at hsrc; exact hsrc
      rw [this] at hre; exact hre
    · intro hre
      exact ⟨b0, zLv_bt.mpr ⟨hb0, hre⟩⟩
  have hcount : ∀ (f : Nat → Int), (∀ p, f p = 0 ∨ f p = 1) → ∀ N p, p < N → f p = 0 → zcn (fun q => (if q = p then 1 else f q) ≠ 0) N = zcn (fun q => f q ≠ 0) N + 1 := by
    intro f hf N p hp h0
    rw [zcn_sp (fun q => (if q = p then 1 else f q) ≠ 0) (n := N) (a := p + 1) (b := N - (p + 1)) (by omega), zcn_sp (fun q => f q ≠ 0) (n := N) (a := p + 1) (b := N - (p + 1)) (by omega)]
    simp only [zcn]
    rw [zbI_t (by simp), zbI_f (by simp [h0])]
    rw [zcn_cg (P := fun q => (if q = p then 1 else f q) ≠ 0) (Q := fun q => f q ≠ 0) (n := p) (fun i hi => by simp [show i ≠ p by omega]), zcn_cg (P := fun i => (if p + 1 + i = p then 1 else f (p + 1 + i)) ≠ 0) (Q := fun i => f (p + 1 + i) ≠ 0) (n := N - (p + 1)) (fun i hi => by simp [show p + 1 + i ≠ p by omega])]
    omega
  refine zLP2_ind (fun x3 x4 σ3 => ∃ i : Nat, x4 = (i : Int) ∧ (i : Int) ≤ σ2 19 3 ∧ zCI σ3 V D t u ∧ (∀ q, q ≠ 2 → (q < 24 ∨ 28 < q) → σ3 q = σ2 q) ∧ (∀ p, σ3 2 p = 0 ∨ σ3 2 p = 1 ∨ 144 ≤ p) ∧ x3 = zcn (fun p => σ3 2 p ≠ 0) 144 ∧ (∀ p, p < 144 → σ3 2 p ≠ 0 → ∃ n : Nat, n / 4 = p ∧ σ2 (19 + 1) n ≠ 0 ∧ zRe (zcS σ2 t (D 0 0) (D 0 1) b0 n) (zcS σ2 t (D 0 0) (D 0 1) b0) n) ∧ (∀ j : Nat, j < i → zRe (zcS σ2 t (D 0 0) (D 0 1) b0 (σ2 (19 + 3) j / 8).toNat) (zcS σ2 t (D 0 0) (D 0 1) b0) (σ2 (19 + 3) j / 8).toNat → σ3 2 (σ2 (19 + 3) j / 8 / 4).toNat ≠ 0)) (fun _ x4 _ => (1728 - x4).toNat) ?_ ⟨0, rfl, g2.1.1, c2, fun _ _ _ => rfl, fun p => by
      by_cases hp : p < 144
      · exact Or.inl (z2 p hp)
      · omega, ?_, fun p hp h0 => absurd (z2 p hp) h0, fun j hj => by omega⟩
  rotate_left
  · rw [zcn_0]; intro i hi; simp [z2 i hi]
  rintro K x3 x4 σ3 ⟨i, rfl, hi, c3, F3, h01, hx3, hm1, hm2⟩ hK
  have gr := g2.1
  have e19 : σ3 19 = σ2 19 := F3 19 (by decide) (by decide)
  have hcr := zcn_r (fun p => σ3 2 p ≠ 0) 144
  have f3 : zfB σ σ3 := fun q hq => by rw [F3 q (by omega) (by omega), r2 q (by omega), f1 q hq]
  refine ⟨by rw [e19]; omega, fun hge => ?_, fun hlt => ?_⟩
  · rw [e19] at hge
    refine hX σ3 _ (Or.inl ⟨b0, hb0, hco, ?_⟩) c3 f3
    have hT2 := c2.2.1.1
    -- places beyond the board are never marked
    have hsq := zcn_sq hB.1 (P := zRgq V D b0) (Q := fun p => σ3 2 p ≠ 0) (fun q hq => ?_)
    · have hN := zpr_le hB.1
      rw [hx3, zcn_sp (fun p => σ3 2 p ≠ 0) (n := 144) (a := (V 0 0 * V 0 1).toNat) (b := 144 - (V 0 0 * V 0 1).toNat) (by omega), hsq, zcn_0 (n := 144 - (V 0 0 * V 0 1).toNat)]
      · rw [Int.add_zero]
        exact zcn_cg (fun q _ => ⟨fun z => z.2, fun z => ⟨z.1, z⟩⟩)
      · intro p hp hne
        obtain ⟨n, n1, n2, -⟩ := hm1 _ (by omega) hne
        rw [r2 (19 + 1) (by decide)] at n2
        obtain ⟨m, hm, he⟩ := li.2.1 n n2
        have := (zP_lt hB.1 hm).1
        unfold zE at he
        omega
    · constructor
      · intro hne
        obtain ⟨n, n1, n2, n3⟩ := hm1 _ (zP_lt hB.1 hq).2 hne
        have n2' := n2
        rw [r2 (19 + 1) (by decide)] at n2
        obtain ⟨m, hm, rfl⟩ := li.2.1 n n2
        have hmq : m / 4 = q := zP_inj hm hq (by unfold zE at n1; omega)
        refine ⟨hq, m % 4, by omega, ?_, ?_⟩
        · rw [show 4 * q + m % 4 = m by omega, ← hco]; exact (lit m hm).mp n2'
        · rw [show 4 * q + m % 4 = m by omega]
          exact (zcA_v hB.1 hT2 m m hm hm).mp n3
      · rintro ⟨-, w, hw, w1, w2⟩
        have hva : zva V ((4 * q + w) / 4) := by rw [show (4 * q + w) / 4 = q by omega]; exact hq
        rw [← hco] at w1
        have h1 := (lit _ hva).mpr w1
        obtain ⟨b, hb⟩ := (zbt_ne0 (g2.2.1 _).1).mp h1
        obtain ⟨j, j1, j2, -⟩ := g2.2.2.2.2.1 _ b hb
        have h2 := hm2 j (by omega) (by rw [j2, Int.toNat_natCast]; exact (zcA_v hB.1 hT2 _ _ hva hva).mpr w2)
        rw [j2, zE_4 hw, show (((4 * zP V q + w : Nat) : Int) / 4).toNat = zP V q by omega] at h2
        exact h2
  · rw [e19] at hlt
    have hg3 := g2.2.2.1 i
    refine s_L_arrivedNode (Or.inl rfl) (by omega) (by rw [Int.toNat_natCast, F3 (19 + 3) (by decide) (by decide)]; exact hg3) ⟨_, rfl, ?_⟩
    rw [Int.toNat_natCast, F3 (19 + 3) (by decide) (by decide)]
    refine ⟨by omega, ?_⟩
    rintro x6 e6
    have h01' := h01 x6.toNat
    refine ⟨by omega, by omega, fun hne => ?_, fun he => ⟨c3.1.2.2.2.1, ?_⟩⟩
    · refine hK _ _ _ ⟨i + 1, by omega, by omega, c3, F3, h01, hx3, hm1, fun j hj hre => ?_⟩ (by omega)
      rcases (show j < i ∨ j = i by omega) with q | rfl
      · exact hm2 j q hre
      · rw [← e6]; exact hne
    · rw [c3.2.2.2.2.1.1, c3.2.2.2.2.1.2.1]
      have tb : ∀ q, t ≤ q → q ≤ t + 12 → σ3 q = σ2 q := fun q h1 h2 => F3 q (by omega) (by omega)
      refine s_L_comesAgain (Or.inr rfl) c3.1.1 c3.2.2.2.1.2 c3.2.1.1.1 (n := (σ2 (19 + 3) i / 8).toNat) (by omega) (by omega) (by omega) (by omega) (by omega) (fun σ4 g4 F4 => ?_)
      have r4 : ∀ q, (q < 24 ∨ 28 < q) → σ4 q = σ3 q := fun q hq => F4 q (by omega) (by omega) (by omega) (by omega) (by omega)
      have hzc : ∀ b n m, zcS σ3 t (D 0 0) (D 0 1) b n m ↔ zcS σ2 t (D 0 0) (D 0 1) b n m := fun b n m => zcS_to tb
      have hzf : zcS σ3 t (D 0 0) (D 0 1) = zcS σ2 t (D 0 0) (D 0 1) := by funext b n m; exact propext (hzc b n m)
      rw [hzf]
      have hbb : (∃ b, zbt co b ∧ zRe (zcS σ2 t (D 0 0) (D 0 1) b (σ2 (19 + 3) i / 8).toNat) (zcS σ2 t (D 0 0) (D 0 1) b) (σ2 (19 + 3) i / 8).toNat) ↔ zRe (zcS σ2 t (D 0 0) (D 0 1) b0 (σ2 (19 + 3) i / 8).toNat) (zcS σ2 t (D 0 0) (D 0 1) b0) (σ2 (19 + 3) i / 8).toNat := by
        rw [hco]
        constructor
        · rintro ⟨b, h1, h2⟩; rw [zbt_pow] at h1; rw [h1] at h2; exact h2
        · intro h2; exact ⟨b0, zbt_pow.mpr rfl, h2⟩
      rw [hbb]
      have c4 : zCI σ4 V D t u := c3.to (fun q q1 q2 q3 => r4 q (by omega)) (zLG_to c3.2.2.2.1.1 (fun q q1 q2 => r4 q (by omega))) g4
      have F4' : ∀ q, q ≠ 2 → (q < 24 ∨ 28 < q) → σ4 q = σ2 q := fun q q1 q2 => by rw [r4 q q2, F3 q q1 q2]
      have e42 : σ4 2 = σ3 2 := r4 2 (by decide)
      refine ⟨fun hre => Or.inr ⟨rfl, by omega, ?_⟩, fun hre => Or.inl ⟨rfl, hK _ _ _ ⟨i + 1, by omega, by omega, c4, F4', by rw [e42]; exact h01, by rw [e42]; exact hx3, by rw [e42]; exact hm1, fun j hj hre' => ?_⟩ (by omega)⟩⟩
      · rintro σ5 e5
        have e52 : ∀ p, σ5 2 p = if p = x6.toNat then 1 else σ3 2 p := fun p => by
          rw [e5]
          split
          · rename_i q; rw [q, zupd_same]
          · rename_i q; rw [zupd_nk q, e42]
        have r5 : ∀ q, q ≠ 2 → σ5 q = σ4 q := fun q hq => by rw [e5, zupd_row hq]
        refine hK _ _ _ ⟨i + 1, by omega, by omega, c4.to (fun q q1 q2 q3 => r5 q q1) (zLG_to c4.2.2.2.1.1 (fun q q1 q2 => r5 q (by omega))) (zLG_to c4.2.2.2.1.2 (fun q q1 q2 => r5 q (by omega))), fun q q1 q2 => by rw [r5 q q1, F4' q q1 q2], fun p => ?_, ?_, fun p hp hne => ?_, fun j hj hre' => ?_⟩ (by omega)
        · rw [e52]; split
          · exact Or.inr (Or.inl rfl)
          · exact h01 p
        · have := zcn_cg (P := fun p => σ5 2 p ≠ 0) (Q := fun p => (if p = x6.toNat then 1 else (if p < 144 then σ3 2 p else 0)) ≠ 0) (n := 144) (fun p hp => by rw [e52]; simp [hp])
          rw [this, hcount (fun p => if p < 144 then σ3 2 p else 0) (fun p => by
            show (if p < 144 then σ3 2 p else 0) = 0 ∨ (if p < 144 then σ3 2 p else 0) = 1
            have := h01 p
            split <;> omega) 144 x6.toNat (by omega) (by rw [if_pos (by omega)]; exact he)]
          rw [hx3]
          exact congrArg (fun z : Int => z + 1) (zcn_cg (fun p hp => by simp [hp]))
        · rw [e52] at hne
          by_cases q : p = x6.toNat
          · refine ⟨(σ2 (19 + 3) i / 8).toNat, by omega, ?_, hre⟩
            obtain ⟨hn0, hn1⟩ := g2.2.2.2.1 i hlt
            obtain ⟨b, hb⟩ := (zbt_ne0 (show 0 ≤ σ2 (19 + 3) i % 8 by omega)).mp hn0
            exact (zbt_ne0 (g2.2.1 _).1).mpr ⟨b, hn1 b hb⟩
          · rw [if_neg q] at hne; exact hm1 p hp hne
        · rw [e52]
          split
          · decide
          · rename_i q
            rcases (show j < i ∨ j = i by omega) with q2 | rfl
            · exact hm2 j q2 hre'
            · exact absurd (by rw [e6]) q
      · rw [e42]
        rcases (show j < i ∨ j = i by omega) with q | rfl
        · exact hm2 j q hre'
        · exact absurd hre' hre
end CY
