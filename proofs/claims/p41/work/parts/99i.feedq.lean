/-- a letter of the text, blanks behind it -/
def xCh (t : List Int) (i : Nat) : Int := if i < t.length then t.getD i 0 else 32
/-- so many of a number's four letters -/
def xPk (t : List Int) (b : Nat) : Nat → Int
  | 0 => 0
  | m + 1 => 256 * xPk t b m + xCh t (b + m)
def xLet (t : List Int) : Prop := ∀ j, j < t.length → 0 ≤ t.getD j 0 ∧ t.getD j 0 < 128
theorem xCh_r {t : List Int} (h : xLet t) (i : Nat) : 0 ≤ xCh t i ∧ xCh t i < 128 := by
  unfold xCh
  split
  · rename_i q; exact h i q
  · decide
theorem xPk_r {t : List Int} (h : xLet t) (b : Nat) : (0 ≤ xPk t b 0 ∧ xPk t b 0 < 1) ∧ (0 ≤ xPk t b 1 ∧ xPk t b 1 < 128) ∧ (0 ≤ xPk t b 2 ∧ xPk t b 2 < 32768) ∧ (0 ≤ xPk t b 3 ∧ xPk t b 3 < 8388608) ∧ (0 ≤ xPk t b 4 ∧ xPk t b 4 < 2147483648) := by
  have h0 := xCh_r h (b + 0)
  have h1 := xCh_r h (b + 1)
  have h2 := xCh_r h (b + 2)
  have h3 := xCh_r h (b + 3)
  simp only [xPk]
  omega
theorem xPk_rr {t : List Int} (h : xLet t) (b m : Nat) (hm : m ≤ 4) : 0 ≤ xPk t b m ∧ xPk t b m < 2147483648 := by
  obtain ⟨a0, a1, a2, a3, a4⟩ := xPk_r h b
  rcases (show m = 0 ∨ m = 1 ∨ m = 2 ∨ m = 3 ∨ m = 4 by omega) with rfl | rfl | rfl | rfl | rfl <;> omega
theorem xPk_b {t : List Int} (h : xLet t) (b i : Nat) (hi : i < 4) : xPk t b 4 / 2 ^ (24 - 8 * i) % 256 = xCh t (b + i) := by
  have h0 := xCh_r h (b + 0)
  have h1 := xCh_r h (b + 1)
  have h2 := xCh_r h (b + 2)
  have h3 := xCh_r h (b + 3)
  rcases (show i = 0 ∨ i = 1 ∨ i = 2 ∨ i = 3 by omega) with rfl | rfl | rfl | rfl
  · simp only [xPk]
    rw [show (2 : Int) ^ (24 - 8 * 0) = 16777216 by decide]
    omega
  · simp only [xPk]
    rw [show (2 : Int) ^ (24 - 8 * 1) = 65536 by decide]
    omega
  · simp only [xPk]
    rw [show (2 : Int) ^ (24 - 8 * 2) = 256 by decide]
    omega
  · simp only [xPk]
    rw [show (2 : Int) ^ (24 - 8 * 3) = 1 by decide]
    omega
theorem xor_add {a b : Int} (ha : 0 ≤ a) (hb : 0 ≤ b ∧ b < 256) : zor (a * 256) b = 256 * a + b := by
  obtain ⟨n, rfl⟩ := Int.eq_ofNat_of_zero_le ha
  obtain ⟨m, rfl⟩ := Int.eq_ofNat_of_zero_le hb.1
  unfold zor
  have e : ((n : Int) * 256).toNat = n <<< 8 := by rw [Nat.shiftLeft_eq]; omega
  rw [e, Int.toNat_natCast, ← Nat.shiftLeft_add_eq_or_of_lt (by omega : m < 2 ^ 8), Nat.shiftLeft_eq]
  omega
/-- the tape behind some bytes of a number -/
theorem zpk_v {V : zPH} (a : Int) : ∀ (m : Nat) {D : zPH}, zBD V D → D 0 3 + m ≤ 1600 → zpk D a m 0 3 = D 0 3 + m ∧ (∀ k, k ≠ 3 → zpk D a m 0 k = D 0 k) ∧ ∀ k : Nat, zpk D a m 4 k = if D 0 3 ≤ k ∧ (k : Int) < D 0 3 + m then a / 2 ^ (24 - 8 * (k - (D 0 3).toNat)) % 256 else D 4 k
  | 0, D, _, _ => ⟨by simp [zpk], fun _ _ => rfl, fun k => by rw [if_neg (by omega)]; rfl⟩
  | m + 1, D, hB, hl => by
    have h3 := hB.2.2.2.2.2.1
    obtain ⟨i1, i2, i3⟩ := zpk_v a m hB (by omega)
    obtain ⟨v1, v2, v3, v4⟩ := zpb_v (zpk D a m) (a / 2 ^ (24 - 8 * m) % 256)
    refine ⟨by show zpb _ _ 0 3 = _; omega, fun k hk => (v2 k hk).trans (i2 k hk), fun k => ?_⟩
    refine (v4 k).trans ?_
    rw [i1]
    by_cases q : k = (D 0 3 + m).toNat
    · rw [if_pos q, if_pos (by omega), show k - (D 0 3).toNat = m by omega]
    · rw [if_neg q, i3]
      by_cases q2 : D 0 3 ≤ k ∧ (k : Int) < D 0 3 + m
      · rw [if_pos q2, if_pos (by omega)]
      · rw [if_neg q2, if_neg (by omega)]
/-- the tape behind twenty letters -/
theorem zfed_v {V D : zPH} {t : List Int} {j : Nat} (ht : xLet t) (hB : zBD V D) (hl : D 0 3 = ((20 * j : Nat) : Int)) (hj : 20 * j + 20 ≤ 1600) :
    let D' := zfed D (xPk t (20 * j) 4) (xPk t (20 * j + 4) 4) (xPk t (20 * j + 8) 4) (xPk t (20 * j + 12) 4) (xPk t (20 * j + 16) 4)
    zBD V D' ∧ D' 0 3 = ((20 * (j + 1) : Nat) : Int) ∧ (∀ k, k ≠ 3 → D' 0 k = D 0 k) ∧ ∀ k : Nat, (20 * j ≤ k → k < 20 * j + 20 → D' 4 k = xCh t k) ∧ (¬ (20 * j ≤ k ∧ k < 20 * j + 20) → D' 4 k = D 4 k) := by
  intro D'
  obtain ⟨b1, e1⟩ := zpk_D (a := xPk t (20 * j) 4) hB 4 (by omega)
  obtain ⟨b2, e2⟩ := zpk_D (a := xPk t (20 * j + 4) 4) b1 4 (by omega)
  obtain ⟨b3, e3⟩ := zpk_D (a := xPk t (20 * j + 8) 4) b2 4 (by omega)
  obtain ⟨b4, e4⟩ := zpk_D (a := xPk t (20 * j + 12) 4) b3 4 (by omega)
  obtain ⟨b5, e5⟩ := zpk_D (a := xPk t (20 * j + 16) 4) b4 4 (by omega)
  obtain ⟨-, n1, v1⟩ := zpk_v (xPk t (20 * j) 4) 4 hB (by omega)
  obtain ⟨-, n2, v2⟩ := zpk_v (xPk t (20 * j + 4) 4) 4 b1 (by omega)
  obtain ⟨-, n3, v3⟩ := zpk_v (xPk t (20 * j + 8) 4) 4 b2 (by omega)
  obtain ⟨-, n4, v4⟩ := zpk_v (xPk t (20 * j + 12) 4) 4 b3 (by omega)
  obtain ⟨-, n5, v5⟩ := zpk_v (xPk t (20 * j + 16) 4) 4 b4 (by omega)
  refine ⟨b5, by show zpk _ _ 4 0 3 = _; omega, fun k hk => (((((n5 k hk).trans (n4 k hk)).trans (n3 k hk)).trans (n2 k hk)).trans (n1 k hk)), fun k => ?_⟩
  have E : D' 4 k = zpk (zpk (zpk (zpk (zpk D (xPk t (20 * j) 4) 4) (xPk t (20 * j + 4) 4) 4) (xPk t (20 * j + 8) 4) 4) (xPk t (20 * j + 12) 4) 4) (xPk t (20 * j + 16) 4) 4 4 k := rfl
  rw [v5] at E
  have key : ∀ (b : Nat) (L : Int), L = (b : Int) → b ≤ k → k < b + 4 → xPk t b 4 / 2 ^ (24 - 8 * (k - L.toNat)) % 256 = xCh t k := fun b L hL h1 h2 => by
    subst hL
    rw [Int.toNat_natCast, xPk_b ht b (k - b) (by omega), show b + (k - b) = k by omega]
  constructor
  · intro h1 h2
    rw [E]
    by_cases q5 : 20 * j + 16 ≤ k
    · rw [if_pos (by omega)]; exact key (20 * j + 16) _ (by omega) q5 (by omega)
    rw [if_neg (by omega), v4]
    by_cases q4 : 20 * j + 12 ≤ k
    · rw [if_pos (by omega)]; exact key (20 * j + 12) _ (by omega) q4 (by omega)
    rw [if_neg (by omega), v3]
    by_cases q3 : 20 * j + 8 ≤ k
    · rw [if_pos (by omega)]; exact key (20 * j + 8) _ (by omega) q3 (by omega)
    rw [if_neg (by omega), v2]
    by_cases q2 : 20 * j + 4 ≤ k
    · rw [if_pos (by omega)]; exact key (20 * j + 4) _ (by omega) q2 (by omega)
    rw [if_neg (by omega), v1, if_pos (by omega)]
    exact key (20 * j) _ (by omega) h1 (by omega)
  · intro h
    rw [E, if_neg (by omega), v4, if_neg (by omega), v3, if_neg (by omega), v2, if_neg (by omega), v1, if_neg (by omega)]
/-- the tape holds this text -/
def xTape (V D : zPH) (t : List Int) : Prop := zBD V D ∧ D 0 3 = (t.length : Int) ∧ ∀ k : Nat, k < t.length → D 4 k = t.getD k 0
section FEED
variable {v : xEv} {D : va_G} {cs : Nat → ClassId} {X : xX}
/-- the array while it is filled: so many letters laid -/
def xF (t : List Int) (b i : Nat) : Nat → Int := fun a => xPk t (b + 4 * a) (min 4 (i - 4 * a))
theorem xF_0 (t : List Int) (b : Nat) : xF t b 0 = fun _ => 0 := by
  funext a
  unfold xF
  rw [show min 4 (0 - 4 * a) = 0 by omega]
  rfl
theorem xF_s {t : List Int} {b i : Nat} : zaU (xF t b i) (i / 4) (256 * xF t b i (i / 4) + xCh t (b + i)) = xF t b (i + 1) := by
  funext a
  by_cases q : a = i / 4
  · subst q
    rw [zaU_s]
    unfold xF
    rw [show min 4 (i - 4 * (i / 4)) = i % 4 by omega, show min 4 (i + 1 - 4 * (i / 4)) = i % 4 + 1 by omega, xPk, show b + 4 * (i / 4) + i % 4 = b + i by omega]
  · rw [zaU_n q]
    unfold xF
    by_cases q2 : a < i / 4
    · rw [show min 4 (i - 4 * a) = 4 by omega, show min 4 (i + 1 - 4 * a) = 4 by omega]
    · rw [show min 4 (i - 4 * a) = 0 by omega, show min 4 (i + 1 - 4 * a) = 0 by omega]
theorem xF_20 (t : List Int) (b : Nat) {a : Nat} (h : a < 5) : xF t b 20 a = xPk t (b + 4 * a) 4 := by
  unfold xF
  rw [show min 4 (20 - 4 * a) = 4 by omega]
set_option maxHeartbeats 2000000 in
theorem q_feedIn {G : zG} {σ : zPH} {s va : Nat} {t : List Int} {f : Nat → Int} (hf0 : ∀ j, j < t.length → f j = t.getD j 0) (hf1 : ∀ j, 0 ≤ f j ∧ f j < 128) (ht : xLet t) (hl : t.length ≤ 1100) {j a C S : Nat} (hj : j ≤ 60) (hC : C ≤ 56 ∧ S ≤ 280)
    (k : ∀ z, QW v D cs zm_W_feed 4 56 280 X 74 [some (zr G 0), some (.ref s), some (iZ ((20 * j : Nat) : Int)), some (.ref a), z] [] ([xST s va, xBA cs va t.length f] ++ ((a, Sum.inl (cs 0, zarr 0 5 (xF t (20 * j) 20))) :: zws G σ)) C S) : ∀ d i : Nat, i + d = 20 → QW v D cs zm_W_feed 4 56 280 X 17 [some (zr G 0), some (.ref s), some (iZ ((20 * j : Nat) : Int)), some (.ref a), some (iZ (i : Int))] [] ([xST s va, xBA cs va t.length f] ++ ((a, Sum.inl (cs 0, zarr 0 5 (xF t (20 * j) i))) :: zws G σ)) C S := by
  intro d
  induction d with
  | zero =>
    intro i hi
    obtain rfl : i = 20 := hi
    refine QW_iload zd_W_feed_17 rfl ?_
    refine QW_bipush zd_W_feed_19 (by decide) ?_
    exact QW_icmp_ge zd_W_feed_21 ⟨⟨by decide, by decide⟩, by decide, by decide⟩ (fun hz => k _) (fun hz => absurd hz (by decide))
  | succ d ih =>
    intro i hi
    have hi20 : i < 20 := by omega
    have hcr := xCh_r ht (20 * j + i)
    have e4 : ((i : Int) / 4).toNat = i / 4 := by omega
    have hv : 0 ≤ xF t (20 * j) i (i / 4) ∧ xF t (20 * j) i (i / 4) < 8388608 := by
      unfold xF
      obtain ⟨a0, a1, a2, a3, a4⟩ := xPk_r ht (20 * j + 4 * (i / 4))
      rcases (show min 4 (i - 4 * (i / 4)) = 0 ∨ min 4 (i - 4 * (i / 4)) = 1 ∨ min 4 (i - 4 * (i / 4)) = 2 ∨ min 4 (i - 4 * (i / 4)) = 3 by omega) with h | h | h | h <;> rw [h] <;> omega
    have e66 : ∀ y, y = xCh t (20 * j + i) → QW v D cs zm_W_feed 4 56 280 X 66 [some (zr G 0), some (.ref s), some (iZ ((20 * j : Nat) : Int)), some (.ref a), some (iZ (i : Int))] [iZ y, iZ (xF t (20 * j) i (i / 4) * 256), iZ ((i : Int) / 4), .ref a] ([xST s va, xBA cs va t.length f] ++ ((a, Sum.inl (cs 0, zarr 0 5 (xF t (20 * j) i))) :: zws G σ)) C S := by
      intro y hy
      subst hy
      refine QW_ior zd_W_feed_66 ⟨by omega, by omega⟩ ?_
      refine QW_z (xor_add hv.1 ⟨by omega, by omega⟩) ?_
      refine QW_iast (f := xF t (20 * j) i) (wr := [xST s va, xBA cs va t.length f] ++ zws G σ) zd_W_feed_67 List.perm_middle ⟨by omega, by omega⟩ (by decide) ?_
      rw [e4, xF_s]
      refine QW_perm List.perm_middle.symm ?_
      refine QW_iinc zd_W_feed_68 rfl rfl (by decide) rfl ?_
      exact QW_goto zd_W_feed_71 (by have := ih (i + 1) (by omega); rwa [Int.natCast_add] at this)
    by_cases hlt : 20 * j + i < t.length
    · refine QW_iload zd_W_feed_17 rfl ?_
      refine QW_bipush zd_W_feed_19 (by decide) ?_
      refine QW_icmp_ge zd_W_feed_21 ⟨⟨by omega, by omega⟩, by omega, by omega⟩ (fun hz => by omega) (fun hz => ?_)
      refine QW_aload_n zd_W_feed_24 rfl ?_
      refine QW_iload zd_W_feed_25 rfl ?_
      refine QW_iconst zd_W_feed_27 ?_
      refine QW_idiv zd_W_feed_28 ⟨by omega, by omega⟩ ?_
      refine QW_aload_n zd_W_feed_29 rfl ?_
      refine QW_iload zd_W_feed_30 rfl ?_
      refine QW_iconst zd_W_feed_32 ?_
      refine QW_idiv zd_W_feed_33 ⟨by omega, by omega⟩ ?_
      refine QW_iald (f := xF t (20 * j) i) zd_W_feed_34 (List.mem_append_right _ List.mem_cons_self) ⟨by omega, by omega⟩ (by decide) ?_
      rw [e4]
      refine QW_bipush zd_W_feed_35 (by decide) ?_
      refine QW_ishlC 256 zd_W_feed_37 (by decide) rfl ?_
      refine QW_iload_n zd_W_feed_38 rfl ?_
      refine QW_iload zd_W_feed_39 rfl ?_
      refine QW_iadd zd_W_feed_41 ?_
      refine QW_z (show _ = ((20 * j + i : Nat) : Int) by omega) ?_
      refine QW_aload_n zd_W_feed_42 rfl ?_
      refine QW_callV (wc := [xST s va, xBA cs va t.length f]) (wr := (a, Sum.inl (cs 0, zarr 0 5 (xF t (20 * j) i))) :: zws G σ) (as := []) (mc' := 0) (ms' := 0) (X' := fun u w => u = some (iZ (t.length : Int)) ∧ w = [xST s va, xBA cs va t.length f]) zd_W_feed_43 zl_W_19 zk_JS_length zv_JS_length (fr' := 1) (by decide) List.mem_cons_self rfl rfl rfl rfl (Nat.le_of_ble_eq_true rfl) (List.Perm.refl _) ⟨by omega, by omega⟩ (q_lengthM (by omega) ⟨rfl, rfl⟩) (fun u w h => ?_)
      obtain ⟨rfl, rfl⟩ := h
      refine QW_icmp_ge zd_W_feed_46 ⟨⟨by omega, by omega⟩, by omega, by omega⟩ (fun hz => by omega) (fun hz => ?_)
      refine QW_aload_n zd_W_feed_49 rfl ?_
      refine QW_iload_n zd_W_feed_50 rfl ?_
      refine QW_iload zd_W_feed_51 rfl ?_
      refine QW_iadd zd_W_feed_53 ?_
      refine QW_z (show _ = ((20 * j + i : Nat) : Int) by omega) ?_
      refine QW_callV (wc := [xST s va, xBA cs va t.length f]) (wr := (a, Sum.inl (cs 0, zarr 0 5 (xF t (20 * j) i))) :: zws G σ) (as := [iZ ((20 * j + i : Nat) : Int)]) (mc' := 0) (ms' := 0) (X' := fun u w => u = some (iZ (f (((20 * j + i : Nat) : Int)).toNat)) ∧ w = [xST s va, xBA cs va t.length f]) zd_W_feed_54 zl_W_25 zk_JS_charAt zv_JS_charAt (fr' := 3) (by decide) List.mem_cons_self rfl rfl rfl rfl (Nat.le_of_ble_eq_true rfl) (List.Perm.refl _) ⟨by omega, by omega⟩ (q_charAtM (by omega) ⟨by omega, by omega⟩ (hf1 _) ⟨rfl, rfl⟩) (fun u w h => ?_)
      obtain ⟨rfl, rfl⟩ := h
      have ec : f (((20 * j + i : Nat) : Int)).toNat = xCh t (20 * j + i) := by rw [Int.toNat_natCast, hf0 _ hlt, xCh, if_pos hlt]
      rw [ec]
      refine QW_sipush zd_W_feed_57 (by decide) ?_
      refine QW_iandm255 zd_W_feed_60 ?_
      exact QW_goto zd_W_feed_61 (e66 _ (by omega))
    · refine QW_iload zd_W_feed_17 rfl ?_
      refine QW_bipush zd_W_feed_19 (by decide) ?_
      refine QW_icmp_ge zd_W_feed_21 ⟨⟨by omega, by omega⟩, by omega, by omega⟩ (fun hz => by omega) (fun hz => ?_)
      refine QW_aload_n zd_W_feed_24 rfl ?_
      refine QW_iload zd_W_feed_25 rfl ?_
      refine QW_iconst zd_W_feed_27 ?_
      refine QW_idiv zd_W_feed_28 ⟨by omega, by omega⟩ ?_
      refine QW_aload_n zd_W_feed_29 rfl ?_
      refine QW_iload zd_W_feed_30 rfl ?_
      refine QW_iconst zd_W_feed_32 ?_
      refine QW_idiv zd_W_feed_33 ⟨by omega, by omega⟩ ?_
      refine QW_iald (f := xF t (20 * j) i) zd_W_feed_34 (List.mem_append_right _ List.mem_cons_self) ⟨by omega, by omega⟩ (by decide) ?_
      rw [e4]
      refine QW_bipush zd_W_feed_35 (by decide) ?_
      refine QW_ishlC 256 zd_W_feed_37 (by decide) rfl ?_
      refine QW_iload_n zd_W_feed_38 rfl ?_
      refine QW_iload zd_W_feed_39 rfl ?_
      refine QW_iadd zd_W_feed_41 ?_
      refine QW_z (show _ = ((20 * j + i : Nat) : Int) by omega) ?_
      refine QW_aload_n zd_W_feed_42 rfl ?_
      refine QW_callV (wc := [xST s va, xBA cs va t.length f]) (wr := (a, Sum.inl (cs 0, zarr 0 5 (xF t (20 * j) i))) :: zws G σ) (as := []) (mc' := 0) (ms' := 0) (X' := fun u w => u = some (iZ (t.length : Int)) ∧ w = [xST s va, xBA cs va t.length f]) zd_W_feed_43 zl_W_19 zk_JS_length zv_JS_length (fr' := 1) (by decide) List.mem_cons_self rfl rfl rfl rfl (Nat.le_of_ble_eq_true rfl) (List.Perm.refl _) ⟨by omega, by omega⟩ (q_lengthM (by omega) ⟨rfl, rfl⟩) (fun u w h => ?_)
      obtain ⟨rfl, rfl⟩ := h
      refine QW_icmp_ge zd_W_feed_46 ⟨⟨by omega, by omega⟩, by omega, by omega⟩ (fun hz => ?_) (fun hz => by omega)
      exact QW_bipush zd_W_feed_64 (by decide) (e66 32 (by rw [xCh, if_neg hlt]))
set_option maxHeartbeats 2000000 in
theorem q_feed {G : zG} {σ V Dd : zPH} {tT tU s : Nat} {t : List Int} {wS : va_W} (hG : G.2.1 = D ∧ G.2.2.1 = cs) (hS : xStr cs s t wS) (ht : xLet t) (hl : t.length ≤ 1100) (hB : zBD V Dd) (h0 : Dd 0 3 = 0) (hc : zCI σ V Dd tT tU) (hX : ∀ σ' D', xTape V D' t → zCI σ' V D' tT tU → X (some (iZ 1)) (wS ++ zws G σ')) : QM v D cs zm_W_feed 4 56 280 [zr G 0, .ref s] (wS ++ zws G σ) X := by
  refine qm_of zk_W_feed (Nat.le_of_ble_eq_true rfl) (ls := [some (zr G 0), some (.ref s), none, none, none]) rfl ?_
  obtain ⟨va, f, rfl, hf0, hf1⟩ := hS
  have loop : ∀ (d j : Nat), j + d = (t.length + 19) / 20 → ∀ (σ Dd : zPH) (x3 x4 : Option Value), zBD V Dd → zCI σ V Dd tT tU → Dd 0 3 = ((20 * j : Nat) : Int) → (∀ k, k < 20 * j → Dd 4 k = xCh t k) → QW v D cs zm_W_feed 4 56 280 X 2 [some (zr G 0), some (.ref s), some (iZ ((20 * j : Nat) : Int)), x3, x4] [] ([xST s va, xBA cs va t.length f] ++ zws G σ) j (5 * j) := by
    intro d
    induction d with
    | zero =>
      intro j hj σ Dd x3 x4 hB hc hlen hT
      refine QW_iload_n zd_W_feed_2 rfl ?_
      refine QW_aload_n zd_W_feed_3 rfl ?_
      refine QW_callV (wc := [xST s va, xBA cs va t.length f]) (wr := zws G σ) (as := []) (mc' := 0) (ms' := 0) (X' := fun u w => u = some (iZ (t.length : Int)) ∧ w = [xST s va, xBA cs va t.length f]) zd_W_feed_4 zl_W_19 zk_JS_length zv_JS_length (fr' := 1) (by decide) List.mem_cons_self rfl rfl rfl rfl (Nat.le_of_ble_eq_true rfl) (List.Perm.refl _) ⟨by omega, by omega⟩ (q_lengthM (by omega) ⟨rfl, rfl⟩) (fun u w h => ?_)
      obtain ⟨rfl, rfl⟩ := h
      refine QW_icmp_ge zd_W_feed_7 ⟨⟨by omega, by omega⟩, by omega, by omega⟩ (fun hz => ?_) (fun hz => by omega)
      refine QW_aload_n zd_W_feed_104 rfl ?_
      refine QW_aload_n zd_W_feed_105 rfl ?_
      refine QW_callV (wc := [xST s va, xBA cs va t.length f]) (wr := zws G σ) (as := []) (mc' := 0) (ms' := 0) (X' := fun u w => u = some (iZ (t.length : Int)) ∧ w = [xST s va, xBA cs va t.length f]) zd_W_feed_106 zl_W_19 zk_JS_length zv_JS_length (fr' := 1) (by decide) List.mem_cons_self rfl rfl rfl rfl (Nat.le_of_ble_eq_true rfl) (List.Perm.refl _) ⟨by omega, by omega⟩ (q_lengthM (by omega) ⟨rfl, rfl⟩) (fun u w h => ?_)
      obtain ⟨rfl, rfl⟩ := h
      refine QW_ms (wr := [xST s va, xBA cs va t.length f]) (np := 1) (as := [iZ (t.length : Int)]) hG zd_W_feed_109 zl_W_35 zk_B_end zv_B_end (fr' := 0) (by decide) rfl rfl rfl rfl rfl (Nat.le_of_ble_eq_true rfl) List.perm_append_comm ⟨by omega, by omega⟩ (Y := fun u σ' => ∃ x D', u = some (iZ x) ∧ zEnf Dd (t.length : Int) x D' ∧ zCI σ' V D' tT tU) (s_B_end hc hB ⟨by omega, by omega⟩ (fun σ' x D' h1 h2 _ => ⟨x, D', rfl, h1, h2⟩)) (fun u σ' h => ?_)
      obtain ⟨x, D', rfl, h1, h2⟩ := h
      rcases h1 with ⟨-, rfl, rfl⟩ | ⟨h1, -⟩
      rotate_left
      · exact absurd (show (0 : Int) ≤ t.length ∧ (t.length : Int) ≤ Dd 0 3 by omega) h1
      refine QW_perm (ws' := [xST s va, xBA cs va t.length f] ++ zws G σ') List.perm_append_comm ?_
      refine QW_zret zd_W_feed_112 rfl (Or.inr rfl) ⟨by omega, by omega⟩ (hX σ' _ ⟨zlen_D hB ⟨by omega, by omega⟩, by rw [zupd_same], fun k hk => ?_⟩ h2)
      rw [zupd_row (by decide), hT k (by omega), xCh, if_pos hk]
    | succ d ih =>
      intro j hj σ Dd x3 x4 hB hc hlen hT
      have hj60 : j ≤ 55 := by omega
      have hp := fun a => xPk_rr ht (20 * j + 4 * a) 4 (Nat.le_refl _)
      refine QW_iload_n zd_W_feed_2 rfl ?_
      refine QW_aload_n zd_W_feed_3 rfl ?_
      refine QW_callV (wc := [xST s va, xBA cs va t.length f]) (wr := zws G σ) (as := []) (mc' := 0) (ms' := 0) (X' := fun u w => u = some (iZ (t.length : Int)) ∧ w = [xST s va, xBA cs va t.length f]) zd_W_feed_4 zl_W_19 zk_JS_length zv_JS_length (fr' := 1) (by decide) List.mem_cons_self rfl rfl rfl rfl (Nat.le_of_ble_eq_true rfl) (List.Perm.refl _) ⟨by omega, by omega⟩ (q_lengthM (by omega) ⟨rfl, rfl⟩) (fun u w h => ?_)
      obtain ⟨rfl, rfl⟩ := h
      refine QW_icmp_ge zd_W_feed_7 ⟨⟨by omega, by omega⟩, by omega, by omega⟩ (fun hz => by omega) (fun hz => ?_)
      refine QW_iconst zd_W_feed_10 ?_
      refine QW_newa (i := 0) (N := 5) zd_W_feed_11 (by decide) rfl (zin1 64 (by decide +kernel) rfl) rfl (by decide) ⟨by omega, by omega⟩ (fun a => ?_)
      refine QW_perm (ws' := [xST s va, xBA cs va t.length f] ++ ((a, Sum.inl (cs 0, zarr 0 5 (xF t (20 * j) 0))) :: zws G σ)) ?_ ?_
      · rw [xF_0]
        refine (List.perm_append_comm (l₁ := [xST s va, xBA cs va t.length f] ++ zws G σ)).trans ?_
        exact List.Perm.trans (l₂ := (a, Sum.inl (cs 0, zarr 0 5 (fun _ => 0))) :: ([xST s va, xBA cs va t.length f] ++ zws G σ)) (List.Perm.refl _) List.perm_middle.symm
      refine QW_astore_n zd_W_feed_13 rfl (by decide) rfl ?_
      refine QW_iconst zd_W_feed_14 ?_
      refine QW_istore zd_W_feed_15 rfl (by decide) rfl ?_
      have hz5 : ∀ a, zI (xPk t (20 * j + 4 * a) 4) := fun a => ⟨by have := (hp a).1; simp; omega, by have := (hp a).2; simpa using this⟩
      refine q_feedIn hf0 hf1 ht hl (by omega) ⟨by omega, by omega⟩ (fun z => ?_) 20 0 (by decide)
      refine QW_aload_n zd_W_feed_74 rfl ?_
      refine QW_aload_n zd_W_feed_75 rfl ?_
      refine QW_iconst zd_W_feed_76 ?_
      refine QW_iald (f := xF t (20 * j) 20) zd_W_feed_77 (List.mem_append_right _ List.mem_cons_self) ⟨by decide, by decide⟩ (by decide) ?_
      refine QW_z (show _ = xPk t (20 * j + 4 * 0) 4 from xF_20 t (20 * j) (by decide)) ?_
      refine QW_aload_n zd_W_feed_78 rfl ?_
      refine QW_iconst zd_W_feed_79 ?_
      refine QW_iald (f := xF t (20 * j) 20) zd_W_feed_80 (List.mem_append_right _ List.mem_cons_self) ⟨by decide, by decide⟩ (by decide) ?_
      refine QW_z (show _ = xPk t (20 * j + 4 * 1) 4 from xF_20 t (20 * j) (by decide)) ?_
      refine QW_aload_n zd_W_feed_81 rfl ?_
      refine QW_iconst zd_W_feed_82 ?_
      refine QW_iald (f := xF t (20 * j) 20) zd_W_feed_83 (List.mem_append_right _ List.mem_cons_self) ⟨by decide, by decide⟩ (by decide) ?_
      refine QW_z (show _ = xPk t (20 * j + 4 * 2) 4 from xF_20 t (20 * j) (by decide)) ?_
      refine QW_aload_n zd_W_feed_84 rfl ?_
      refine QW_iconst zd_W_feed_85 ?_
      refine QW_iald (f := xF t (20 * j) 20) zd_W_feed_86 (List.mem_append_right _ List.mem_cons_self) ⟨by decide, by decide⟩ (by decide) ?_
      refine QW_z (show _ = xPk t (20 * j + 4 * 3) 4 from xF_20 t (20 * j) (by decide)) ?_
      refine QW_aload_n zd_W_feed_87 rfl ?_
      refine QW_iconst zd_W_feed_88 ?_
      refine QW_iald (f := xF t (20 * j) 20) zd_W_feed_89 (List.mem_append_right _ List.mem_cons_self) ⟨by decide, by decide⟩ (by decide) ?_
      refine QW_z (show _ = xPk t (20 * j + 4 * 4) 4 from xF_20 t (20 * j) (by decide)) ?_
      refine QW_ms (wr := (a, Sum.inl (cs 0, zarr 0 5 (xF t (20 * j) 20))) :: [xST s va, xBA cs va t.length f]) (np := 5) (as := [iZ (xPk t (20 * j + 4 * 0) 4), iZ (xPk t (20 * j + 4 * 1) 4), iZ (xPk t (20 * j + 4 * 2) 4), iZ (xPk t (20 * j + 4 * 3) 4), iZ (xPk t (20 * j + 4 * 4) 4)]) hG zd_W_feed_90 zl_W_29 zk_B_feed zv_B_feed (fr' := 1) (by decide) rfl rfl rfl rfl rfl (Nat.le_of_ble_eq_true rfl) ?_ ⟨by omega, by omega⟩ (Y := fun u σ' => ∃ x D', u = some (iZ x) ∧ zFee Dd (xPk t (20 * j + 4 * 0) 4) (xPk t (20 * j + 4 * 1) 4) (xPk t (20 * j + 4 * 2) 4) (xPk t (20 * j + 4 * 3) 4) (xPk t (20 * j + 4 * 4) 4) x D' ∧ zCI σ' V D' tT tU) (s_B_feed hB hc (hz5 0) (hz5 1) (hz5 2) (hz5 3) (hz5 4) (fun σ' x D' h1 h2 _ => ⟨x, D', rfl, h1, h2⟩)) (fun u σ' h => ?_)
      · exact (List.perm_append_comm (l₁ := [xST s va, xBA cs va t.length f]) (l₂ := (a, Sum.inl (cs 0, zarr 0 5 (xF t (20 * j) 20))) :: zws G σ)).trans List.perm_middle.symm
      obtain ⟨x, D', rfl, h1, h2⟩ := h
      rcases h1 with ⟨-, rfl, rfl⟩ | ⟨h1, -⟩
      rotate_left
      · exact absurd (show Dd 0 3 + 20 ≤ 1600 by omega) h1
      obtain ⟨d1, d2, d3, d4⟩ := zfed_v ht hB hlen (by omega)
      refine QW_drop (wa := [xST s va, xBA cs va t.length f] ++ zws G σ') (wb := [(a, Sum.inl (cs 0, zarr 0 5 (xF t (20 * j) 20)))]) ?_ ?_
      · refine List.perm_middle.trans ((List.Perm.cons _ List.perm_append_comm).trans ?_)
        exact List.perm_append_comm (l₁ := [(a, Sum.inl (cs 0, zarr 0 5 (xF t (20 * j) 20)))])
      refine QW_if_ge zd_W_feed_93 (by omega) (fun hz => ?_) (fun hz => by omega)
      refine QW_iinc zd_W_feed_98 rfl rfl (by decide) rfl ?_
      refine QW_goto zd_W_feed_101 ?_
      have hih := ih (j + 1) (by omega) σ' _ (some (.ref a)) z d1 h2 d2 (fun k hk => ?_)
      · rw [show ((20 * (j + 1) : Nat) : Int) = ((20 * j : Nat) : Int) + 20 by omega] at hih
        exact QW_widen (by omega) (by omega) hih
      · by_cases q : 20 * j ≤ k
        · exact (d4 k).1 q (by omega)
        · rw [(d4 k).2 (by omega)]; exact hT k (by omega)
  refine QW_iconst zd_W_feed_0 ?_
  refine QW_istore_n zd_W_feed_1 rfl (by decide) rfl ?_
  exact loop _ 0 (Nat.zero_add _) σ Dd none none hB hc (by rw [h0]; rfl) (fun k hk => absurd hk (by omega))
end FEED
