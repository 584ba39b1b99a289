section MU
variable {G : zG} {σ V : zPH} {X : zX}
/-- the model's light is this one -/
def zmLt (σ V : zPH) (tu st la : Int) : Prop := ∀ m, m < 576 → σ 84 m = zLv V tu st la 7 m
theorem s_M_into (hV : zVd V) {tu st la : Int} (hL : zmLt σ V tu st la) {q : Nat} {z : Int} (hz : z = (q : Int)) (hq : zva V q) (hX : X (some (iZ (zSq V tu st la 7 q))) σ) : MS G zm_M_into 0 [zr G 58, iZ z] σ X := by
  subst hz
  have hl := (zva.lt hV hq).1
  unfold zSq at hX
  have l8 : ∀ m, 0 ≤ zLv V tu st la 7 m := fun m => zLv_8.1
  refine k_M_into ?_
  unfold w_M_into
  rw [show (4 * (q : Int)).toNat = 4 * q by omega, show (4 * (q : Int) + 1).toNat = 4 * q + 1 by omega, show (4 * (q : Int) + 2).toNat = 4 * q + 2 by omega, show (4 * (q : Int) + 3).toNat = 4 * q + 3 by omega, hL _ (by omega), hL _ (by omega), hL _ (by omega), hL _ (by omega)]
  exact ⟨by omega, by omega, ⟨l8 _, l8 _⟩, by omega, ⟨zor_nn _ _, l8 _⟩, by omega, ⟨zor_nn _ _, l8 _⟩, hX⟩
theorem s_M_seen (hV : zVd V) (h : zMV σ V) {tu st la : Int} (hL : zmLt σ V tu st la) {e : Nat} {z : Int} (hz : z = (e : Int)) (he : (e : Int) < V 0 5) (hX : X (some (iZ (zSe V tu st la 7 e))) σ) : MS G zm_M_seen 1 [zr G 58, iZ z] σ X := by
  subst hz
  have hc := hV.2.1
  have hA := h.1
  have hb := hA.1
  obtain ⟨g1, g2⟩ := h.2.2.2.2.2.1 e he
  have hf := zmF_r hA g1
  have h5 := hV.2.2.2.1 e he
  have hA45 := hA.2.1
  unfold zSe at hX
  refine k_M_seen ⟨by omega, ?_⟩
  rw [show (8 * σ 58 13 + (e : Int)).toNat = 8 * (σ 58 13).toNat + e by omega]
  refine s_M_from hA (by omega) ⟨_, rfl, ?_⟩
  rintro x2 e2
  rw [← e2] at g2
  refine ⟨by omega, fun q => ?_, fun q => ?_⟩
  · rcases g2 with ⟨a, b⟩ | ⟨a, b, c⟩
    · omega
    · rcases h5 with z | ⟨z, zv, -⟩
      · omega
      · rw [if_neg (by omega)] at hX
        exact s_M_into hV hL (q := (V 5 e).toNat) (by omega) zv ⟨_, rfl, hX⟩
  · rcases g2 with ⟨a, b⟩ | ⟨a, b, c⟩
    · rw [if_pos b] at hX; exact hX
    · omega
theorem s_M_litEyes (hV : zVd V) (h : zMV σ V) {tu st la : Int} (hL : zmLt σ V tu st la) (hX : X (some (iZ (zEy V tu st la 7))) σ) : MS G zm_M_litEyes 2 [zr G 58] σ X := by
  have hc := hV.2.1
  have hb := h.1.1
  obtain ⟨-, -, -, -, -, -, e66⟩ := h.2.1
  obtain ⟨⟨ey0, ey1⟩, ey2⟩ := zEy_b (V := V) (tu := tu) (st := st) (la := la) (co := 7)
  refine k_M_litEyes ?_
  refine zLP2_ind (fun x1 x2 σ1 => σ1 = σ ∧ ∃ i : Nat, x2 = (i : Int) ∧ (i : Int) ≤ V 0 5 ∧ 0 ≤ x1 ∧ ∀ e, zbt x1 e ↔ e < i ∧ zSe V tu st la 7 e ≠ 0) (fun _ x2 _ => (8 - x2).toNat) ?_ ⟨rfl, 0, rfl, hc.2.2.2.2.2.2.1, by decide, fun e => ⟨fun z => absurd z zbt_0, fun z => by omega⟩⟩
  rintro K x1 x2 σ1 ⟨hσ, i, rfl, hi, h0, hx⟩ hK
  rw [hσ]
  unfold b_M_litEyes_4
  rw [e66]
  refine ⟨by omega, by omega, fun hge => ?_, fun hlt => ?_⟩
  · have : x1 = zEy V tu st la 7 := zbt_ext h0 ey0 fun e => by rw [hx, ey2, show i = (V 0 5).toNat by omega]
    rw [this]; exact hX
  · have s8 := zSe_8 (V := V) (tu := tu) (st := st) (la := la) (co := 7) (e := i)
    refine s_M_seen hV h hL rfl hlt ⟨_, rfl, by omega, fun q => ⟨⟨h0, by decide⟩, ?_⟩, fun q => ⟨by omega, ⟨h0, by rw [Int.one_mul]; exact zpow_nn _⟩, ?_⟩⟩
    · rintro y ey
      refine hK _ _ _ ⟨rfl, i + 1, by omega, by omega, by rw [ey]; exact zor_nn _ _, fun e => ?_⟩ (by omega)
      rw [ey, zor_0 h0, hx]
      exact ⟨fun z => ⟨by omega, z.2⟩, fun z => ⟨by rcases (show e < i ∨ e = i by omega) with y | rfl; exact y; exact absurd q z.2, z.2⟩⟩
    · rintro y ey
      refine hK _ _ _ ⟨rfl, i + 1, by omega, by omega, by rw [ey]; exact zor_nn _ _, fun e => ?_⟩ (by omega)
      rw [ey, Int.one_mul, zbt_or, hx, zbt_pow, Int.toNat_natCast]
      constructor
      · rintro (z | rfl)
        · exact ⟨by omega, z.2⟩
        · exact ⟨by omega, q⟩
      · rintro ⟨z1, z2⟩
        rcases (show e < i ∨ e = i by omega) with y | rfl
        · exact Or.inl ⟨y, z2⟩
        · exact Or.inr rfl
/-- the model's stack of truths -/
def zhS (σ : zPH) : List Bool → Prop
  | [] => True
  | x :: r => σ 86 r.length = (if x then 1 else 0) ∧ zhS σ r
theorem zhS_to {σ σ' : zPH} {s : List Bool} (h : zhS σ s) (hu : ∀ j, j < s.length → σ' 86 j = σ 86 j) : zhS σ' s := by
  induction s with
  | nil => trivial
  | cons x r ih => exact ⟨by rw [hu _ (by simp)]; exact h.1, ih h.2 (fun j hj => hu j (by simp; omega))⟩
theorem s_M_holds (hV : zVd V) (hT : zVt V) (h : zMV σ V) {tu st la : Int} (hL : zmLt σ V tu st la) {m : Nat} {z : Int} (hz : z = (m : Int)) (hm : (m : Int) < V 0 4) (hX : ∀ σ', (∀ q, q ≠ 86 → σ' q = σ q) → X (some (iZ (if zHo V (zSe V tu st la 7) m then 1 else 0))) σ') : MS G zm_M_holds 2 [zr G 58, iZ z] σ X := by
  subst hz
  have hc := hV.2.1
  have hb := h.1.1
  obtain ⟨t1, t2, t3⟩ := h.2.2.2.2.2.2.2 m hm
  obtain ⟨⟨w1, w2, w3⟩, wf⟩ := hT m hm
  unfold zHo at hX
  generalize hsee : zSe V tu st la 7 = see at hX
  refine k_M_holds ⟨by omega, ?_⟩
  rintro x3 e3
  rw [show (6 * σ 58 13 + (m : Int)).toNat = 6 * (σ 58 13).toNat + m by omega, t1] at e3
  refine zLP2_ind (fun x2 x3 σ1 => ∃ j : Nat, (j : Int) ≤ V 8 m - V 7 m ∧ x3 = 1600 * σ 58 13 + V 7 m + (j : Int) ∧ x2 = ((zsn V see (V 7 m).toNat j).length : Int) ∧ zhS σ1 (zsn V see (V 7 m).toNat j) ∧ ∀ q, q ≠ 86 → σ1 q = σ q) (fun _ x3 _ => (1600 * σ 58 13 + V 8 m - x3).toNat) ?_ ⟨0, by omega, by omega, rfl, trivial, fun _ _ => rfl⟩
  rintro K x2 x3 σ1 ⟨j, hj, rfl, rfl, hS, F1⟩ hK
  have hlen := zsn_len wf (see := see) j (by omega)
  have M1 : zMV σ1 V := h.to (fun q _ _ => F1 q (by omega)) (fun k _ => by rw [F1 58 (by decide)])
  have L1 : zmLt σ1 V tu st la := fun k hk => by rw [F1 84 (by decide)]; exact hL k hk
  have r58 : σ1 58 = σ 58 := F1 58 (by decide)
  unfold b_M_holds_26
  rw [r58, F1 74 (by decide), F1 75 (by decide), show (6 * σ 58 13 + (m : Int)).toNat = 6 * (σ 58 13).toNat + m by omega, t2]
  refine ⟨by omega, by omega, fun hge => ?_, fun hlt => ⟨by omega, ?_⟩⟩
  · have hj2 : j = (V 8 m - V 7 m).toNat := by omega
    rw [← hj2] at hX
    have hone := wf.2
    rw [← hj2] at hone
    generalize zsn V see (V 7 m).toNat j = s at *
    match s, hlen, hS with
    | [], hlen, hS => simp at hlen; omega
    | [x], hlen, hS =>
      have h86 : σ1 86 0 = (if x then 1 else 0) := hS.1
      rw [h86]
      exact ⟨by cases x <;> simp, hX σ1 F1⟩
    | x :: y :: r, hlen, hS => simp at hlen; omega
  · rintro x4 e4
    have hj3 : (j : Nat) < (V 8 m - V 7 m).toNat := by omega
    obtain ⟨k1, k2, k3, k4, k5⟩ := wf.1 j hj3
    obtain ⟨c1, c2⟩ := t3 ((V 7 m).toNat + j) (by omega) (by omega)
    have hidx : (1600 * σ 58 13 + V 7 m + (j : Int)).toNat = 1600 * (σ 58 13).toNat + ((V 7 m).toNat + j) := by omega
    rw [hidx, c1] at e4
    rw [← e4] at k1 k2 k3 k4
    have hsn : zsn V see (V 7 m).toNat (j + 1) = zs1 V see ((V 7 m).toNat + j) (zsn V see (V 7 m).toNat j) := rfl
    have hlen2 := zsn_len wf (see := see) (j + 1) (by omega)
    have nxt : ∀ (σ2 : zPH) (x2 : Int), x2 = ((zsn V see (V 7 m).toNat (j + 1)).length : Int) → zhS σ2 (zsn V see (V 7 m).toNat (j + 1)) → (∀ q, q ≠ 86 → σ2 q = σ q) → K x2 (1600 * σ 58 13 + V 7 m + (j : Int) + 1) σ2 := fun σ2 x2 a b c => hK _ _ _ ⟨j + 1, by omega, by omega, a, b, c⟩ (by omega)
    rw [hsn] at nxt hlen2
    unfold zs1 at nxt hlen2
    rw [← e4] at nxt hlen2
    have hpos : 0 ≤ zdp V (V 7 m).toNat j := by omega
    generalize zsn V see (V 7 m).toNat j = s at *
    clear hK
    have i4 : zI x4 := by omega
    have push : ∀ (x : Bool) (v : Int), v = (if x then 1 else 0) → (∀ (σ2 : zPH) (x2 : Int), x2 = (((x :: s).length : Nat) : Int) → zhS σ2 (x :: s) → (∀ q, q ≠ 86 → σ2 q = σ q) → K x2 (1600 * σ 58 13 + V 7 m + (j : Int) + 1) σ2) → ∀ σ2 : zPH, σ2 = zupd σ1 86 ((s.length : Nat) : Int).toNat v → K (((s.length : Nat) : Int) + 1) (1600 * σ 58 13 + V 7 m + (j : Int) + 1) σ2 := by
      intro x v hv hn σ2 e2
      rw [Int.toNat_natCast] at e2
      refine hn σ2 _ (by simp) ⟨by rw [e2, zupd_same, hv], zhS_to hS (fun i hi => by rw [e2, zupd_nk (by omega)])⟩ (fun q hq => by rw [e2, zupd_row hq, F1 q hq])
    refine ⟨i4, fun q0 => ⟨i4, fun _ => ?_, fun q => absurd q0 q⟩, fun q0 => ⟨i4, fun q1 => ⟨i4, fun q4 => ⟨i4, fun q2 => ?_, fun q2 => ?_⟩, fun q4 => ?_⟩, fun q1 => ⟨i4, fun q => absurd q q0, fun _ => ?_⟩⟩⟩
    · -- all
      simp only [q0, if_true] at nxt hlen2
      simp at hlen2
      exact ⟨by omega, Or.inr rfl, push true 1 rfl nxt⟩
    · -- or
      have hx3 : x4 = 3 := by omega
      subst hx3
      simp at nxt hlen2
      have := k4 (Or.inr rfl)
      match s, hlen, hS with
      | [], hlen, hS => simp at hlen; omega
      | [x], hlen, hS => simp at hlen; omega
      | x :: y :: r, hlen, hS =>
        simp at hlen hlen2 nxt
        obtain ⟨hx, hy, hr⟩ := hS
        have l1 : ((((x :: y :: r).length : Nat) : Int) + (-1) - 1).toNat = r.length := by simp; omega
        have l2 : ((((x :: y :: r).length : Nat) : Int) + (-1)).toNat = (y :: r).length := by simp; omega
        have ll : (((x :: y :: r).length : Nat) : Int) = (r.length : Int) + 2 := by simp; omega
        rw [l1, l2]
        have put : ∀ (v : Int), v = (if (y || x) then 1 else 0) → ∀ σ2 : zPH, σ2 = zupd σ1 86 r.length v → K ((((x :: y :: r).length : Nat) : Int) + (-1)) (1600 * σ 58 13 + V 7 m + (j : Int) + 1) σ2 := by
          intro v hv σ2 e2
          have fin := nxt σ2 ⟨by rw [e2, zupd_same, hv], zhS_to hr (fun i hi => by rw [e2, zupd_nk (by omega)])⟩ (fun q hq => by rw [e2, zupd_row hq, F1 q hq])
          rw [ll]
          rw [show (r.length : Int) + 2 + (-1) = (r.length : Int) + 1 by omega]
          exact fin
        have hy' : σ1 86 r.length = if y then 1 else 0 := hy
        have hx' : σ1 86 (y :: r).length = if x then 1 else 0 := hx
        refine ⟨by omega, by rw [hy']; cases y <;> decide, fun z => ⟨by omega, Or.inr rfl, ?_⟩, fun z => ⟨by omega, by rw [hx']; cases x <;> decide, fun z2 => ⟨by omega, Or.inl rfl, ?_⟩, fun z2 => ⟨by omega, Or.inr rfl, ?_⟩⟩⟩
        · rw [l1]
          exact put 1 (by rw [hy'] at z; cases y <;> simp at z ⊢)
        · rw [l1]
          exact put 0 (by rw [hy'] at z; rw [hx'] at z2; cases y <;> cases x <;> simp at z z2 ⊢)
        · rw [l1]
          exact put 1 (by rw [hx'] at z2; cases x <;> simp at z2 ⊢)
    · -- and
      subst q2
      simp at nxt hlen2
      have := k4 (Or.inl rfl)
      match s, hlen, hS with
      | [], hlen, hS => simp at hlen; omega
      | [x], hlen, hS => simp at hlen; omega
      | x :: y :: r, hlen, hS =>
        simp at hlen hlen2 nxt
        obtain ⟨hx, hy, hr⟩ := hS
        have l1 : ((((x :: y :: r).length : Nat) : Int) + (-1) - 1).toNat = r.length := by simp; omega
        have l2 : ((((x :: y :: r).length : Nat) : Int) + (-1)).toNat = (y :: r).length := by simp; omega
        have ll : (((x :: y :: r).length : Nat) : Int) = (r.length : Int) + 2 := by simp; omega
        rw [l1, l2]
        have put : ∀ (v : Int), v = (if (y && x) then 1 else 0) → ∀ σ2 : zPH, σ2 = zupd σ1 86 r.length v → K ((((x :: y :: r).length : Nat) : Int) + (-1)) (1600 * σ 58 13 + V 7 m + (j : Int) + 1) σ2 := by
          intro v hv σ2 e2
          have fin := nxt σ2 ⟨by rw [e2, zupd_same, hv], zhS_to hr (fun i hi => by rw [e2, zupd_nk (by omega)])⟩ (fun q hq => by rw [e2, zupd_row hq, F1 q hq])
          rw [ll]
          rw [show (r.length : Int) + 2 + (-1) = (r.length : Int) + 1 by omega]
          exact fin
        have hy' : σ1 86 r.length = if y then 1 else 0 := hy
        have hx' : σ1 86 (y :: r).length = if x then 1 else 0 := hx
        refine ⟨by omega, by rw [hy']; cases y <;> decide, fun z => ⟨by omega, Or.inl rfl, ?_⟩, fun z => ⟨by omega, by rw [hx']; cases x <;> decide, fun z2 => ⟨by omega, Or.inl rfl, ?_⟩, fun z2 => ⟨by omega, Or.inr rfl, ?_⟩⟩⟩
        · rw [l1]
          exact put 0 (by rw [hy'] at z; cases y <;> simp at z ⊢)
        · rw [l1]
          exact put 0 (by rw [hx'] at z2; cases x <;> simp at z2 ⊢)
        · rw [l1]
          exact put 1 (by rw [hy'] at z; rw [hx'] at z2; cases y <;> cases x <;> simp at z z2 ⊢)
    · -- not
      subst q4
      simp at nxt hlen2
      have := k3 rfl
      match s, hlen, hS with
      | [], hlen, hS => simp at hlen; omega
      | x :: r, hlen, hS =>
        simp at hlen hlen2 nxt
        obtain ⟨hx, hr⟩ := hS
        have l1 : ((((x :: r).length : Nat) : Int) - 1).toNat = r.length := by simp
        have ll : (((x :: r).length : Nat) : Int) = (r.length : Int) + 1 := by simp
        rw [l1]
        have put : ∀ (v : Int), v = (if (!x) then 1 else 0) → ∀ σ2 : zPH, σ2 = zupd σ1 86 r.length v → K (((x :: r).length : Nat) : Int) (1600 * σ 58 13 + V 7 m + (j : Int) + 1) σ2 := by
          intro v hv σ2 e2
          have fin := nxt σ2 ⟨by rw [e2, zupd_same, hv], zhS_to hr (fun i hi => by rw [e2, zupd_nk (by omega)])⟩ (fun q hq => by rw [e2, zupd_row hq, F1 q hq])
          rw [ll]
          exact fin
        refine ⟨by omega, by rw [hx]; cases x <;> decide, fun z => ⟨by omega, Or.inl rfl, ?_⟩, fun z => ⟨by omega, Or.inr rfl, ?_⟩⟩
        · rw [l1]
          exact put 0 (by rw [hx] at z; cases x <;> simp at z ⊢)
        · rw [l1]
          exact put 1 (by rw [hx] at z; cases x <;> simp at z ⊢)
    · -- sees
      subst q1
      simp at nxt hlen2
      obtain ⟨k21, k22, k23⟩ := k2 rfl
      obtain ⟨c3, c4⟩ := c2 (by omega)
      rw [hidx, F1 77 (by decide), c4]
      refine ⟨by omega, s_M_seen hV M1 L1 (e := (V 11 ((V 7 m).toNat + j)).toNat) (by omega) (by omega) ⟨_, rfl, by omega, ?_⟩⟩
      rw [F1 76 (by decide), c3, hsee]
      have s8 := zSe_8 (V := V) (tu := tu) (st := st) (la := la) (co := 7) (e := (V 11 ((V 7 m).toNat + j)).toNat)
      rw [hsee] at s8
      have a8 := zand_8 (y := V 10 ((V 7 m).toNat + j)) s8
      refine ⟨⟨by omega, by omega⟩, by omega, ⟨by omega, by omega⟩, fun z => ⟨by omega, Or.inl rfl, push false 0 rfl (fun σ2 x2 a b c => by rw [show x2 = (s.length : Int) + 1 by simpa using a]; exact nxt σ2 (by simpa [z] using b) c)⟩, fun z => ⟨by omega, Or.inr rfl, push true 1 rfl (fun σ2 x2 a b c => by rw [show x2 = (s.length : Int) + 1 by simpa using a]; exact nxt σ2 (by simpa [z] using b) c)⟩⟩
end MU
