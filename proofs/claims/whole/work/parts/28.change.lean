theorem zva_to {V V' : zPH} (h : V' 0 = V 0) (q : Nat) : zva V' q ↔ zva V q := by unfold zva; rw [h]
theorem zP_to {V V' : zPH} (h : V' 0 = V 0) (q : Nat) : zP V' q = zP V q := by unfold zP; rw [h]
theorem zE_to {V V' : zPH} (h : V' 0 = V 0) (q : Nat) : zE V' q = zE V q := by unfold zE; rw [zP_to h]
theorem zN_to {V V' : zPH} (h : V' 0 = V 0) (q w : Nat) : zN V' q w = zN V q w := by unfold zN; rw [h]
theorem zdp_to {V V' : zPH} (h9 : V' 9 = V 9) (f n : Nat) : zdp V' f n = zdp V f n := by
  induction n with
  | zero => rfl
  | succ n ih => simp only [zdp]; rw [ih, h9]
theorem zVt_to {V V' : zPH} (h0 : V' 0 = V 0) (h : ∀ r, 7 ≤ r → r ≤ 11 → V' r = V r) (ht : zVt V) : zVt V' := by
  intro m hm
  rw [h0] at hm
  obtain ⟨a, b, c⟩ := ht m hm
  rw [h 7 (by decide) (by decide), h 8 (by decide) (by decide)]
  refine ⟨a, fun j hj => ?_, ?_⟩
  · rw [h 9 (by decide) (by decide), h 10 (by decide) (by decide), h 11 (by decide) (by decide), h0, zdp_to (h 9 (by decide) (by decide)), zdp_to (h 9 (by decide) (by decide))]
    exact b j hj
  · rw [zdp_to (h 9 (by decide) (by decide))]; exact c
theorem zHo_to {V V' : zPH} (h : ∀ r, 7 ≤ r → r ≤ 11 → V' r = V r) (see : Nat → Int) (m : Nat) : zHo V' see m = zHo V see m := by
  have key : ∀ f n, zsn V' see f n = zsn V see f n := by
    intro f n
    induction n with
    | zero => rfl
    | succ n ih => simp only [zsn, zs1]; rw [ih, h 9 (by decide) (by decide), h 10 (by decide) (by decide), h 11 (by decide) (by decide)]
  unfold zHo
  rw [h 7 (by decide) (by decide), h 8 (by decide) (by decide), key]
def zVrem (V : zPH) (q0 : Nat) : zPH := fun r k => if r = 1 ∧ k = q0 then 0 else if (r = 5 ∨ r = 6 ∨ r = 12) ∧ V r k = (q0 : Int) then -1 else V r k
def zVadd (V : zPH) (q0 : Nat) (s f : Int) : zPH := fun r k => if k = q0 ∧ r = 1 then s else if k = q0 ∧ r = 2 then -1 else if k = q0 ∧ r = 3 then f else V r k
def zVtin (V : zPH) (q0 : Nat) (c : Int) : zPH := fun r k => if k = q0 ∧ r = 3 then c else V r k
def zVswp (V : zPH) (a b : Nat) : zPH := fun r k => if r = 1 ∨ r = 2 ∨ r = 3 ∨ r = 4 then (if k = a then V r b else if k = b then V r a else V r k) else if r = 5 ∨ r = 6 ∨ r = 12 then (if V r k = (a : Int) then (b : Int) else if V r k = (b : Int) then (a : Int) else V r k) else V r k
theorem zVrem_r {V : zPH} {q0 r : Nat} (h1 : r ≠ 1) (h5 : r ≠ 5) (h6 : r ≠ 6) (h12 : r ≠ 12) : zVrem V q0 r = V r := by funext k; simp [zVrem, h1, h5, h6, h12]
theorem zVrem_k {V : zPH} {q0 r k : Nat} (h : k ≠ q0) (h5 : r ≠ 5) (h6 : r ≠ 6) (h12 : r ≠ 12) : zVrem V q0 r k = V r k := by simp [zVrem, h, h5, h6, h12]
theorem zVadd_r {V : zPH} {q0 r : Nat} {s f : Int} (h1 : r ≠ 1) (h2 : r ≠ 2) (h3 : r ≠ 3) : zVadd V q0 s f r = V r := by funext k; simp [zVadd, h1, h2, h3]
theorem zVadd_k {V : zPH} {q0 r k : Nat} {s f : Int} (h : k ≠ q0) : zVadd V q0 s f r k = V r k := by simp [zVadd, h]
theorem zVtin_r {V : zPH} {q0 r : Nat} {c : Int} (h3 : r ≠ 3) : zVtin V q0 c r = V r := by funext k; simp [zVtin, h3]
theorem zVtin_k {V : zPH} {q0 r k : Nat} {c : Int} (h : k ≠ q0) : zVtin V q0 c r k = V r k := by simp [zVtin, h]
theorem zVswp_r {V : zPH} {a b r : Nat} (h : r = 0 ∨ (7 ≤ r ∧ r ≠ 12)) : zVswp V a b r = V r := by
  funext k; unfold zVswp; rw [if_neg (by omega), if_neg (by omega)]
theorem zVrem_d {V : zPH} {q0 : Nat} (hV : zVd V) : zVd (zVrem V q0) := by
  have e0 : zVrem V q0 0 = V 0 := zVrem_r (by decide) (by decide) (by decide) (by decide)
  obtain ⟨v1, v2, v3, v4, v5, v6⟩ := hV
  have wh : ∀ r k : Nat, (r = 5 ∨ r = 6 ∨ r = 12) → zVrem V q0 r k = if V r k = (q0 : Int) then -1 else V r k := fun r k h => by
    unfold zVrem; rw [if_neg (by omega)]
    by_cases q : V r k = (q0 : Int)
    · rw [if_pos ⟨h, q⟩, if_pos q]
    · rw [if_neg (fun z => q z.2), if_neg q]
  have k1 : ∀ r k, k ≠ q0 → (r = 1 ∨ r = 2 ∨ r = 3 ∨ r = 4) → zVrem V q0 r k = V r k := fun r k h h2 => zVrem_k h (by omega) (by omega) (by omega)
  have k0 : zVrem V q0 1 q0 = 0 := by simp [zVrem]
  have back : ∀ (x : Int) (P : Nat → Prop), (x = -1 ∨ (0 ≤ x ∧ zva V x.toNat ∧ P x.toNat)) → ((if x = (q0 : Int) then -1 else x) = -1 ∨ (0 ≤ (if x = (q0 : Int) then -1 else x) ∧ (if x = (q0 : Int) then -1 else x).toNat ≠ q0 ∧ zva V (if x = (q0 : Int) then -1 else x).toNat ∧ P (if x = (q0 : Int) then -1 else x).toNat)) := fun x P h => by
    split
    · exact Or.inl rfl
    · rename_i hx
      rcases h with h | ⟨h1, h2, h3⟩
      · exact Or.inl h
      · exact Or.inr ⟨h1, by omega, h2, h3⟩
  refine ⟨by rw [e0]; exact v1, by rw [e0]; exact v2, fun q hq => ?_, fun e he => ?_, fun e he => ?_, fun e he => ?_⟩
  · rw [zva_to e0] at hq
    by_cases h : q = q0
    · subst h
      rw [k0]
      simp
    · rw [e0, k1 1 q h (by omega), k1 2 q h (by omega), k1 3 q h (by omega), k1 4 q h (by omega), wh 12 _ (by omega), wh 5 _ (by omega), wh 6 _ (by omega)]
      obtain ⟨a1, a2, a3, a4, a5, a6, a7, a8⟩ := v3 q hq
      refine ⟨a1, fun h1 => ?_, a3, a4, a5, fun h1 => ?_, fun h1 => ?_, a8⟩
      · obtain ⟨b1, b2, b3, b4⟩ := a2 h1
        exact ⟨b1, b2, b3, by rw [b4, if_neg (by omega)]⟩
      · obtain ⟨b1, b2, b3⟩ := a6 h1
        exact ⟨b1, b2, by rw [b3, if_neg (by omega)]⟩
      · obtain ⟨b1, b2, b3⟩ := a7 h1
        exact ⟨b1, b2, by rw [b3, if_neg (by omega)]⟩
  · rw [e0] at he
    rw [wh 5 e (by omega)]
    rcases back (V 5 e) (fun x => V 1 x = 7 ∧ V 2 x = (e : Int)) (v4 e he) with h | ⟨h1, h2, h3, h4⟩
    · exact Or.inl h
    · exact Or.inr ⟨h1, (zva_to e0 _).mpr h3, by rw [k1 1 _ h2 (by omega), k1 2 _ h2 (by omega)]; exact h4⟩
  · rw [e0] at he
    rw [wh 6 e (by omega)]
    rcases back (V 6 e) (fun x => (V 1 x = 8 ∨ V 1 x = 9) ∧ V 2 x = (e : Int)) (v5 e he) with h | ⟨h1, h2, h3, h4⟩
    · exact Or.inl h
    · exact Or.inr ⟨h1, (zva_to e0 _).mpr h3, by rw [k1 1 _ h2 (by omega), k1 2 _ h2 (by omega)]; exact h4⟩
  · rw [e0] at he
    rw [wh 12 e (by omega)]
    rcases back (V 12 e) (fun x => V 1 x = 1 ∧ V 2 x = (e : Int)) (v6 e he) with h | ⟨h1, h2, h3, h4⟩
    · exact Or.inl h
    · exact Or.inr ⟨h1, (zva_to e0 _).mpr h3, by rw [k1 1 _ h2 (by omega), k1 2 _ h2 (by omega)]; exact h4⟩
theorem zVadd_d {V : zPH} {q0 : Nat} {s f : Int} (hV : zVd V) (hq0 : zva V q0) (h0 : V 1 q0 = 0) (hs : (s = 2 ∧ (f = 0 ∨ f = 1)) ∨ (s = 6 ∧ f = -1)) : zVd (zVadd V q0 s f) := by
  have e0 : zVadd V q0 s f 0 = V 0 := zVadd_r (by decide) (by decide) (by decide)
  have e5 : zVadd V q0 s f 5 = V 5 := zVadd_r (by decide) (by decide) (by decide)
  have e6 : zVadd V q0 s f 6 = V 6 := zVadd_r (by decide) (by decide) (by decide)
  have e12 : zVadd V q0 s f 12 = V 12 := zVadd_r (by decide) (by decide) (by decide)
  obtain ⟨v1, v2, v3, v4, v5, v6⟩ := hV
  have ne : ∀ x : Nat, V 1 x ≠ 0 → x ≠ q0 := fun x h e => h (e ▸ h0)
  refine ⟨by rw [e0]; exact v1, by rw [e0]; exact v2, fun q hq => ?_, fun e he => ?_, fun e he => ?_, fun e he => ?_⟩
  · rw [zva_to e0] at hq
    by_cases h : q = q0
    · subst h
      have a1 : zVadd V q s f 1 q = s := by simp [zVadd]
      have a2 : zVadd V q s f 2 q = -1 := by simp [zVadd]
      have a3 : zVadd V q s f 3 q = f := by simp [zVadd]
      rw [a1, a2, a3]
      rcases hs with ⟨rfl, hf⟩ | ⟨rfl, rfl⟩
      · refine ⟨by omega, fun h => by omega, fun _ => ⟨⟨by omega, by rw [e0]; omega⟩, hf⟩, fun h => by omega, fun h => by omega, fun h => by omega, fun h => by omega, fun h => by omega⟩
      · refine ⟨by omega, fun h => by omega, fun h => by omega, fun h => by omega, fun _ => ⟨rfl, rfl⟩, fun h => by omega, fun h => by omega, fun h => by omega⟩
    · rw [e0, e5, e6, e12, zVadd_k h, zVadd_k h, zVadd_k h, zVadd_k h]
      exact v3 q hq
  · rw [e0] at he
    rw [e5]
    rcases v4 e he with h | ⟨h1, h2, h3, h4⟩
    · exact Or.inl h
    · have := ne _ (show V 1 (V 5 e).toNat ≠ 0 by omega)
      exact Or.inr ⟨h1, (zva_to e0 _).mpr h2, by rw [zVadd_k this, zVadd_k this]; exact ⟨h3, h4⟩⟩
  · rw [e0] at he
    rw [e6]
    rcases v5 e he with h | ⟨h1, h2, h3, h4⟩
    · exact Or.inl h
    · have := ne _ (show V 1 (V 6 e).toNat ≠ 0 by omega)
      exact Or.inr ⟨h1, (zva_to e0 _).mpr h2, by rw [zVadd_k this, zVadd_k this]; exact ⟨h3, h4⟩⟩
  · rw [e0] at he
    rw [e12]
    rcases v6 e he with h | ⟨h1, h2, h3, h4⟩
    · exact Or.inl h
    · have := ne _ (show V 1 (V 12 e).toNat ≠ 0 by omega)
      exact Or.inr ⟨h1, (zva_to e0 _).mpr h2, by rw [zVadd_k this, zVadd_k this]; exact ⟨h3, h4⟩⟩
theorem zVtin_d {V : zPH} {q0 : Nat} {c : Int} (hV : zVd V) (h4 : V 1 q0 = 4) (hc : 0 ≤ c ∧ c < 8) : zVd (zVtin V q0 c) := by
  have er : ∀ r, r ≠ 3 → zVtin V q0 c r = V r := fun r h => zVtin_r h
  unfold zVd at *
  rw [er 0 (by decide), er 1 (by decide), er 2 (by decide), er 4 (by decide), er 5 (by decide), er 6 (by decide), er 12 (by decide)]
  obtain ⟨v1, v2, v3, v4, v5, v6⟩ := hV
  have va : ∀ q, zva (zVtin V q0 c) q ↔ zva V q := zva_to (er 0 (by decide))
  refine ⟨v1, v2, fun q hq => ?_, fun e he => ?_, fun e he => ?_, fun e he => ?_⟩
  · rw [va] at hq
    by_cases h : q = q0
    · subst h
      have a3 : zVtin V q c 3 q = c := by simp [zVtin]
      rw [a3, h4]
      obtain ⟨b1, b2, b3, b4, -⟩ := v3 q hq
      exact ⟨by omega, fun h => by omega, fun h => by omega, fun _ => ⟨hc, (b4 h4).2⟩, fun h => by omega, fun h => by omega, fun h => by omega, fun h => by omega⟩
    · rw [zVtin_k h]; exact v3 q hq
  · rw [va]; exact v4 e he
  · rw [va]; exact v5 e he
  · rw [va]; exact v6 e he
theorem zVswp_d {V : zPH} {a b : Nat} (hV : zVd V) (ha : zva V a) (hb : zva V b) (hab : a ≠ b) : zVd (zVswp V a b) := by
  have e0 : zVswp V a b 0 = V 0 := zVswp_r (by omega)
  obtain ⟨v1, v2, v3, v4, v5, v6⟩ := hV
  -- where the piece of a square is from
  have wf : ∀ q : Nat, zva V q → ∃ p : Nat, zva V p ∧ (∀ r, (r = 1 ∨ r = 2 ∨ r = 3 ∨ r = 4) → zVswp V a b r q = V r p) ∧ (∀ r k, (r = 5 ∨ r = 6 ∨ r = 12) → V r k = (p : Int) → zVswp V a b r k = (q : Int)) := fun q hq => by
    by_cases h1 : q = a
    · refine ⟨b, hb, fun r hr => ?_, fun r k hr hk => ?_⟩
      · unfold zVswp; rw [if_pos hr, if_pos h1]
      · unfold zVswp; rw [if_neg (by omega), if_pos hr, if_neg (by omega), if_pos hk, h1]
    · by_cases h2 : q = b
      · refine ⟨a, ha, fun r hr => ?_, fun r k hr hk => ?_⟩
        · unfold zVswp; rw [if_pos hr, if_neg h1, if_pos h2]
        · unfold zVswp; rw [if_neg (by omega), if_pos hr, if_pos hk, h2]
      · refine ⟨q, hq, fun r hr => ?_, fun r k hr hk => ?_⟩
        · unfold zVswp; rw [if_pos hr, if_neg h1, if_neg h2]
        · unfold zVswp; rw [if_neg (by omega), if_pos hr, if_neg (by omega), if_neg (by omega), hk]
  have bk : ∀ (r k : Nat) (P : Nat → Prop), (r = 5 ∨ r = 6 ∨ r = 12) → (V r k = -1 ∨ (0 ≤ V r k ∧ zva V (V r k).toNat ∧ P (V r k).toNat)) → (zVswp V a b r k = -1 ∨ (0 ≤ zVswp V a b r k ∧ zva V (zVswp V a b r k).toNat ∧ ∃ p : Nat, P p ∧ ∀ r', (r' = 1 ∨ r' = 2 ∨ r' = 3 ∨ r' = 4) → zVswp V a b r' (zVswp V a b r k).toNat = V r' p)) := fun r k P hr h => by
    have e : zVswp V a b r k = if V r k = (a : Int) then (b : Int) else if V r k = (b : Int) then (a : Int) else V r k := by unfold zVswp; rw [if_neg (by omega), if_pos hr]
    rcases h with h | ⟨h1, h2, h3⟩
    · left; rw [e, if_neg (by omega), if_neg (by omega)]; exact h
    · right
      by_cases q1 : V r k = (a : Int)
      · rw [e, if_pos q1]
        refine ⟨by omega, by rw [Int.toNat_natCast]; exact hb, a, by rw [q1, Int.toNat_natCast] at h3; exact h3, fun r' hr' => ?_⟩
        rw [Int.toNat_natCast]; unfold zVswp; rw [if_pos hr', if_neg (by omega), if_pos rfl]
      · by_cases q2 : V r k = (b : Int)
        · rw [e, if_neg q1, if_pos q2]
          refine ⟨by omega, by rw [Int.toNat_natCast]; exact ha, b, by rw [q2, Int.toNat_natCast] at h3; exact h3, fun r' hr' => ?_⟩
          rw [Int.toNat_natCast]; unfold zVswp; rw [if_pos hr', if_pos rfl]
        · rw [e, if_neg q1, if_neg q2]
          refine ⟨h1, h2, _, h3, fun r' hr' => ?_⟩
          unfold zVswp; rw [if_pos hr', if_neg (by omega), if_neg (by omega)]
  refine ⟨by rw [e0]; exact v1, by rw [e0]; exact v2, fun q hq => ?_, fun e he => ?_, fun e he => ?_, fun e he => ?_⟩
  · rw [zva_to e0] at hq
    obtain ⟨p, hp, w1, w2⟩ := wf q hq
    rw [w1 1 (by omega), w1 2 (by omega), w1 3 (by omega), w1 4 (by omega), e0]
    obtain ⟨a1, a2, a3, a4, a5, a6, a7, a8⟩ := v3 p hp
    refine ⟨a1, fun h => ?_, a3, a4, a5, fun h => ?_, fun h => ?_, a8⟩
    · obtain ⟨c1, c2, c3, c4⟩ := a2 h; exact ⟨c1, c2, c3, w2 12 _ (by omega) c4⟩
    · obtain ⟨c1, c2, c3⟩ := a6 h; exact ⟨c1, c2, w2 5 _ (by omega) c3⟩
    · obtain ⟨c1, c2, c3⟩ := a7 h; exact ⟨c1, c2, w2 6 _ (by omega) c3⟩
  · rw [e0] at he
    rcases bk 5 e (fun x => V 1 x = 7 ∧ V 2 x = (e : Int)) (by omega) (v4 e he) with h | ⟨h1, h2, p, h3, h4⟩
    · exact Or.inl h
    · exact Or.inr ⟨h1, (zva_to e0 _).mpr h2, by rw [h4 1 (by omega), h4 2 (by omega)]; exact h3⟩
  · rw [e0] at he
    rcases bk 6 e (fun x => (V 1 x = 8 ∨ V 1 x = 9) ∧ V 2 x = (e : Int)) (by omega) (v5 e he) with h | ⟨h1, h2, p, h3, h4⟩
    · exact Or.inl h
    · exact Or.inr ⟨h1, (zva_to e0 _).mpr h2, by rw [h4 1 (by omega), h4 2 (by omega)]; exact h3⟩
  · rw [e0] at he
    rcases bk 12 e (fun x => V 1 x = 1 ∧ V 2 x = (e : Int)) (by omega) (v6 e he) with h | ⟨h1, h2, p, h3, h4⟩
    · exact Or.inl h
    · exact Or.inr ⟨h1, (zva_to e0 _).mpr h2, by rw [h4 1 (by omega), h4 2 (by omega)]; exact h3⟩
theorem zVch_t {V : zPH} (ht : zVt V) : (∀ q, zVt (zVrem V q)) ∧ (∀ q s f, zVt (zVadd V q s f)) ∧ (∀ q c, zVt (zVtin V q c)) ∧ ∀ a b, zVt (zVswp V a b) :=
  ⟨fun _ => zVt_to (zVrem_r (by decide) (by decide) (by decide) (by decide)) (fun r h1 h2 => zVrem_r (by omega) (by omega) (by omega) (by omega)) ht, fun _ _ _ => zVt_to (zVadd_r (by decide) (by decide) (by decide)) (fun r h1 h2 => zVadd_r (by omega) (by omega) (by omega)) ht, fun _ _ => zVt_to (zVtin_r (by decide)) (fun r h1 h2 => zVtin_r (by omega)) ht, fun _ _ => zVt_to (zVswp_r (by omega)) (fun r h1 h2 => zVswp_r (by omega)) ht⟩
/-! the class's table with a change -/
theorem zTV_rem {σ σ' : zPH} {t : Nat} {V : zPH} {q0 : Nat} (hV : zVd V) (h : zTV σ t V) (hq0 : zva V q0) (h0 : V 1 q0 ≠ 0) (hp : zPu σ σ' t (-1) (zP V q0)) : zTV σ' t (zVrem V q0) := by
  obtain ⟨hs, hd, hn, hq, hm, hw, hc⟩ := h
  obtain ⟨r, p2, p3⟩ := id hp
  have e0 : zVrem V q0 0 = V 0 := zVrem_r (by decide) (by decide) (by decide) (by decide)
  have k1 : ∀ r k, k ≠ q0 → (r = 1 ∨ r = 2 ∨ r = 3 ∨ r = 4) → zVrem V q0 r k = V r k := fun r k h h2 => zVrem_k h (by omega) (by omega) (by omega)
  have k0 : zVrem V q0 1 q0 = 0 := by simp [zVrem]
  have hpl := (zP_lt hV hq0).2
  have so := ((hq q0 hq0).2 h0).2.2.2.2.2
  have hne : ∀ q, zva V q → q ≠ q0 → zP V q ≠ zP V q0 := fun q h1 h2 e => h2 (zP_inj h1 hq0 e)
  have hi0 : 0 ≤ σ (t + 2) (zP V q0) := by have := hs.2.1 (zP V q0); have := ((hq q0 hq0).2 h0).1; omega
  refine ⟨hp.ts hs (by decide) hpl, ?_, ?_, ?_, ?_, ?_, ?_⟩
  · unfold zTd at *; rw [r t (by omega) (by omega), r (t + 8) (by omega) (by omega), e0]; exact hd
  · intro q w h1 h2
    rw [zva_to e0] at h1
    rw [r (t + 1) (by omega) (by omega), zN_to e0, zP_to e0]
    refine ⟨(hn q w h1 h2).1, fun m hm => ?_⟩
    rw [zE_to e0]; exact (hn q w h1 h2).2 m hm
  · intro q h1
    rw [zva_to e0] at h1
    rw [zP_to e0]
    by_cases h : q = q0
    · subst h
      rw [k0]
      exact ⟨fun _ => by rw [p2, if_pos rfl], fun q => absurd rfl q⟩
    · have hk := hne q h1 h
      rw [k1 1 q h (by omega), k1 2 q h (by omega), k1 3 q h (by omega), k1 4 q h (by omega), p2, if_neg hk, r (t + 4) (by omega) (by omega), r (t + 5) (by omega) (by omega), r (t + 6) (by omega) (by omega), r (t + 7) (by omega) (by omega)]
      obtain ⟨a1, a2⟩ := hq q h1
      refine ⟨a1, fun h2 => ?_⟩
      obtain ⟨b1, b2, b3, b4, b5, b6⟩ := a2 h2
      refine ⟨b1, b2, b3, b4, b5, ?_⟩
      rw [p3, if_neg (by omega), if_neg (by omega)]; exact b6
  · intro q h1
    rw [zva_to e0] at h1
    rw [zP_to e0, r (t + 9) (by omega) (by omega)]
    by_cases h : q = q0
    · subst h
      rw [k0]
      exact ⟨fun q => by omega, fun q => by omega, fun q => by omega⟩
    · rw [k1 1 q h (by omega), k1 2 q h (by omega), p2, if_neg (hne q h1 h)]
      exact hm q h1
  · have wh : ∀ r k : Nat, (r = 5 ∨ r = 6 ∨ r = 12) → zVrem V q0 r k = -1 → V r k = (q0 : Int) ∨ V r k = -1 := fun r k hr hk => by
      unfold zVrem at hk; rw [if_neg (by omega)] at hk
      by_cases q : V r k = (q0 : Int)
      · exact Or.inl q
      · rw [if_neg (fun z => q z.2)] at hk; exact Or.inr hk
    have fin : ∀ i : Nat, (i : Int) = σ (t + 2) (zP V q0) ∨ σ (t + 3) i = -1 → σ' (t + 3) i = -1 := fun i hi => by
      rw [p3, if_neg (by omega)]
      rcases hi with hi | hi
      · rw [if_pos ⟨hi.symm, by rw [← so, ← hi, Int.toNat_natCast]⟩]
      · split
        · rfl
        · exact hi
    unfold zTw
    rw [e0, r (t + 9) (by omega) (by omega)]
    refine ⟨fun l hl h1 => fin _ ?_, fun l hl h1 => fin _ ?_, fun l hl h1 => fin _ ?_⟩
    · rcases wh 12 l (by omega) h1 with q | q
      · left
        rcases hV.2.2.2.2.2 l hl with z | ⟨-, z2, z3, z4⟩
        · omega
        · rw [q, Int.toNat_natCast] at z2 z3 z4
          rw [(hm q0 z2).1 z3, z4, Int.toNat_natCast]
          have := hs.2.2.2.2.2.1 l; omega
      · exact Or.inr (hw.1 l hl q)
    · rcases wh 5 l (by omega) h1 with q | q
      · left
        rcases hV.2.2.2.1 l hl with z | ⟨-, z2, z3, z4⟩
        · omega
        · rw [q, Int.toNat_natCast] at z2 z3 z4
          rw [(hm q0 z2).2.1 z3, z4, Int.toNat_natCast]
          have := hs.2.2.2.2.2.1 (24 + l); omega
      · exact Or.inr (hw.2.1 l hl q)
    · rcases wh 6 l (by omega) h1 with q | q
      · left
        rcases hV.2.2.2.2.1 l hl with z | ⟨-, z2, z3, z4⟩
        · omega
        · rw [q, Int.toNat_natCast] at z2 z3 z4
          rw [(hm q0 z2).2.2 z3, z4, Int.toNat_natCast]
          have := hs.2.2.2.2.2.1 (16 + l); omega
      · exact Or.inr (hw.2.2 l hl q)
  · intro m hm
    rw [e0] at hm
    have h7 : zVrem V q0 7 = V 7 := zVrem_r (by decide) (by decide) (by decide) (by decide)
    have h8 : zVrem V q0 8 = V 8 := zVrem_r (by decide) (by decide) (by decide) (by decide)
    have h9 : zVrem V q0 9 = V 9 := zVrem_r (by decide) (by decide) (by decide) (by decide)
    have h10 : zVrem V q0 10 = V 10 := zVrem_r (by decide) (by decide) (by decide) (by decide)
    have h11 : zVrem V q0 11 = V 11 := zVrem_r (by decide) (by decide) (by decide) (by decide)
    unfold zpt
    rw [r (t + 11) (by omega) (by omega), r (t + 12) (by omega) (by omega), h7, h8, h9, h10, h11]
    exact hc m hm
/-- no square has the piece that is only tried out -/
def zT59 (σ : zPH) (t : Nat) : Prop := ∀ p, p < 144 → σ (t + 2) p ≠ 59
theorem zTV_add {σ σ' : zPH} {t : Nat} {V : zPH} {q0 : Nat} {s f : Int} (hV : zVd V) (h : zTV σ t V) (h59 : zT59 σ t) (hq0 : zva V q0) (h0 : V 1 q0 = 0) (hs : (s = 2 ∧ (f = 0 ∨ f = 1)) ∨ (s = 6 ∧ f = -1)) (hp : zTy σ σ' t s f (zP V q0)) : zTV σ' t (zVadd V q0 s f) := by
  obtain ⟨hz, hd, hn, hq, hm, hw, hc⟩ := h
  obtain ⟨r, p4, p5, p6, p2, p3⟩ := id hp
  have e0 : zVadd V q0 s f 0 = V 0 := zVadd_r (by decide) (by decide) (by decide)
  have hpl := (zP_lt hV hq0).2
  have hne : ∀ q, zva V q → q ≠ q0 → zP V q ≠ zP V q0 := fun q h1 h2 e => h2 (zP_inj h1 hq0 e)
  have hno : σ (t + 2) (zP V q0) = -1 := (hq q0 hq0).1 h0
  have f3 : ∀ i : Nat, σ' (t + 3) i = if i = 59 then (zP V q0 : Int) else σ (t + 3) i := fun i => by
    rw [p3, hno]
    split
    · rfl
    · rw [if_neg (by omega)]
  have f3n : ∀ i : Nat, i ≠ 59 → σ' (t + 3) i = σ (t + 3) i := fun i hi => by rw [f3, if_neg hi]
  have rm : σ' (t + 9) = σ (t + 9) := r _ (by omega) (by omega) (by omega) (by omega) (by omega)
  obtain ⟨z1, z2, z3, z4, z5, z6, z7, z8, z9⟩ := id hz
  refine ⟨⟨by rw [r (t + 1) (by omega) (by omega) (by omega) (by omega) (by omega)]; exact z1, fun k => ?_, fun i => ?_, fun i => ?_, ?_, by rw [rm]; exact z6, ?_, ?_, ?_⟩, ?_, ?_, ?_, ?_, ?_, ?_⟩
  · rw [p2]; split
    · decide
    · exact z2 k
  · rw [f3]; split
    · omega
    · exact z3 i
  · unfold zPc
    rw [p4, p5, p6, r (t + 7) (by omega) (by omega) (by omega) (by omega) (by omega)]
    have := z4 i
    unfold zPc at this
    by_cases h : i = 59
    · rw [if_pos h, if_pos h, if_pos h]
      omega
    · rw [if_neg h, if_neg h, if_neg h]; exact this
  · rw [r t (by omega) (by omega) (by omega) (by omega) (by omega)]; exact z5
  · rw [r (t + 8) (by omega) (by omega) (by omega) (by omega) (by omega)]; exact z7
  · rw [r (t + 8) (by omega) (by omega) (by omega) (by omega) (by omega)]; exact z8
  · intro l hl
    rw [r (t + 8) (by omega) (by omega) (by omega) (by omega) (by omega)] at hl
    have := z6 l
    rw [rm, r (t + 7) (by omega) (by omega) (by omega) (by omega) (by omega), p6, if_neg (by omega)]
    exact z9 l hl
  · unfold zTd at *; rw [r t (by omega) (by omega) (by omega) (by omega) (by omega), r (t + 8) (by omega) (by omega) (by omega) (by omega) (by omega), e0]; exact hd
  · intro q w h1 h2
    rw [zva_to e0] at h1
    rw [r (t + 1) (by omega) (by omega) (by omega) (by omega) (by omega), zN_to e0, zP_to e0]
    refine ⟨(hn q w h1 h2).1, fun m hm => ?_⟩
    rw [zE_to e0]; exact (hn q w h1 h2).2 m hm
  · intro q h1
    rw [zva_to e0] at h1
    rw [zP_to e0]
    by_cases h : q = q0
    · subst h
      have a1 : zVadd V q s f 1 q = s := by simp [zVadd]
      have a2 : zVadd V q s f 2 q = -1 := by simp [zVadd]
      have a3 : zVadd V q s f 3 q = f := by simp [zVadd]
      rw [a1, a2, a3, p2, if_pos rfl, show (59 : Int).toNat = 59 from rfl]
      refine ⟨fun h => by omega, fun _ => ⟨by decide, by rw [p4, if_pos rfl], by rw [p5, if_pos rfl], by rw [p6, if_pos rfl], fun h => by omega, by rw [f3, if_pos rfl]⟩⟩
    · have h59' := h59 (zP V q) (zP_lt hV h1).2
      have hb := z2 (zP V q)
      rw [zVadd_k h, zVadd_k h, zVadd_k h, zVadd_k h, p2, if_neg (hne q h1 h), r (t + 7) (by omega) (by omega) (by omega) (by omega) (by omega)]
      obtain ⟨a1, a2⟩ := hq q h1
      refine ⟨a1, fun h2 => ?_⟩
      obtain ⟨b1, b2⟩ := a2 h2
      have : (σ (t + 2) (zP V q)).toNat ≠ 59 := by omega
      rw [p4, p5, p6, f3, if_neg this, if_neg this, if_neg this, if_neg this]
      exact ⟨b1, b2⟩
  · intro q h1
    rw [zva_to e0] at h1
    rw [zP_to e0, rm]
    by_cases h : q = q0
    · subst h
      have a1 : zVadd V q s f 1 q = s := by simp [zVadd]
      rw [a1]
      exact ⟨fun q => by omega, fun q => by omega, fun q => by omega⟩
    · rw [zVadd_k h, zVadd_k h, p2, if_neg (hne q h1 h)]
      exact hm q h1
  · unfold zTw
    rw [e0, rm, zVadd_r (r := 12) (by decide) (by decide) (by decide), zVadd_r (r := 5) (by decide) (by decide) (by decide), zVadd_r (r := 6) (by decide) (by decide) (by decide)]
    refine ⟨fun l hl h1 => ?_, fun l hl h1 => ?_, fun l hl h1 => ?_⟩
    · rw [f3n _ (by have := z6 l; omega)]; exact hw.1 l hl h1
    · rw [f3n _ (by have := z6 (24 + l); omega)]; exact hw.2.1 l hl h1
    · rw [f3n _ (by have := z6 (16 + l); omega)]; exact hw.2.2 l hl h1
  · intro m hm
    rw [e0] at hm
    unfold zpt
    rw [r (t + 11) (by omega) (by omega) (by omega) (by omega) (by omega), r (t + 12) (by omega) (by omega) (by omega) (by omega) (by omega), zVadd_r (r := 7) (by decide) (by decide) (by decide), zVadd_r (r := 8) (by decide) (by decide) (by decide), zVadd_r (r := 9) (by decide) (by decide) (by decide), zVadd_r (r := 10) (by decide) (by decide) (by decide), zVadd_r (r := 11) (by decide) (by decide) (by decide)]
    exact hc m hm
/-- a table that is another only in the piece that is only tried out -/
theorem zTV_59 {σ σ' : zPH} {t : Nat} {V : zPH} (h : zTV σ t V) (h59 : zT59 σ t) (hs : zTs σ' t) (r : ∀ q, t ≤ q → q ≤ t + 12 → q ≠ t + 3 → q ≠ t + 4 → q ≠ t + 5 → q ≠ t + 6 → σ' q = σ q) (r2 : ∀ q i, q = t + 3 ∨ q = t + 4 ∨ q = t + 5 ∨ q = t + 6 → i ≠ 59 → σ' q i = σ q i) : zTV σ' t V := by
  obtain ⟨hz, hd, hn, hq, hm, hw, hc⟩ := h
  obtain ⟨z1, z2, z3, z4, z5, z6, -⟩ := id hz
  refine ⟨hs, ?_, ?_, ?_, ?_, ?_, ?_⟩
  · unfold zTd at *; rw [r t (by omega) (by omega) (by omega) (by omega) (by omega) (by omega), r (t + 8) (by omega) (by omega) (by omega) (by omega) (by omega) (by omega)]; exact hd
  · unfold zTn at *; rw [r (t + 1) (by omega) (by omega) (by omega) (by omega) (by omega) (by omega)]; exact hn
  · intro q h1
    have hlt : zP V q < 144 := by
      have d0 := hd.1
      have d1 := hd.2.1
      obtain ⟨q1, q2⟩ := h1
      unfold zP
      have : q / 12 * (V 0 0).toNat ≤ 11 * 12 := Nat.mul_le_mul (by omega) (by omega)
      omega
    have h59' := h59 (zP V q) hlt
    have hb := z2 (zP V q)
    rw [r (t + 2) (by omega) (by omega) (by omega) (by omega) (by omega) (by omega), r (t + 7) (by omega) (by omega) (by omega) (by omega) (by omega) (by omega)]
    obtain ⟨a1, a2⟩ := hq q h1
    refine ⟨a1, fun h2 => ?_⟩
    obtain ⟨b1, b2⟩ := a2 h2
    have : (σ (t + 2) (zP V q)).toNat ≠ 59 := by omega
    rw [r2 (t + 4) _ (by omega) this, r2 (t + 5) _ (by omega) this, r2 (t + 6) _ (by omega) this, r2 (t + 3) _ (by omega) this]
    exact ⟨b1, b2⟩
  · unfold zTm at *; rw [r (t + 2) (by omega) (by omega) (by omega) (by omega) (by omega) (by omega), r (t + 9) (by omega) (by omega) (by omega) (by omega) (by omega) (by omega)]; exact hm
  · unfold zTw
    rw [r (t + 9) (by omega) (by omega) (by omega) (by omega) (by omega) (by omega)]
    refine ⟨fun l hl h1 => ?_, fun l hl h1 => ?_, fun l hl h1 => ?_⟩
    · rw [r2 (t + 3) _ (by omega) (by have := z6 l; omega)]; exact hw.1 l hl h1
    · rw [r2 (t + 3) _ (by omega) (by have := z6 (24 + l); omega)]; exact hw.2.1 l hl h1
    · rw [r2 (t + 3) _ (by omega) (by have := z6 (16 + l); omega)]; exact hw.2.2 l hl h1
  · unfold zTc at *; rw [r (t + 11) (by omega) (by omega) (by omega) (by omega) (by omega) (by omega), r (t + 12) (by omega) (by omega) (by omega) (by omega) (by omega) (by omega)]; exact hc
