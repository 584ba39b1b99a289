/-- what is on two squares has changed places -/
def zSw (σ σ' : zPH) (t pa pb : Nat) : Prop := (∀ q, q ≠ t + 2 → q ≠ t + 3 → σ' q = σ q) ∧ (∀ k, σ' (t + 2) k = if k = pa then σ (t + 2) pb else if k = pb then σ (t + 2) pa else σ (t + 2) k) ∧ ∀ i : Nat, σ' (t + 3) i = if σ (t + 2) pa = (i : Int) then (pb : Int) else if σ (t + 2) pb = (i : Int) then (pa : Int) else σ (t + 3) i
theorem zSw_of {σ σ1 σ2 : zPH} {t pa pb : Nat} (hab : pa ≠ pb) (ha : σ (t + 2) pa ≠ -1 → σ (t + 3) (σ (t + 2) pa).toNat = (pa : Int)) (hb : σ (t + 2) pb ≠ -1 → σ (t + 3) (σ (t + 2) pb).toNat = (pb : Int)) (h2 : ∀ p, -1 ≤ σ (t + 2) p ∧ σ (t + 2) p < 60) (p1 : zPu σ σ1 t (σ (t + 2) pb) pa) (p2 : zPu σ1 σ2 t (σ (t + 2) pa) pb) : zSw σ σ2 t pa pb := by
  obtain ⟨r1, a1, b1⟩ := p1
  obtain ⟨r2, a2, b2⟩ := p2
  have hx := h2 pa
  have hy := h2 pb
  refine ⟨fun q q1 q2 => by rw [r2 q q1 q2, r1 q q1 q2], fun k => ?_, fun i => ?_⟩
  · rw [a2, a1]
    by_cases h : k = pb
    · rw [if_pos h, if_neg (by omega), if_pos h]
    · rw [if_neg h]
      by_cases h' : k = pa
      · rw [if_pos h', if_pos h']
      · rw [if_neg h', if_neg h', if_neg h]
  · rw [b2, a1, if_neg (Ne.symm hab), b1]
    by_cases h : σ (t + 2) pa = (i : Int)
    · rw [if_pos h, if_pos h]
    · rw [if_neg h, if_neg h]
      by_cases h' : σ (t + 2) pb = (i : Int)
      · rw [if_pos h', if_neg (by omega), if_pos h']
      · rw [if_neg h', if_neg (by omega), if_neg (by omega), if_neg h']
/-- and back -/
theorem zSw_back {σ σ1 σ2 σ3 : zPH} {t pa pb : Nat} (hab : pa ≠ pb) (ha : σ (t + 2) pa ≠ -1 → σ (t + 3) (σ (t + 2) pa).toNat = (pa : Int)) (hb : σ (t + 2) pb ≠ -1 → σ (t + 3) (σ (t + 2) pb).toNat = (pb : Int)) (h2 : ∀ p, -1 ≤ σ (t + 2) p ∧ σ (t + 2) p < 60) (sw : (∀ k, σ1 (t + 2) k = if k = pa then σ (t + 2) pb else if k = pb then σ (t + 2) pa else σ (t + 2) k) ∧ ∀ i : Nat, σ1 (t + 3) i = if σ (t + 2) pa = (i : Int) then (pb : Int) else if σ (t + 2) pb = (i : Int) then (pa : Int) else σ (t + 3) i) (p1 : zPu σ1 σ2 t (σ (t + 2) pa) pa) (p2 : zPu σ2 σ3 t (σ (t + 2) pb) pb) : ∀ q, σ3 q = if q = t + 2 ∨ q = t + 3 then σ q else σ3 q := by
  obtain ⟨a0, b0⟩ := sw
  obtain ⟨r1, a1, b1⟩ := p1
  obtain ⟨r2, a2, b2⟩ := p2
  have hx := h2 pa
  have hy := h2 pb
  intro q
  split
  · rename_i hq
    rcases hq with rfl | rfl
    · funext k
      rw [a2, a1, a0]
      by_cases h : k = pb
      · rw [if_pos h, h]
      · rw [if_neg h]
        by_cases h' : k = pa
        · rw [if_pos h', h']
        · rw [if_neg h', if_neg h', if_neg h]
    · funext i
      rw [b2, b1, a1, if_neg (Ne.symm hab), a0, a0, if_neg (Ne.symm hab), if_pos rfl, if_pos rfl, b0]
      by_cases h' : σ (t + 2) pb = (i : Int)
      · rw [if_pos h']
        have := hb (by omega)
        rw [h', Int.toNat_natCast] at this
        omega
      · rw [if_neg h']
        by_cases h : σ (t + 2) pa = (i : Int)
        · have := ha (by omega)
          rw [h, Int.toNat_natCast] at this
          rw [if_pos h, if_neg (by omega)]
          omega
        · rw [if_neg h, if_neg (by omega), if_neg h, if_neg h', if_neg (by omega)]
  · rfl
theorem zTV_swp {σ σ' : zPH} {t : Nat} {V : zPH} {a b : Nat} (hV : zVd V) (h : zTV σ t V) (hva : zva V a) (hvb : zva V b) (hab : a ≠ b) (hs : zTs σ' t) (sw : zSw σ σ' t (zP V a) (zP V b)) : zTV σ' t (zVswp V a b) := by
  obtain ⟨hz, hd, hn, hq, hm, hw, hc⟩ := h
  obtain ⟨r, p2, p3⟩ := sw
  have e0 : zVswp V a b 0 = V 0 := zVswp_r (by omega)
  have hpab : zP V a ≠ zP V b := fun e => hab (zP_inj hva hvb e)
  have hne : ∀ q q', zva V q → zva V q' → q ≠ q' → zP V q ≠ zP V q' := fun q q' h1 h2 h3 e => h3 (zP_inj h1 h2 e)
  have rm : σ' (t + 9) = σ (t + 9) := r _ (by omega) (by omega)
  have sqn : ∀ q, zva V q → V 1 q ≠ 0 → 0 ≤ σ (t + 2) (zP V q) := fun q h1 h2 => by have := hz.2.1 (zP V q); have := ((hq q h1).2 h2).1; omega
  have sqo : ∀ q, zva V q → V 1 q ≠ 0 → σ (t + 3) (σ (t + 2) (zP V q)).toNat = (zP V q : Int) := fun q h1 h2 => ((hq q h1).2 h2).2.2.2.2.2
  -- the piece on a square now was that of another
  have wf : ∀ q : Nat, zva V q → ∃ p : Nat, zva V p ∧ (∀ r, (r = 1 ∨ r = 2 ∨ r = 3 ∨ r = 4) → zVswp V a b r q = V r p) ∧ σ' (t + 2) (zP V q) = σ (t + 2) (zP V p) ∧ (V 1 p ≠ 0 → σ' (t + 3) (σ (t + 2) (zP V p)).toNat = (zP V q : Int)) := fun q hqv => by
    by_cases h1 : q = a
    · subst h1
      refine ⟨b, hvb, fun r hr => by unfold zVswp; rw [if_pos hr, if_pos rfl], by rw [p2, if_pos rfl], fun hne0 => ?_⟩
      have hb0 := sqn b hvb hne0
      rw [p3, if_neg, if_pos (by omega)]
      intro e
      by_cases ha0 : V 1 q = 0
      · rw [(hq q hqv).1 ha0] at e; omega
      · have e1 := sqo q hqv ha0
        have e2 := sqo b hvb hne0
        rw [show (σ (t + 2) (zP V q)).toNat = (σ (t + 2) (zP V b)).toNat by omega] at e1
        omega
    · by_cases h2 : q = b
      · subst h2
        refine ⟨a, hva, fun r hr => by unfold zVswp; rw [if_pos hr, if_neg h1, if_pos rfl], by rw [p2, if_neg (Ne.symm hpab), if_pos rfl], fun hne0 => ?_⟩
        have ha0 := sqn a hva hne0
        rw [p3, if_pos (by omega)]
      · refine ⟨q, hqv, fun r hr => by unfold zVswp; rw [if_pos hr, if_neg h1, if_neg h2], by rw [p2, if_neg (hne q a hqv hva h1), if_neg (hne q b hqv hvb h2)], fun hne0 => ?_⟩
        have h0 := sqn q hqv hne0
        have e0 := sqo q hqv hne0
        rw [p3, if_neg, if_neg]
        · exact e0
        · intro e
          by_cases hb0 : V 1 b = 0
          · rw [(hq b hvb).1 hb0] at e; omega
          · have e1 := sqo b hvb hb0
            rw [show (σ (t + 2) (zP V b)).toNat = (σ (t + 2) (zP V q)).toNat by omega] at e1
            have := hne q b hqv hvb h2
            omega
        · intro e
          by_cases ha0 : V 1 a = 0
          · rw [(hq a hva).1 ha0] at e; omega
          · have e1 := sqo a hva ha0
            rw [show (σ (t + 2) (zP V a)).toNat = (σ (t + 2) (zP V q)).toNat by omega] at e1
            have := hne q a hqv hva h1
            omega
  have wh : ∀ r k : Nat, (r = 5 ∨ r = 6 ∨ r = 12) → zVswp V a b r k = -1 → V r k = -1 := fun r k hr hk => by
    unfold zVswp at hk; rw [if_neg (by omega), if_pos hr] at hk
    (repeat' split at hk) <;> omega
  have fin : ∀ i : Nat, σ (t + 3) i = -1 → σ' (t + 3) i = -1 := fun i hi => by
    rw [p3, if_neg, if_neg]
    · exact hi
    · intro e
      by_cases hb0 : V 1 b = 0
      · rw [(hq b hvb).1 hb0] at e; omega
      · have e1 := sqo b hvb hb0
        rw [e, Int.toNat_natCast] at e1; omega
    · intro e
      by_cases ha0 : V 1 a = 0
      · rw [(hq a hva).1 ha0] at e; omega
      · have e1 := sqo a hva ha0
        rw [e, Int.toNat_natCast] at e1; omega
  refine ⟨hs, ?_, ?_, ?_, ?_, ?_, ?_⟩
  · unfold zTd at *; rw [r t (by omega) (by omega), r (t + 8) (by omega) (by omega), e0]; exact hd
  · intro q w h1 h2
    rw [zva_to e0] at h1
    rw [r (t + 1) (by omega) (by omega), zN_to e0, zP_to e0]
    refine ⟨(hn q w h1 h2).1, fun m hm => ?_⟩
    rw [zE_to e0]; exact (hn q w h1 h2).2 m hm
  · intro q h1
    rw [zva_to e0] at h1
    rw [zP_to e0]
    obtain ⟨p, hp, w1, w2, w3⟩ := wf q h1
    rw [w1 1 (by omega), w1 2 (by omega), w1 3 (by omega), w1 4 (by omega), w2, r (t + 4) (by omega) (by omega), r (t + 5) (by omega) (by omega), r (t + 6) (by omega) (by omega), r (t + 7) (by omega) (by omega)]
    obtain ⟨a1, a2⟩ := hq p hp
    refine ⟨a1, fun h2 => ?_⟩
    obtain ⟨b1, b2, b3, b4, b5, b6⟩ := a2 h2
    exact ⟨b1, b2, b3, b4, b5, w3 h2⟩
  · intro q h1
    rw [zva_to e0] at h1
    obtain ⟨p, hp, w1, w2, w3⟩ := wf q h1
    rw [zP_to e0, rm, w1 1 (by omega), w1 2 (by omega), w2]
    exact hm p hp
  · unfold zTw
    rw [e0, rm]
    exact ⟨fun l hl h1 => fin _ (hw.1 l hl (wh 12 l (by omega) h1)), fun l hl h1 => fin _ (hw.2.1 l hl (wh 5 l (by omega) h1)), fun l hl h1 => fin _ (hw.2.2 l hl (wh 6 l (by omega) h1))⟩
  · intro m hm
    rw [e0] at hm
    unfold zpt
    rw [r (t + 11) (by omega) (by omega), r (t + 12) (by omega) (by omega), zVswp_r (r := 7) (by omega), zVswp_r (r := 8) (by omega), zVswp_r (r := 9) (by omega), zVswp_r (r := 10) (by omega), zVswp_r (r := 11) (by omega)]
    exact hc m hm
theorem zTV_tin {σ : zPH} {t : Nat} {V : zPH} {q0 : Nat} {c : Int} (h : zTV σ t V) (hq0 : zva V q0) (h4 : V 1 q0 = 4) (hc : 0 ≤ c ∧ c < 8) : zTV (zupd σ (t + 6) (σ (t + 2) (zP V q0)).toNat c) t (zVtin V q0 c) := by
  obtain ⟨hz, hd, hn, hq, hm, hw, hcd⟩ := h
  have er : ∀ r, r ≠ 3 → zVtin V q0 c r = V r := fun r h => zVtin_r h
  have e0 := er 0 (by decide)
  have ru : ∀ q, q ≠ t + 6 → zupd σ (t + 6) (σ (t + 2) (zP V q0)).toNat c q = σ q := fun q h => zupd_row h
  obtain ⟨b1, b2, b3, b4, b5, b6⟩ := (hq q0 hq0).2 (by omega)
  obtain ⟨z1, z2, z3, z4, z5, z6, z7, z8, z9⟩ := id hz
  refine ⟨⟨by rw [ru _ (by omega)]; exact z1, by rw [ru _ (by omega)]; exact z2, by rw [ru _ (by omega)]; exact z3, fun i => ?_, by rw [ru _ (by omega)]; exact z5, by rw [ru _ (by omega)]; exact z6, by rw [ru _ (by omega)]; exact z7, by rw [ru _ (by omega)]; exact z8, fun l hl => ?_⟩, ?_, ?_, ?_, ?_, ?_, ?_⟩
  · unfold zPc
    rw [ru (t + 4) (by omega), ru (t + 5) (by omega), ru (t + 7) (by omega)]
    have := z4 i
    unfold zPc at this
    by_cases h : i = (σ (t + 2) (zP V q0)).toNat
    · subst h
      rw [zupd_same]
      rw [b2] at this ⊢
      omega
    · rw [zupd_nk h]; exact this
  · rw [ru (t + 8) (by omega)] at hl
    rw [ru (t + 9) (by omega), ru (t + 7) (by omega)]
    have := z9 l hl
    by_cases h : (σ (t + 9) l).toNat = (σ (t + 2) (zP V q0)).toNat
    · rw [h, zupd_same]; rw [h] at this; exact ⟨this.1, hc.1⟩
    · rw [zupd_nk h]; exact this
  · unfold zTd at *; rw [ru t (by omega), ru (t + 8) (by omega), e0]; exact hd
  · intro q w h1 h2
    rw [zva_to e0] at h1
    rw [ru (t + 1) (by omega), zN_to e0, zP_to e0]
    refine ⟨(hn q w h1 h2).1, fun m hm => ?_⟩
    rw [zE_to e0]; exact (hn q w h1 h2).2 m hm
  · intro q h1
    rw [zva_to e0] at h1
    rw [zP_to e0, er 1 (by decide), er 2 (by decide), er 4 (by decide), ru (t + 2) (by omega), ru (t + 4) (by omega), ru (t + 5) (by omega), ru (t + 7) (by omega), ru (t + 3) (by omega)]
    obtain ⟨a1, a2⟩ := hq q h1
    refine ⟨a1, fun h2 => ?_⟩
    obtain ⟨c1, c2, c3, c4, c5, c6⟩ := a2 h2
    refine ⟨c1, c2, c3, ?_, c5, c6⟩
    by_cases h : q = q0
    · subst h
      rw [zupd_same]; simp [zVtin]
    · rw [zVtin_k h, zupd_nk]
      · exact c4
      · intro e
        rw [e, b6] at c6
        exact h (zP_inj h1 hq0 (by omega))
  · unfold zTm at *
    rw [ru (t + 2) (by omega), ru (t + 9) (by omega), er 1 (by decide), er 2 (by decide)]
    intro q h1
    rw [zva_to e0] at h1
    rw [zP_to e0]; exact hm q h1
  · unfold zTw at *
    rw [ru (t + 3) (by omega), ru (t + 9) (by omega), e0, er 5 (by decide), er 6 (by decide), er 12 (by decide)]; exact hw
  · intro m hm
    rw [e0] at hm
    unfold zpt
    rw [ru (t + 11) (by omega), ru (t + 12) (by omega), er 7 (by decide), er 8 (by decide), er 9 (by decide), er 10 (by decide), er 11 (by decide)]
    exact hcd m hm
/-! a piece more where no light comes changes nothing -/
theorem zdark_L {V : zPH} {q0 : Nat} {s f tu st : Int} (h0 : V 1 q0 = 0) (hs : s = 2 ∨ s = 6) (hd : ∀ w, w < 4 → zLv V tu st 255 7 (4 * q0 + w) = 0) : zLv (zVadd V q0 s f) tu st 255 7 = zLv V tu st 255 7 := by
  have e0 : zVadd V q0 s f 0 = V 0 := zVadd_r (by decide) (by decide) (by decide)
  have hdark : ∀ b n, b < 3 → zRe (zvL V 255 7 b) (zvS V tu st b) n → n / 4 ≠ q0 := fun b n hb h e => by
    have h1 := hd (n % 4) (by omega)
    rw [show 4 * q0 + n % 4 = n by omega] at h1
    have := (zLv_bt (V := V) (tu := tu) (st := st) (la := 255) (co := 7)).mpr ⟨hb, h⟩
    rw [h1] at this
    exact zbt_0 this
  have hS : ∀ b m, zvL (zVadd V q0 s f) 255 7 b m ↔ zvL V 255 7 b m := fun b m => by
    unfold zvL
    constructor
    · rintro ⟨q, q1, q2, q3, q4, q5, q6⟩
      have hq : q ≠ q0 := fun e => by
        subst e
        have : zVadd V q s f 1 q = s := by simp [zVadd]
        omega
      rw [zva_to e0] at q1
      rw [zVadd_k hq] at q2 q3 q4 q6
      rw [zN_to e0] at q6
      exact ⟨q, q1, q2, q3, q4, q5, q6⟩
    · rintro ⟨q, q1, q2, q3, q4, q5, q6⟩
      have hq : q ≠ q0 := fun e => by subst e; omega
      refine ⟨q, (zva_to e0 q).mpr q1, by rw [zVadd_k hq]; exact q2, by rw [zVadd_k hq]; exact q3, by rw [zVadd_k hq]; exact q4, q5, by rw [zVadd_k hq, zN_to e0]; exact q6⟩
  have hst : ∀ b n m, n / 4 ≠ q0 → (zvS (zVadd V q0 s f) tu st b n m ↔ zvS V tu st b n m) := fun b n m hn => by
    unfold zvS zFm
    rw [zVadd_k hn, zVadd_k hn, zVadd_k hn]
    constructor
    · rintro ⟨w, h1, h2⟩; rw [zN_to e0] at h2; exact ⟨w, h1, h2⟩
    · rintro ⟨w, h1, h2⟩; exact ⟨w, h1, by rw [zN_to e0]; exact h2⟩
  have key : ∀ b n, b < 3 → (zRe (zvL (zVadd V q0 s f) 255 7 b) (zvS (zVadd V q0 s f) tu st b) n ↔ zRe (zvL V 255 7 b) (zvS V tu st b) n) := fun b n hb => by
    constructor
    · intro h
      exact h.ind (P := fun n => zRe (zvL V 255 7 b) (zvS V tu st b) n) (fun n hn => zRe.src ((hS b n).mp hn)) (fun n m _ hn hm => hn.step ((hst b n m (hdark b n hb hn)).mp hm))
    · intro h
      have : zRe (zvL (zVadd V q0 s f) 255 7 b) (zvS (zVadd V q0 s f) tu st b) n ∧ zRe (zvL V 255 7 b) (zvS V tu st b) n :=
        h.ind (P := fun n => zRe (zvL (zVadd V q0 s f) 255 7 b) (zvS (zVadd V q0 s f) tu st b) n ∧ zRe (zvL V 255 7 b) (zvS V tu st b) n) (fun n hn => ⟨zRe.src ((hS b n).mpr hn), zRe.src hn⟩) (fun n m _ hn hm => ⟨hn.1.step ((hst b n m (hdark b n hb hn.2)).mpr hm), hn.2.step hm⟩)
      exact this.1
  funext n
  unfold zLv
  rw [show zbI (zRe (zvL (zVadd V q0 s f) 255 7 0) (zvS (zVadd V q0 s f) tu st 0) n) = zbI (zRe (zvL V 255 7 0) (zvS V tu st 0) n) by rw [propext (key 0 n (by decide))],
    show zbI (zRe (zvL (zVadd V q0 s f) 255 7 1) (zvS (zVadd V q0 s f) tu st 1) n) = zbI (zRe (zvL V 255 7 1) (zvS V tu st 1) n) by rw [propext (key 1 n (by decide))],
    show zbI (zRe (zvL (zVadd V q0 s f) 255 7 2) (zvS (zVadd V q0 s f) tu st 2) n) = zbI (zRe (zvL V 255 7 2) (zvS V tu st 2) n) by rw [propext (key 2 n (by decide))]]
theorem zdark_e {V : zPH} {q0 : Nat} {s f tu st : Int} (h0 : V 1 q0 = 0) (hs : s = 2 ∨ s = 6) (hd : ∀ k w, w < 4 → zLv V tu (zOr V tu st k) 255 7 (4 * q0 + w) = 0) : zEd (zVadd V q0 s f) tu st = zEd V tu st := by
  have e0 : zVadd V q0 s f 0 = V 0 := zVadd_r (by decide) (by decide) (by decide)
  have e5 : zVadd V q0 s f 5 = V 5 := zVadd_r (by decide) (by decide) (by decide)
  have e6 : zVadd V q0 s f 6 = V 6 := zVadd_r (by decide) (by decide) (by decide)
  have seE : ∀ k, zSe (zVadd V q0 s f) tu (zOr V tu st k) 255 7 = zSe V tu (zOr V tu st k) 255 7 := fun k => by
    have hL := zdark_L (s := s) (f := f) h0 hs (hd k)
    funext e
    unfold zSe zSq
    rw [e5, hL]
  have eyE : ∀ k, zEy (zVadd V q0 s f) tu (zOr V tu st k) 255 7 = zEy V tu (zOr V tu st k) 255 7 := fun k => by
    have h := seE k
    unfold zEy
    rw [e0]
    generalize (V 0 5).toNat = n
    induction n with
    | zero => rfl
    | succ n ih => simp only [zEn]; rw [ih, h]
  have nxE : ∀ k, zNx (zVadd V q0 s f) tu (zOr V tu st k) = zNx V tu (zOr V tu st k) := fun k => by
    have h := seE k
    unfold zNx
    rw [h, e0]
    generalize (V 0 4).toNat = n
    have hop : ∀ m, zOp (zVadd V q0 s f) (zSe V tu (zOr V tu st k) 255 7) (zOr V tu st k) m = zOp V (zSe V tu (zOr V tu st k) 255 7) (zOr V tu st k) m := fun m => by
      unfold zOp
      rw [e6, zHo_to (fun r h1 h2 => zVadd_r (by omega) (by omega) (by omega))]
    induction n with
    | zero => rfl
    | succ n ih => simp only [zSt]; rw [ih, hop]
  have orE : ∀ k, zOr (zVadd V q0 s f) tu st k = zOr V tu st k := fun k => by
    induction k with
    | zero => rfl
    | succ k ih => simp only [zOr]; rw [ih, nxE]
  have qE : ∀ A N, zQr (zVadd V q0 s f) tu st A N = zQr V tu st A N := fun A N => by
    unfold zQr
    have : zOr (zVadd V q0 s f) tu st = zOr V tu st := funext orE
    rw [this]
  have ldE : zLd (zVadd V q0 s f) tu st = zLd V tu st := by
    unfold zLd
    congr 1
    funext p
    exact qE p.1 p.2
  unfold zEd
  rw [ldE, orE, eyE]
