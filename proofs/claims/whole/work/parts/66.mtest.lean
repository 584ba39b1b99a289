section MU
variable {G : zG} {X : zX} {mover : Int} {T : Nat → Int} {n i : Nat}
theorem tSimple {d : Nat} {W : zPH} {p : Nat} (q1 : ¬ yIs T n p 0 24) (q2 : ¬ yIs T n p 3 91) : yFact T n d W p = if yIs T n p 0 26 then ySees T n W (ztE T n p) else ybn (yEx T n 0 25 W p) (fun W p => .inl (yadd W 0 0, p)) := by
  cases d with
  | zero => unfold yFact; rw [if_neg (fun z => z.elim q1 q2)]
  | succ d => unfold yFact; rw [if_neg q1, if_neg q2]
theorem yFl_bn {r : zPR} {k pl : Int} {g : zPH → zPH} (h : yFl T n r k pl) : yFl T n (ybn r (fun W p => .inl (g W, p))) k pl := by
  cases r with
  | inl x => obtain ⟨W, p⟩ := x; exact h
  | inr e => exact h
theorem yFl_ex {r : zPR} {k pl kk v : Int} (hk : kk ≠ 5) (h : yFl T n r k pl) : yFl T n (ybn r (yEx T n kk v)) k pl := by
  cases r with
  | inl x =>
    obtain ⟨W, p⟩ := x
    obtain ⟨a, b, c⟩ := h
    show yFl T n (yEx T n kk v W p) k pl
    unfold yEx
    rw [if_neg (fun z => hk (by rw [← z.1, a])), b, c]
    exact yNo_Fl
  | inr e => exact h
theorem tFact (hn : n ≤ 1600) : ∀ d, yFP G X mover T n i d := by
  have simple : ∀ (d : Nat) (W : zPH) (p : Nat), ¬ yIs T n p 0 24 → ¬ yIs T n p 3 91 → ∀ (m : Nat) (σ : zPH) (l : List (Int × Bool × Bool)), ztT σ W T n p i l 0 → (∀ σ' W' p', yFact T n d W p = .inl (W', p') → ztK T n p' ≠ 5 → ztT σ' W' T n p' i l 1 → zfk i σ σ' → zlp1 (b_M_test_48 G mover X) (m + 1) 1 σ') → (∀ σ' k pl, yFl T n (yFact T n d W p) k pl → zFt σ' k pl → zfk i σ σ' → b_M_test_81 G mover X σ') → zlp1 (b_M_test_48 G mover X) (m + 1 + 1) 1 σ := by
    intro d W p q1 q2 m σ l h h1 h0
    rw [tSimple q1 q2] at h1 h0
    have i26 : yIs T n p 0 26 → ¬ yIs T n p 0 25 := fun a b => by have := a.2; have := b.2; omega
    refine tF_step h (s_M_fact h (fun z => absurd z q2) (fun z => absurd z q1) (fun z => (z.elim (fun y => absurd y q2) (fun y => absurd y q1))) (fun z σ' hN f => ⟨rfl, ?_⟩) (fun z σ' W' p' e g hT f => ⟨rfl, h1 σ' W' p' (by rw [if_pos z]; exact e) g hT f⟩) (fun z σ' k pl e hf f => ⟨rfl, tF_ft hf (h0 σ' k pl (by rw [if_pos z]; exact e) hf f)⟩) (fun _ _ z25 z26 σ' hf f => ⟨rfl, tF_ft hf (h0 σ' 1 _ ?_ hf f)⟩))
    · have e : (if yIs T n p 0 26 then ySees T n W (ztE T n p) else ybn (yEx T n 0 25 W p) (fun W p => .inl (yadd W 0 0, p))) = .inl (yadd W 0 0, ztE T n p) := by
        rw [if_neg (fun y => i26 y z)]; unfold yEx; rw [if_pos z]; rfl
      rcases hN with ⟨g, hN⟩ | ⟨g, hN⟩
      · exact h1 σ' _ _ e g hN f
      · exact tF_ft hN (h0 σ' 1 _ (by rw [e]; exact ⟨g, rfl, rfl⟩) hN f)
    · rw [if_neg z26]; unfold yEx; rw [if_neg z25]; exact yNo_Fl
  intro d
  induction d with
  | zero =>
    intro W p
    refine ⟨1, fun m σ l hl h h1 h0 => ?_⟩
    by_cases q : yIs T n p 0 24 ∨ yIs T n p 3 91
    · have e : yFact T n 0 W p = .inr (4, (ztS T n p : Int)) := by unfold yFact; rw [if_pos q]
      refine tF_step h (s_M_fact h (fun _ y => by omega) (fun _ y => by omega) (fun _ _ σ' hf f => ⟨rfl, tF_ft hf (h0 σ' 4 _ (by rw [e]; exact ⟨rfl, rfl⟩) hf f)⟩) (fun z => ?_) (fun z => ?_) (fun z => ?_) (fun a b => ?_))
      · exfalso; rcases q with q | q <;> (have := q.1; have := q.2; have := z.1; have := z.2; omega)
      · exfalso; rcases q with q | q <;> (have := q.1; have := q.2; have := z.1; have := z.2; omega)
      · exfalso; rcases q with q | q <;> (have := q.1; have := q.2; have := z.1; have := z.2; omega)
      · exact absurd q (fun z => z.elim b a)
    · exact simple 0 W p (fun z => q (Or.inl z)) (fun z => q (Or.inr z)) m σ l h h1 h0
  | succ d ih =>
    intro W p
    by_cases q : yIs T n p 0 24
    · have e : yFact T n (d + 1) W p = ybn (yFact T n d W (ztE T n p)) (fun W p => .inl (yadd W 4 0, p)) := by
        conv => lhs; unfold yFact
        rw [if_pos q]
      obtain ⟨c1, H1⟩ := ih W (ztE T n p)
      refine ⟨c1 + 2, fun m σ l hl h h1 h0 => ?_⟩
      rw [show m + 1 + (c1 + 2) = (m + 1 + 1 + c1) + 1 by omega]
      rw [e] at h1 h0
      refine tF_step h (s_M_fact h (fun z => ?_) (fun _ _ σ' hN f => ⟨rfl, ?_⟩) (fun _ y => by omega) (fun z => ?_) (fun z => ?_) (fun z => ?_) (fun _ b => absurd q b))
      · exfalso; have := q.1; have := z.1; omega
      · rcases hN with ⟨g, hN⟩ | ⟨g, hN⟩
        · refine H1 (m + 1) σ' _ (by simp; omega) hN (fun σ2 W2 p2 e2 g2 T2 f2 => ?_) (fun σ2 k2 pl2 a2 b2 f2 => h0 σ2 k2 pl2 (yFl_bn (g := fun W => yadd W 4 0) a2) b2 (f.trans f2))
          refine tG_step T2 (s_M_goesOn T2 (by decide) (fun _ σ3 T3 f3 => ⟨1, Or.inr rfl, rfl, h1 σ3 _ p2 (by rw [e2]; rfl) g2 T3 (f.trans (f2.trans f3))⟩) (fun z => absurd rfl z) (fun z => absurd rfl z) (fun z => absurd z (by decide)) (fun z => absurd rfl z) (fun z => absurd rfl z))
        · rw [show m + 1 + 1 + c1 = m + 1 + c1 + 1 by omega]
          refine tF_ft hN (h0 σ' 1 _ ?_ hN f)
          rw [yFact_5 g]; exact yNo_Fl
      · exfalso; have := q.2; have := z.2; omega
      · exfalso; have := q.2; have := z.2; omega
      · exfalso; have := q.2; have := z.2; omega
    · by_cases q2 : yIs T n p 3 91
      · have e : yFact T n (d + 1) W p = ybn (yTest T n (yFact T n d) W (ztE T n p)) (yEx T n 3 93) := by
          conv => lhs; unfold yFact
          rw [if_neg q, if_pos q2]
        obtain ⟨c1, H1⟩ := tOrs hn ih 1600 false W (ztE T n p)
        refine ⟨c1 + 2, fun m σ l hl h h1 h0 => ?_⟩
        have hbb := h.b
        have hp0 := h.2.2.2.2.2.2.2
        have hp1 := ztE_p hbb.2.2.2.1 (show ztK T n p ≠ 4 by have := q2.1; omega)
        rw [show m + 1 + (c1 + 2) = (m + 1 + 1 + c1) + 1 by omega]
        rw [e] at h1 h0
        have ey : ∀ (W : zPH) (p : Nat), yOrs T n (yAnds T n (yFact T n d) 1600 false) 1600 false W p = yTest T n (yFact T n d) W p := fun _ _ => rfl
        rw [ey] at H1
        refine tF_step h (s_M_fact h (fun _ _ σ' hN f => ⟨rfl, ?_⟩) (fun z => absurd z q) (fun _ y => by omega) (fun z => ?_) (fun z => ?_) (fun z => ?_) (fun a => absurd q2 a))
        · rcases hN with ⟨g, hN⟩ | ⟨g, hN⟩
          · refine H1 (m + 1) σ' l 1 (by omega) (by decide) (by decide) (by omega) hN (fun σ2 W2 k2 o2 p2 e2 g2 n2 m2 T2 f2 => ?_) (fun σ2 k2 pl2 a2 b2 f2 => h0 σ2 k2 pl2 (yFl_ex (by decide) a2) b2 (f.trans f2))
            have ee : ybn (yTest T n (yFact T n d) W (ztE T n p)) (yEx T n 3 93) = yEx T n 3 93 (yjo W2 k2 o2) p2 := by rw [e2]; rfl
            rw [ee] at h1 h0
            refine tG_step T2 (s_M_goesOn T2 (by decide) (fun z => absurd z (by decide)) (fun _ y => absurd y n2) (fun _ _ y => absurd y m2) (fun z => absurd z (by decide)) (fun _ _ _ _ y σ3 hN3 f3 => ⟨1, Or.inr rfl, rfl, ?_⟩) (fun _ _ _ _ y σ3 hf3 f3 => ⟨0, Or.inl rfl, rfl, ?_⟩))
            · have e3 : yEx T n 3 93 (yjo W2 k2 o2) p2 = .inl (yjo W2 k2 o2, ztE T n p2) := by unfold yEx; rw [if_pos y]
              rcases hN3 with ⟨g3, hN3⟩ | ⟨g3, hN3⟩
              · exact h1 σ3 _ _ e3 g3 hN3 (f.trans (f2.trans f3))
              · exact tF_ft hN3 (h0 σ3 1 _ (by rw [e3]; exact ⟨g3, rfl, rfl⟩) hN3 (f.trans (f2.trans f3)))
            · refine tF_ft hf3 (h0 σ3 1 _ ?_ hf3 (f.trans (f2.trans f3)))
              unfold yEx; rw [if_neg y]; exact yNo_Fl
          · rw [show m + 1 + 1 + c1 = m + 1 + c1 + 1 by omega]
            refine tF_ft hN (h0 σ' 1 _ ?_ hN f)
            refine yFl_ex (by decide) ?_
            rw [← ey, yOrs_5 g d _ _ (by decide)]; exact yNo_Fl
        · exfalso; have := q2.1; have := z.1; omega
        · exfalso; have := q2.1; have := z.1; omega
        · exfalso; have := q2.1; have := z.1; omega
      · exact ⟨1, fun m σ l _ h h1 h0 => simple (d + 1) W p q q2 m σ l h h1 h0⟩
/-- what test() changes -/
def zfT (i : Nat) (σ σ' : zPH) : Prop := (∀ q, q ≠ 58 → q ≠ 73 → q ≠ 74 → (q < 75 ∨ 82 < q) → σ' q = σ q) ∧ (∀ k, (k < 5 ∨ (12 < k ∧ k ≠ 34 ∧ k ≠ 39 ∧ k ≠ 40 ∧ k ≠ 41)) → σ' 58 k = σ 58 k) ∧ zfo i σ σ'
theorem s_M_test' {σ : zPH} {k pl : Int} (h : zmFt σ k pl) (hX : X none σ) : MS G zm_M_test 5 [zr G 58, iZ mover] σ X :=
  k_M_test ⟨by have := h.1; have := h.2.2; omega, fun z => by have := h.1; have := h.2.2; omega, fun _ => hX⟩
theorem s_M_test {σ W : zPH} {p : Nat} {m : Nat} (hm : mover = (m : Int)) (hm6 : m < 6) (ha : zmP σ T n p) (hc : zmc σ W i) (hi : σ 58 35 = (i : Int) ∧ i ≤ 1) (hp : 2 * (W 0 7) ≤ (p : Int) ∧ 0 < p)
  (h1 : ∀ σ' W' p', yTest T n (yFact T n 6) W p = .inl (W', p') → ztK T n p' ≠ 5 → zmP σ' T n p' → zmc σ' W' i → (∀ k, σ' 73 k = if k = 6 * i + m then W 0 7 else σ 73 k) → (∀ k, σ' 74 k = if k = 6 * i + m then W' 0 7 else σ 74 k) → zfT i σ σ' → X none σ')
  (h0 : ∀ σ' k pl, yFl T n (yTest T n (yFact T n 6) W p) k pl → zFt σ' k pl → (∀ k, k ≠ 6 * i + m → σ' 73 k = σ 73 k ∧ σ' 74 k = σ 74 k) → zfT i σ σ' → X none σ') : MS G zm_M_test 5 [zr G 58, iZ mover] σ X := by
  subst hm
  have h10 := ha.2.1
  have hn := ha.1.2.2.1
  have hx : (6 * (i : Int) + (m : Int)).toNat = 6 * i + m := by omega
  have hc0 := hc.2.1
  refine k_M_test ⟨by omega, fun _ => ?_, fun z => by omega⟩
  rw [hi.1]
  refine ⟨by omega, ?_⟩
  rw [hx, hc.1]
  rintro σ1 e1 σ2 e2 σ3 e3 σ4 e4
  have r4 : ∀ q, q ≠ 58 → q ≠ 73 → σ4 q = σ q := fun q a b => by rw [e4, zupd_row a, e3, zupd_row a, e2, zupd_row a, e1, zupd_row b]
  have k4 : ∀ q, q ≠ 39 → q ≠ 40 → q ≠ 41 → σ4 58 q = σ 58 q := fun q a b c => by rw [e4, zupd_nk c, e3, zupd_nk b, e2, zupd_nk a, e1, zupd_row (by decide)]
  have v73 : ∀ k, σ4 73 k = if k = 6 * i + m then W 0 7 else σ 73 k := fun k => by
    rw [e4, zupd_row (by decide), e3, zupd_row (by decide), e2, zupd_row (by decide), e1]
    split
    · rename_i y; rw [y, zupd_same]
    · rename_i y; rw [zupd_nk y]
  refine s_M_pushes (l := []) (by rw [e4, zupd_nk (by decide), e3, zupd_nk (by decide), e2, zupd_same]; rfl) (by decide) trivial (fun σ5 d5 R5 q5 k5 => ⟨rfl, ?_⟩)
  have a5 : zmP σ5 T n p := ha.to (by rw [q5 59 (by decide) (by decide) (by decide) (by decide), r4 59 (by decide) (by decide)]) (fun k _ _ => by rw [k5 k (by omega), k4 k (by omega) (by omega) (by omega)])
  have T5 : ztT σ5 W T n p i [(0, false, false)] 0 := ⟨a5, hc.to (fun q _ => by rw [q5 q (by omega) (by omega) (by omega) (by omega), r4 q (by omega) (by omega)]) (by rw [k5 34 (by decide), k4 34 (by decide) (by decide) (by decide)]), by rw [k5 35 (by decide), k4 35 (by decide) (by decide) (by decide)]; exact hi, ⟨d5, by rw [k5 40 (by decide), e4, zupd_nk (by decide), e3, zupd_same]; rfl, by decide⟩, R5, by rw [k5 41 (by decide), e4, zupd_same], by
    have : zpn [((0 : Int), false, false)] = 0 := rfl
    rw [this]; omega, hp.2⟩
  have F5 : zfT i σ σ5 := ⟨fun q a b c d => by rw [q5 q a (by omega) (by omega) (by omega), r4 q a b], fun k a => by rw [k5 k (by omega), k4 k (by omega) (by omega) (by omega)], fun q a k b => by rw [q5 q (by omega) (by omega) (by omega) (by omega), r4 q (by omega) (by omega)]⟩
  have v5 : ∀ k, σ5 73 k = if k = 6 * i + m then W 0 7 else σ 73 k := fun k => by rw [q5 73 (by decide) (by decide) (by decide) (by decide)]; exact v73 k
  have w5 : ∀ k, σ5 74 k = σ 74 k := fun k => by rw [q5 74 (by decide) (by decide) (by decide) (by decide), r4 74 (by decide) (by decide)]
  have out : ∀ σ6 σ7 : zPH, zfk i σ5 σ6 → σ7 = zupd σ6 74 (6 * i + m) (σ6 58 34) → zfT i σ σ7 ∧ (∀ k, σ7 73 k = if k = 6 * i + m then W 0 7 else σ 73 k) ∧ (∀ k, σ7 74 k = if k = 6 * i + m then σ6 58 34 else σ 74 k) := by
    intro σ6 σ7 f e
    refine ⟨⟨fun q a b c d => by rw [e, zupd_row c, f.1 q a d, F5.1 q a b c d], fun k a => by rw [e, zupd_row (by decide), f.2.1 k a, F5.2.1 k a], fun q a k b => by rw [e, zupd_row (by omega), f.2.2 q a k b, F5.2.2 q a k b]⟩, fun k => by rw [e, zupd_row (by decide), f.1 73 (by decide) (by omega)]; exact v5 k, fun k => ?_⟩
    rw [e]
    split
    · rename_i y; rw [y, zupd_same]
    · rename_i y; rw [zupd_nk y, f.1 74 (by decide) (by omega), w5]
  obtain ⟨c1, H1⟩ := tOrs (G := G) (X := X) (mover := (m : Int)) (i := i) hn (tFact hn 6) 1600 false W p
  have ey : ∀ (W : zPH) (p : Nat), yOrs T n (yAnds T n (yFact T n 6) 1600 false) 1600 false W p = yTest T n (yFact T n 6) W p := fun _ _ => rfl
  rw [ey] at H1
  refine ⟨1 + 1 + c1, H1 1 σ5 [] 0 (by decide) (by decide) (by decide) (by omega) T5 (fun σ6 W6 k6 o6 p6 e6 g6 n6 m6 T6 f6 => ?_) (fun σ6 k6 pl6 a6 b6 f6 => ?_)⟩
  · refine tG_step T6 (s_M_goesOn T6 (by decide) (fun z => absurd z (by decide)) (fun _ y => absurd y n6) (fun _ _ y => absurd y m6) (fun _ _ _ σ7 A7 c7 f7 => ⟨0, Or.inl rfl, rfl, ?_⟩) (fun _ z => absurd rfl z) (fun _ z => absurd rfl z))
    have h7 := A7.2.1
    refine ⟨by omega, fun z => absurd h7 z, fun _ => ⟨by decide, fun _ => ?_, fun z => absurd rfl z⟩⟩
    have hi7 : σ7 58 35 = (i : Int) := by rw [(f6.trans f7).2.1 35 (by omega), F5.2.1 35 (by omega)]; exact hi.1
    unfold b_M_test_81
    rw [hi7, hx]
    refine ⟨by omega, ?_⟩
    rintro σ8 e8
    obtain ⟨o1, o2, o3⟩ := out σ7 σ8 (f6.trans f7) e8
    refine h1 σ8 _ p6 e6 g6 (A7.to (by rw [e8, zupd_row (by decide)]) (fun k _ _ => by rw [e8, zupd_row (by decide)])) (c7.to (fun q _ => by rw [e8, zupd_row (by omega)]) (by rw [e8, zupd_row (by decide)])) o2 (fun k => by rw [o3, c7.1]) o1
  · have hi7 : σ6 58 35 = (i : Int) := by rw [f6.2.1 35 (by omega), F5.2.1 35 (by omega)]; exact hi.1
    unfold b_M_test_81
    rw [hi7, hx]
    refine ⟨by omega, ?_⟩
    rintro σ8 e8
    obtain ⟨o1, o2, o3⟩ := out σ6 σ8 f6 e8
    refine h0 σ8 k6 pl6 a6 ⟨⟨by rw [e8, zupd_row (by decide)]; exact b6.1.1, by rw [e8, zupd_row (by decide)]; exact b6.1.2.1, b6.1.2.2⟩, by rw [e8, zupd_row (by decide)]; exact b6.2⟩ (fun k hk => by rw [o2, o3, if_neg hk, if_neg hk]; exact ⟨rfl, rfl⟩) o1
end MU
