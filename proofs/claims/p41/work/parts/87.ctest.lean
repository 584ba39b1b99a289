/-- room for the parts to come: k one waits -/
def yBo (T : Nat → Int) (n : Nat) (k : Bool) (W : zPH) (p : Nat) : Prop := 3 * W 0 7 + (if k then 3 else 0) ≤ (p : Int) + ywe T p ∧ 10 * (ysn W (W 0 7).toNat : Int) ≤ p + ywe T p ∧ 0 < p ∧ p ≤ n ∧ 0 ≤ W 0 7
section RF
variable {G : zG} {T : Nat → Int} {n u : Nat}
/-- readFact with d opens still allowed -/
def yCF (G : zG) (T : Nat → Int) (n u d : Nat) : Prop := ∀ (fr : Nat) (X : zX) (σ W : zPH) (p : Nat), 3 + 2 * d ≤ fr → yRn σ T n u yRq W p → yBo T n false W p → (∀ σ', yOc σ' T n u yRq (fun _ _ => True) yid (yFact T n d W p) → yfr u σ σ' → X none σ') → MS G zm_R_readFact fr [zr G 4, iZ (6 - (d : Int))] σ X
theorem s_R_readFact' (hT : ∀ k, 0 ≤ T k ∧ T k < 256) (hn : n ≤ 1600) (hu : zisT u) {fr : Nat} (hf : 3 ≤ fr) {o : Int} {X : zX} {σ : zPH} {k pl : Int} (h : yRf σ T n u k pl) (hX : ∀ σ', yRf σ' T n u k pl → yfr u σ σ' → X none σ') : MS G zm_R_readFact fr [zr G 4, iZ o] σ X := by
  refine k_R_readFact hu ⟨0, by omega, s_R_isWord' h ⟨0, Or.inl rfl, rfl, by decide, fun z => absurd rfl z, fun _ => ⟨0, by omega, s_R_isSign' h (Or.inl ⟨rfl, 0, by omega, s_R_isWord' h (Or.inl ⟨rfl, 2, by omega, ?_⟩)⟩)⟩⟩⟩
  refine k_R_expect (s_R_isWord' h (Or.inl ⟨rfl, s_R_refuseToken' hT hn h ⟨rfl, rfl, h.1.2.1, 0, by omega, s_T_addCode' hu h (fun σ' h' f' => ⟨rfl, hX σ' h' f'⟩)⟩⟩))
/-- the bounds behind a fact -/
theorem yBo_aft {d : Nat} (hn : n ≤ 1600) {k : Bool} {W W1 : zPH} {p p1 : Nat} (hb : yBo T n k W p) (e : yFact T n d W p = .inl (W1, p1)) : 3 * W1 0 7 + (if k then 3 else 0) ≤ (p1 : Int) ∧ 10 * (ysn W1 (W1 0 7).toNat : Int) ≤ p1 ∧ p ≤ p1 ∧ p1 ≤ n ∧ 0 ≤ W1 0 7 := by
  obtain ⟨b1, b2, b3, b4, b5⟩ := hb
  obtain ⟨a1, a2⟩ := yFact_b T hn d W p W1 p1 b5 b4 e
  have c1 := a2.2.2.1
  have c2 := a2.2.2.2.1
  have c3 := a2.2.2.2.2.1
  exact ⟨by omega, by omega, a1.1, a1.2, by omega⟩
theorem zpt_add {W : zPH} {s : Int} (hs : s = 0 ∨ s = 2 ∨ s = 3 ∨ s = 4) : zpt (yadd W s 0) (W 0 7).toNat = if s = 0 then 25 else if s = 2 then 23 else if s = 3 then 22 else 24 := by
  obtain ⟨v1, v2, v3, v4, v5, v6⟩ := yadd_v W s 0
  unfold zpt
  rw [v3, if_pos rfl]
  rcases hs with rfl | rfl | rfl | rfl <;> rfl
theorem s_R_readTestO (hT : ∀ k, 0 ≤ T k ∧ T k < 256) (hn : n ≤ 1600) (hu : zisT u) {d : Nat} (hF : yCF G T n u d) {fr : Nat} (hfr : 4 + 2 * d ≤ fr) {X : zX} {σ : zPH} {R : zPR} (h : yOc σ T n u yRq (yBo T n false) (yTest T n (yFact T n d)) R) (hX : ∀ σ', yOc σ' T n u yRq (fun _ _ => True) yid R → yfr u σ σ' → X none σ') : MS G zm_R_readTest fr [zr G 4, iZ (6 - (d : Int))] σ X := by
  have hh := hu.h
  refine k_R_readTest hu ?_
  refine zLP2_ind (fun x2 x3 s => (0 ≤ x3 ∧ x3 ≤ 1600) ∧ yfr u σ s ∧ ((x2 = 1 ∧ yOc s T n u yRq (yBo T n (decide (0 < x3))) (yOrs T n (yAnds T n (yFact T n d) 1600 false) (1600 - x3).toNat (decide (0 < x3))) R) ∨ (x2 = 0 ∧ yOc s T n u yRq (fun _ _ => True) yid R))) (fun _ x3 _ => (1600 - x3).toNat) ?_ ⟨by decide, yfr.rf, Or.inl ⟨rfl, h⟩⟩
  rintro K4 x2 x3 s ⟨hx3, hf, hI⟩ hK4
  refine ⟨by omega, fun z => ?_, fun z => ?_⟩
  · have e3 : x3 = 1600 := by omega
    subst e3
    rcases hI with ⟨-, ⟨W, p, e, -, hs⟩ | ⟨k, pl, e, hs⟩⟩ | ⟨-, hI⟩
    · exact hX s (Or.inl ⟨W, p, e, trivial, hs⟩) hf
    · exact hX s (Or.inr ⟨k, pl, e, hs⟩) hf
    · exact hX s hI hf
  rcases hI with ⟨rfl, hI⟩ | ⟨rfl, hI⟩
  rotate_left
  · exact ⟨by decide, fun _ => hX s hI hf, fun y => absurd rfl y⟩
  refine ⟨by decide, fun y => absurd y (by decide), fun _ => ?_⟩
  -- what one round of ors starts from
  have start : ∃ R1 : zPR, yOc s T n u yRq (yBo T n false) (yAnds T n (yFact T n d) 1600 false) R1 ∧ (∀ k pl, R1 = .inr (k, pl) → R = .inr (k, pl)) ∧ ∀ W1 p1, R1 = .inl (W1, p1) → (R = (if yIs T n p1 0 22 then yOrs T n (yAnds T n (yFact T n d) 1600 false) (1600 - (x3 + 1)).toNat true (if 0 < x3 then yadd W1 3 0 else W1) (ztE T n p1) else .inl (if 0 < x3 then yadd W1 3 0 else W1, p1)) ∧ 3 * W1 0 7 + (if 0 < x3 then 3 else 0) ≤ (p1 : Int) ∧ 10 * (ysn W1 (W1 0 7).toNat : Int) ≤ p1 ∧ p1 ≤ n ∧ 0 < p1) := by
    rcases hI with ⟨W, p, e, hb, hs⟩ | ⟨k, pl, e, hs⟩
    · have ef : (1600 - x3).toNat = (1600 - (x3 + 1)).toNat + 1 := by omega
      rw [ef] at e
      unfold yOrs at e
      obtain ⟨b1, b2, b3, b4, b5⟩ := hb
      refine ⟨yAnds T n (yFact T n d) 1600 false W p, Or.inl ⟨W, p, rfl, ⟨by simp only [if_neg (show ¬ (false = true) by decide)]; split at b1 <;> omega, b2, b3, b4, b5⟩, hs⟩, fun k pl hr => ?_, fun W1 p1 hr => ⟨?_, ?_⟩⟩
      · rw [hr] at e; exact e.symm
      · rw [hr] at e
        rw [← e]
        show ybn (.inl (W1, p1)) _ = _
        simp only [decide_eq_true_eq]; rfl
      · obtain ⟨a1, a2⟩ := yAnds_b T n (yFact_b T hn d) 1600 false W p W1 p1 (by decide) b5 b4 (by omega) hr
        have c1 := a2.2.2.1
        have c2 := a2.2.2.2.1
        have c3 := a2.2.2.2.2.1
        simp only [if_neg (show ¬ (false = true) by decide)] at c2
        simp only [decide_eq_true_eq] at b1
        refine ⟨?_, by omega, a1.2, by omega⟩
        split at b1 <;> (rename_i q; first | rw [if_pos q] | rw [if_neg q]; omega) <;> omega
    · exact ⟨R, Or.inr ⟨k, pl, e, hs⟩, fun _ _ hr => hr, fun W1 p1 hr => by rw [e] at hr; exact nomatch hr⟩
  obtain ⟨R1, hs1, hR1i, hR1⟩ := start
  -- behind the facts joined by and
  have b76 : ∀ s1 : zPH, yOc s1 T n u yRq (fun _ _ => True) yid R1 → yfr u σ s1 → b_R_readTest_76 G fr u (6 - (d : Int)) X K4 x3 s1 := by
    intro s1 h1 f1
    have b89F : ∀ (s2 : zPH) (k pl : Int), R = .inr (k, pl) → yRf s2 T n u k pl → yfr u σ s2 → b_R_readTest_89 G fr u (6 - (d : Int)) X K4 x3 s2 := fun s2 k pl eR h2 f2 =>
      ⟨0, by omega, s_R_isWord' h2 ⟨0, Or.inl rfl, rfl, by decide, fun _ => hK4 _ _ _ ⟨by omega, f2, Or.inr ⟨rfl, Or.inr ⟨k, pl, eR, h2⟩⟩⟩ (by omega), fun y => absurd rfl y⟩⟩
    have b89 : ∀ (s2 W2 : zPH) (p2 : Nat), yRn s2 T n u yRq W2 p2 → yfr u σ s2 → (R = if yIs T n p2 0 22 then yOrs T n (yAnds T n (yFact T n d) 1600 false) (1600 - (x3 + 1)).toNat true W2 (ztE T n p2) else .inl (W2, p2)) → 3 * W2 0 7 ≤ (p2 : Int) → 10 * (ysn W2 (W2 0 7).toNat : Int) ≤ p2 → p2 ≤ n → b_R_readTest_89 G fr u (6 - (d : Int)) X K4 x3 s2 := by
      intro s2 W2 p2 h2 f2 eR hb1 hb2 hp2
      refine ⟨0, by omega, s_R_isWord hT hn h2 (by decide) (fun q => ⟨1, Or.inr rfl, rfl, by decide, fun y => absurd y (by decide), fun _ => ⟨0, by omega, ?_⟩⟩) (fun q => ⟨0, Or.inl rfl, rfl, by decide, fun _ => ?_, fun y => absurd rfl y⟩)⟩
      · rw [if_pos q] at eR
        have w1 := (ztw_n hp2 q.1).1
        have w2 := (ztE_s (T := T) hp2).2.1
        have w3 := (ztS_s (T := T) hp2).1.1
        have w4 := yeE hp2 (Or.inl q.1)
        refine s_R_advance (hT := hT) hn (by omega) h2 (by have := q.1; omega) (fun s3 h3 f3 _ => ⟨rfl, hK4 _ _ _ ⟨by omega, f2.trans f3, Or.inl ⟨rfl, Or.inl ⟨W2, _, ?_, ⟨?_, by omega, by omega, w2, h2.2.2.2.2.2⟩, h3⟩⟩⟩ (by omega)⟩)
        · rw [eR, decide_eq_true (show (0 : Int) < x3 + 1 by omega)]
        · rw [decide_eq_true (show (0 : Int) < x3 + 1 by omega), if_pos rfl]; omega
      · rw [if_neg q] at eR
        exact hK4 _ _ _ ⟨by omega, f2, Or.inr ⟨rfl, Or.inl ⟨W2, p2, eR.symm, trivial, h2⟩⟩⟩ (by omega)
    rcases h1 with ⟨W1, p1, e1, -, h1⟩ | ⟨k, pl, e1, h1⟩
    · obtain ⟨eR, c1, c2, c3, c4⟩ := hR1 W1 p1 e1.symm
      refine ⟨by omega, fun y => ?_, fun y => ⟨h1.1.2.1, 0, by omega, ?_⟩⟩
      · rw [if_neg (by omega)] at c1
        rw [if_neg (show ¬ 0 < x3 by omega)] at eR
        exact b89 s1 W1 p1 h1 f1 eR (by omega) c2 c3
      · rw [if_pos y] at c1
        rw [if_pos y] at eR
        have h07 := h1.2.2.2.2.2
        refine s_T_addCode (s := 3) (c := 0) (S' := yRq) hu h1 (by omega) (by rw [zpt_add (by decide)]; rfl) (yRq_add h07 (by decide)) (fun s2 h2 f2 => ⟨rfl, b89 s2 _ p1 h2 (f1.trans f2) eR ?_ ?_ c3⟩)
        · rw [(yadd_v W1 3 0).1]; omega
        · rw [yadd_sn h07, if_neg (by decide)]; omega
    · have eR := hR1i k pl e1
      refine ⟨by omega, fun y => b89F s1 k pl eR h1 f1, fun y => ⟨h1.1.2.1, 0, by omega, s_T_addCode' hu h1 (fun s2 h2 f2 => ⟨rfl, b89F s2 k pl eR h2 (f1.trans f2)⟩)⟩⟩
  -- facts joined by and
  refine zLP3_ind (fun y3 x4 x5 s1 => y3 = x3 ∧ (0 ≤ x5 ∧ x5 ≤ 1600) ∧ yfr u σ s1 ∧ ((x4 = 1 ∧ yOc s1 T n u yRq (yBo T n (decide (0 < x5))) (yAnds T n (yFact T n d) (1600 - x5).toNat (decide (0 < x5))) R1) ∨ (x4 = 0 ∧ yOc s1 T n u yRq (fun _ _ => True) yid R1))) (fun _ _ x5 _ => (1600 - x5).toNat) ?_ ⟨rfl, by decide, hf, Or.inl ⟨rfl, hs1⟩⟩
  rintro K21 y3 x4 x5 s1 ⟨rfl, hx5, f1, hJ⟩ hK21
  refine ⟨by omega, fun y => ?_, fun y => ?_⟩
  · have e5 : x5 = 1600 := by omega
    subst e5
    rcases hJ with ⟨-, ⟨W, p, e, -, hs⟩ | ⟨k, pl, e, hs⟩⟩ | ⟨-, hJ⟩
    · exact b76 s1 (Or.inl ⟨W, p, e, trivial, hs⟩) f1
    · exact b76 s1 (Or.inr ⟨k, pl, e, hs⟩) f1
    · exact b76 s1 hJ f1
  rcases hJ with ⟨rfl, hJ⟩ | ⟨rfl, hJ⟩
  rotate_left
  · exact ⟨by decide, fun _ => b76 s1 hJ f1, fun y => absurd rfl y⟩
  refine ⟨by decide, fun y => absurd y (by decide), fun _ => ⟨fr - 1, by omega, ?_⟩⟩
  have b53F : ∀ (s2 : zPH) (k pl : Int), R1 = .inr (k, pl) → yRf s2 T n u k pl → yfr u σ s2 → b_R_readTest_53 G fr u (6 - (d : Int)) X K4 K21 y3 x5 s2 := fun s2 k pl eR h2 f2 =>
    ⟨0, by omega, s_R_isWord' h2 ⟨0, Or.inl rfl, rfl, by decide, fun _ => hK21 _ _ _ _ ⟨rfl, by omega, f2, Or.inr ⟨rfl, Or.inr ⟨k, pl, eR, h2⟩⟩⟩ (by omega), fun y => absurd rfl y⟩⟩
  have aftF : ∀ (s2 : zPH) (k pl : Int), R1 = .inr (k, pl) → yRf s2 T n u k pl → yfr u σ s2 → (zI x5) ∧ (x5 ≤ 0 → b_R_readTest_53 G fr u (6 - (d : Int)) X K4 K21 y3 x5 s2) ∧ (0 < x5 → s2 4 4 = ((u : Nat) : Int) ∧ ∃ f : Nat, f + 1 ≤ fr ∧ MS G zm_T_addCode f [zr G u, iZ 23] s2 (fun v σ50 => v = none ∧ b_R_readTest_53 G fr u (6 - (d : Int)) X K4 K21 y3 x5 σ50)) := fun s2 k pl eR h2 f2 =>
    ⟨by omega, fun _ => b53F s2 k pl eR h2 f2, fun _ => ⟨h2.1.2.1, 0, by omega, s_T_addCode' hu h2 (fun s3 h3 f3 => ⟨rfl, b53F s3 k pl eR h3 (f2.trans f3)⟩)⟩⟩
  rcases hJ with ⟨W, p, e, hb, hs⟩ | ⟨k, pl, e, hs⟩
  rotate_left
  · exact s_R_readFact' hT hn hu (by omega) hs (fun s2 h2 f2 => ⟨rfl, aftF s2 k pl e h2 (f1.trans f2)⟩)
  have ef : (1600 - x5).toNat = (1600 - (x5 + 1)).toNat + 1 := by omega
  rw [ef] at e
  unfold yAnds at e
  have hb' : yBo T n false W p := by
    obtain ⟨b1, b2⟩ := hb
    refine ⟨?_, b2⟩
    simp only [if_neg (show ¬ (false = true) by decide)]; split at b1 <;> omega
  refine hF (fr - 1) _ s1 W p (by omega) hs hb' (fun s2 h2 f2 => ⟨rfl, ?_⟩)
  have F2 := f1.trans f2
  rcases h2 with ⟨W1, p1, e1, -, h2⟩ | ⟨k, pl, e1, h2⟩
  rotate_left
  · rw [e1] at e
    exact aftF s2 k pl e.symm h2 F2
  have e1' : yFact T n d W p = .inl (W1, p1) := e1.symm
  obtain ⟨c1, c2, c3, c4, c5⟩ := yBo_aft hn hb e1'
  rw [e1'] at e
  have e' : (if yIs T n p1 0 23 then yAnds T n (yFact T n d) (1600 - (x5 + 1)).toNat true (if 0 < x5 then yadd W1 2 0 else W1) (ztE T n p1) else .inl (if 0 < x5 then yadd W1 2 0 else W1, p1)) = R1 := by
    rw [← e]
    show _ = ybn (.inl (W1, p1)) _
    simp only [decide_eq_true_eq]; rfl
  simp only [decide_eq_true_eq] at c1
  have b53 : ∀ (s3 W3 : zPH), yRn s3 T n u yRq W3 p1 → yfr u σ s3 → ((if yIs T n p1 0 23 then yAnds T n (yFact T n d) (1600 - (x5 + 1)).toNat true W3 (ztE T n p1) else .inl (W3, p1)) = R1) → 3 * W3 0 7 ≤ (p1 : Int) → 10 * (ysn W3 (W3 0 7).toNat : Int) ≤ p1 → b_R_readTest_53 G fr u (6 - (d : Int)) X K4 K21 y3 x5 s3 := by
    intro s3 W3 h3 f3 eR hb1 hb2
    refine ⟨0, by omega, s_R_isWord hT hn h3 (by decide) (fun q => ⟨1, Or.inr rfl, rfl, by decide, fun y => absurd y (by decide), fun _ => ⟨0, by omega, ?_⟩⟩) (fun q => ⟨0, Or.inl rfl, rfl, by decide, fun _ => ?_, fun y => absurd rfl y⟩)⟩
    · rw [if_pos q] at eR
      have w0 := ztw_n c4 q.1
      have w1 := w0.2.1 (by omega)
      have w2 := (ztE_s (T := T) c4).2.1
      have w3 := (ztS_s (T := T) c4).1.1
      have w4 := yeE c4 (Or.inl q.1)
      refine s_R_advance (hT := hT) hn (by omega) h3 (by have := q.1; omega) (fun s4 h4 f4 _ => ⟨rfl, hK21 _ _ _ _ ⟨rfl, by omega, f3.trans f4, Or.inl ⟨rfl, Or.inl ⟨W3, _, ?_, ⟨?_, by omega, by omega, w2, h3.2.2.2.2.2⟩, h4⟩⟩⟩ (by omega)⟩)
      · rw [← eR, decide_eq_true (show (0 : Int) < x5 + 1 by omega)]
      · rw [decide_eq_true (show (0 : Int) < x5 + 1 by omega), if_pos rfl]; omega
    · rw [if_neg q] at eR
      exact hK21 _ _ _ _ ⟨rfl, by omega, f3, Or.inr ⟨rfl, Or.inl ⟨W3, p1, eR, trivial, h3⟩⟩⟩ (by omega)
  refine ⟨by omega, fun y => ?_, fun y => ⟨h2.1.2.1, 0, by omega, ?_⟩⟩
  · rw [if_neg (show ¬ 0 < x5 by omega)] at e'
    exact b53 s2 W1 h2 F2 e' (by split at c1 <;> omega) c2
  · rw [if_pos y] at e'
    rw [if_pos y] at c1
    refine s_T_addCode (s := 2) (c := 0) (S' := yRq) hu h2 (by omega) (by rw [zpt_add (by decide)]; rfl) (yRq_add c5 (by decide)) (fun s3 h3 f3 => ⟨rfl, b53 s3 _ h3 (F2.trans f3) e' ?_ ?_⟩)
    · rw [(yadd_v W1 2 0).1]; omega
    · rw [yadd_sn c5, if_neg (by decide)]; omega
end RF
