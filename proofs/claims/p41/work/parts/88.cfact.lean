section RG
variable {G : zG} {T : Nat → Int} {n u : Nat}
theorem s_R_readFactO (hT : ∀ k, 0 ≤ T k ∧ T k < 256) (hn : n ≤ 1600) (hu : zisT u) : ∀ d : Nat, d ≤ 6 → yCF G T n u d := by
  have hh := hu.h
  -- a fact that opens nothing
  have simple : ∀ (d fr : Nat) (X : zX) (σ W : zPH) (p : Nat), 3 ≤ fr → yRn σ T n u yRq W p → yBo T n false W p → ¬ yIs T n p 0 24 → ¬ yIs T n p 3 91 → (∀ σ', yOc σ' T n u yRq (fun _ _ => True) yid (yFact T n d W p) → yfr u σ σ' → X none σ') → ∃ f : Nat, f + 1 ≤ fr ∧ MS G zm_R_isWord f [zr G 4, iZ 26] σ (fun v σ90 =>
            (v = some (iZ 0) ∧
              ∃ f : Nat, f + 1 ≤ fr ∧
              MS G zm_R_expect f [zr G 4, iZ 25] σ90 (fun v σ106 =>
                v = none ∧
                σ106 4 4 = ((u : Nat) : Int) ∧
                ∃ f : Nat, f + 1 ≤ fr ∧
                MS G zm_T_addCode f [zr G u, iZ 25] σ106 (fun v σ115 =>
                  v = none ∧
                  X none σ115))) ∨
            (v = some (iZ 1) ∧
              ∃ f : Nat, f + 1 ≤ fr ∧
              MS G zm_R_readSees f [zr G 4] σ90 (fun v σ97 =>
                v = none ∧
                X none σ97))) := by
    intro d fr X σ W p hfr h hb q1 q2 hX
    obtain ⟨b1, b2, b3, b4, b5⟩ := hb
    simp only [if_neg (show ¬ (false = true) by decide)] at b1
    rw [tSimple q1 q2] at hX
    refine ⟨0, by omega, s_R_isWord hT hn h (by decide) (fun q => Or.inr ⟨rfl, 2, by omega, ?_⟩) (fun q => Or.inl ⟨rfl, 2, by omega, ?_⟩)⟩
    · rw [if_pos q] at hX
      exact s_R_readSees hT hn hu h q (by omega) b2 (fun σ1 h1 f1 => ⟨rfl, hX σ1 h1 f1⟩)
    · rw [if_neg q] at hX
      refine s_R_expectO (S := yRq) (P := fun W' p' => W' = W ∧ p' = p) (R := ybn (yEx T n 0 25 W p) (fun W p => .inl (yadd W 0 0, p))) hT hn (by omega) (by decide) (fun W' _ => W' 0 7 < 533 ∧ 0 ≤ W' 0 7) (fun W p => .inl (yadd W 0 0, p)) (Or.inl ⟨W, p, rfl, ⟨rfl, rfl⟩, h⟩) (fun W' p' hP hi => ?_) (fun σ1 h1 f1 => ⟨rfl, ?_⟩)
      · obtain ⟨rfl, rfl⟩ := hP
        have w0 := (ztw_n b4 hi.1).2.1 (by omega)
        have w1 := yeS b4 (Or.inl hi.1)
        have w2 := (ztE_s (T := T) b4).2.1
        omega
      · rcases h1 with ⟨W1, p1, e1, hQ, h1⟩ | ⟨k, pl, e1, h1⟩
        · exact ⟨h1.1.2.1, 0, by omega, s_T_addCode (s := 0) (c := 0) (S' := yRq) hu h1 hQ.1 (by rw [zpt_add (by decide)]; rfl) (yRq_add hQ.2 (by decide)) (fun σ2 h2 f2 => ⟨rfl, hX σ2 (Or.inl ⟨_, _, e1, trivial, h2⟩) (f1.trans f2)⟩)⟩
        · exact ⟨h1.1.2.1, 0, by omega, s_T_addCode' hu h1 (fun σ2 h2 f2 => ⟨rfl, hX σ2 (Or.inr ⟨k, pl, e1, h2⟩) (f1.trans f2)⟩)⟩
  intro d
  induction d with
  | zero =>
    intro _ fr X σ W p hfr h hb hX
    have seven : yIs T n p 0 24 ∨ yIs T n p 3 91 → ∀ z3 : Int, zI z3 → b_R_readFact_20 G fr u (6 - ((0 : Nat) : Int)) X z3 σ := fun q z3 hz => by
      obtain ⟨a, c, ha, hlt, hk, ht, h16, e, hp, i1, i2⟩ := h.1.tk hT hn
      have hzz := h.2.2.1
      rw [ht] at hzz
      rw [hzz] at e
      refine ⟨by decide, fun y => absurd y (by decide), fun _ => ⟨by omega, 0, by omega, ?_⟩⟩
      rw [ht, e.2.2.1]
      refine s_R_refuse (by omega) h.1 h.2.1.1 (by decide) (fun σ1 h1 f1 _ => ⟨rfl, hX σ1 (Or.inr ⟨4, _, ?_, h1⟩) f1⟩)
      unfold yFact; rw [if_pos q]
    refine k_R_readFact hu ⟨0, by omega, s_R_isWord hT hn h (by decide) (fun q => ⟨1, Or.inr rfl, rfl, by decide, fun _ => seven (Or.inl q) 1 (by decide), fun y => absurd y (by decide)⟩) (fun q1 => ⟨0, Or.inl rfl, rfl, by decide, fun y => absurd rfl y, fun _ => ⟨0, by omega, s_R_isSign hT hn h (by decide) (fun q => Or.inr ⟨rfl, seven (Or.inr q) 0 (by decide)⟩) (fun q2 => Or.inl ⟨rfl, simple 0 fr X σ W p (by omega) h hb q1 q2 hX⟩)⟩⟩)⟩
  | succ d ih =>
    intro hd fr X σ W p hfr h hb hX
    have ih := ih (by omega)
    have hb' := hb
    obtain ⟨b1, b2, b3, b4, b5⟩ := hb
    simp only [if_neg (show ¬ (false = true) by decide)] at b1
    have hop : (6 - ((d + 1 : Nat) : Int)) + 1 = 6 - (d : Int) := by omega
    refine k_R_readFact hu ⟨0, by omega, s_R_isWord hT hn h (by decide) (fun q => ⟨1, Or.inr rfl, rfl, by decide, fun _ => ?_, fun y => absurd y (by decide)⟩) (fun q1 => ⟨0, Or.inl rfl, rfl, by decide, fun y => absurd rfl y, fun _ => ⟨0, by omega, s_R_isSign hT hn h (by decide) (fun q => Or.inr ⟨rfl, ?_⟩) (fun q2 => Or.inl ⟨rfl, simple (d + 1) fr X σ W p (by omega) h hb' q1 q2 hX⟩)⟩⟩)⟩
    · have w0 := (ztw_n b4 q.1).2.1 (by omega)
      have w1 := yeS b4 (Or.inl q.1)
      have w2 := (ztE_s (T := T) b4).2.1
      have w3 := yeE b4 (Or.inl q.1)
      have e : yFact T n (d + 1) W p = ybn (yFact T n d W (ztE T n p)) (fun W p => .inl (yadd W 4 0, p)) := by
        conv => lhs; unfold yFact
        rw [if_pos q]
      rw [e] at hX
      refine ⟨by omega, fun _ => ⟨0, by omega, s_R_advance (hT := hT) hn (by omega) h (by have := q.1; omega) (fun σ1 h1 f1 _ => ⟨rfl, by decide, fun y => absurd y (by decide), fun _ => ⟨fr - 1, by omega, ?_⟩⟩)⟩, fun y => by omega⟩
      rw [hop]
      have hb1 : yBo T n false W (ztE T n p) := ⟨by simp only [if_neg (show ¬ (false = true) by decide)]; omega, by omega, by omega, w2, b5⟩
      refine ih (fr - 1) _ σ1 W (ztE T n p) (by omega) h1 hb1 (fun σ2 h2 f2 => ⟨rfl, ?_⟩)
      rcases h2 with ⟨W2, p2, e2, -, h2⟩ | ⟨k, pl, e2, h2⟩
      · have e2' : yFact T n d W (ztE T n p) = .inl (W2, p2) := e2.symm
        obtain ⟨c1, c2, c3, c4, c5⟩ := yBo_aft hn hb1 e2'
        have hz := (yFact_b T hn d W (ztE T n p) W2 p2 b5 w2 e2').2
        have hz1 := hz.2.2.2.1
        rw [e2'] at hX
        exact ⟨h2.1.2.1, 0, by omega, s_T_addCode (s := 4) (c := 0) (S' := yRq) hu h2 (by omega) (by rw [zpt_add (by decide)]; rfl) (yRq_add c5 (by decide)) (fun σ3 h3 f3 => ⟨rfl, hX σ3 (Or.inl ⟨_, _, rfl, trivial, h3⟩) (f1.trans (f2.trans f3))⟩)⟩
      · rw [e2] at hX
        exact ⟨h2.1.2.1, 0, by omega, s_T_addCode' hu h2 (fun σ3 h3 f3 => ⟨rfl, hX σ3 (Or.inr ⟨k, pl, rfl, h3⟩) (f1.trans (f2.trans f3))⟩)⟩
    · have w0 := ztE_p b4 (show ztK T n p ≠ 4 by have := q.1; omega)
      have w2 := (ztE_s (T := T) b4).2.1
      have we := ywe_r T p
      have we1 := ywe_r T (ztE T n p)
      have e : yFact T n (d + 1) W p = ybn (yTest T n (yFact T n d) W (ztE T n p)) (yEx T n 3 93) := by
        conv => lhs; unfold yFact
        rw [if_neg q1, if_pos q]
      rw [e] at hX
      refine ⟨by omega, fun _ => ⟨0, by omega, s_R_advance (hT := hT) hn (by omega) h (by have := q.1; omega) (fun σ1 h1 f1 _ => ⟨rfl, by decide, fun _ => ⟨fr - 1, by omega, ?_⟩, fun y => absurd rfl y⟩)⟩, fun y => by omega⟩
      rw [hop]
      have hb1 : yBo T n false W (ztE T n p) := ⟨by simp only [if_neg (show ¬ (false = true) by decide)]; omega, by omega, by omega, w2, b5⟩
      refine s_R_readTestO hT hn hu ih (by omega) (R := yTest T n (yFact T n d) W (ztE T n p)) (Or.inl ⟨W, _, rfl, hb1, h1⟩) (fun σ2 h2 f2 => ⟨rfl, 2, by omega, ?_⟩)
      refine s_R_expectSignO (S := yRq) (P := fun _ _ => True) (R := ybn (yTest T n (yFact T n d) W (ztE T n p)) (yEx T n 3 93)) hT hn (by omega) (by decide) (fun _ _ => True) yid ?_ (fun _ _ _ _ => trivial) (fun σ3 h3 f3 => ⟨rfl, hX σ3 h3 (f1.trans (f2.trans f3))⟩)
      rcases h2 with ⟨W2, p2, e2, -, h2⟩ | ⟨k, pl, e2, h2⟩
      · refine Or.inl ⟨W2, p2, ?_, trivial, h2⟩
        have e2' : yTest T n (yFact T n d) W (ztE T n p) = .inl (W2, p2) := e2.symm
        rw [e2']
        show ybn (yEx T n 3 93 W2 p2) yid = yEx T n 3 93 W2 p2
        cases yEx T n 3 93 W2 p2 with
        | inl x => rfl
        | inr x => rfl
      · exact Or.inr ⟨k, pl, by rw [e2]; rfl, h2⟩
end RG
