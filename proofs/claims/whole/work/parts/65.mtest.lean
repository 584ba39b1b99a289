section MT
variable {G : zG} {X : zX} {mover : Int} {T : Nat → Int} {n i : Nat}
theorem tF_ft {σ : zPH} {k pl x : Int} {c : Nat} (h : zFt σ k pl) (hE : b_M_test_81 G mover X σ) : zlp1 (b_M_test_48 G mover X) (c + 1) x σ := by
  have e := h.1.1
  have e2 := h.1.2.2
  exact ⟨by omega, fun _ => hE, fun z => by omega⟩
theorem tF_step {σ W : zPH} {p c : Nat} {l : List (Int × Bool × Bool)} (h : ztT σ W T n p i l 0) (hf : MS G zm_M_fact 4 [zr G 58] σ (fun v σ' => v = none ∧ zlp1 (b_M_test_48 G mover X) c 1 σ')) : zlp1 (b_M_test_48 G mover X) (c + 1) 1 σ := by
  have e := h.1.2.1
  have e2 := h.2.2.2.2.2.1
  exact ⟨by omega, fun z => absurd e z, fun _ => ⟨by decide, fun z => absurd z (by decide), fun _ => ⟨by omega, fun _ => hf, fun z => absurd e2 z⟩⟩⟩
theorem tG_step {σ W : zPH} {p c : Nat} {l : List (Int × Bool × Bool)} (h : ztT σ W T n p i l 1) (hf : MS G zm_M_goesOn 3 [zr G 58] σ (fun v σ' => ∃ z : Int, (z = 0 ∨ z = 1) ∧ v = some (iZ z) ∧ zlp1 (b_M_test_48 G mover X) c z σ')) : zlp1 (b_M_test_48 G mover X) (c + 1) 1 σ := by
  have e := h.1.2.1
  have e2 := h.2.2.2.2.2.1
  exact ⟨by omega, fun z => absurd e z, fun _ => ⟨by decide, fun z => absurd z (by decide), fun _ => ⟨by omega, fun z => by omega, fun _ => hf⟩⟩⟩
/-- the loop of a test goes through a fact -/
def yFP (G : zG) (X : zX) (mover : Int) (T : Nat → Int) (n i d : Nat) : Prop := ∀ (W : zPH) (p : Nat), ∃ c : Nat, ∀ (m : Nat) (σ : zPH) (l : List (Int × Bool × Bool)), l.length + d = 7 → ztT σ W T n p i l 0 → (∀ σ' W' p', yFact T n d W p = .inl (W', p') → ztK T n p' ≠ 5 → ztT σ' W' T n p' i l 1 → zfk i σ σ' → zlp1 (b_M_test_48 G mover X) (m + 1) 1 σ') → (∀ σ' k pl, yFl T n (yFact T n d W p) k pl → zFt σ' k pl → zfk i σ σ' → b_M_test_81 G mover X σ') → zlp1 (b_M_test_48 G mover X) (m + 1 + c) 1 σ
theorem tAnds {d : Nat} (hF : yFP G X mover T n i d) : ∀ (f : Nat) (k : Bool) (W : zPH) (p : Nat), ∃ c : Nat, ∀ (m : Nat) (σ : zPH) (l : List (Int × Bool × Bool)) (kd : Int) (o : Bool), l.length + 1 + d = 7 → kd ≠ 2 → zI kd → n < p + f → ztT σ W T n p i ((kd, k, o) :: l) 0 → (∀ σ' W1 k1 p', yAnds T n (yFact T n d) f k W p = .inl (yjo W1 k1 false, p') → ztK T n p' ≠ 5 → ¬ yIs T n p' 0 23 → ztT σ' W1 T n p' i ((kd, k1, o) :: l) 1 → zfk i σ σ' → zlp1 (b_M_test_48 G mover X) (m + 1) 1 σ') → (∀ σ' k' pl, yFl T n (yAnds T n (yFact T n d) f k W p) k' pl → zFt σ' k' pl → zfk i σ σ' → b_M_test_81 G mover X σ') → zlp1 (b_M_test_48 G mover X) (m + 1 + c) 1 σ := by
  intro f
  induction f with
  | zero => exact fun k W p => ⟨0, fun m σ l kd o _ _ _ hfu h => by have := h.b; omega⟩
  | succ f ih =>
    intro k W p
    obtain ⟨c1, H1⟩ := hF W p
    cases hr : yFact T n d W p with
    | inr e =>
      have he : yAnds T n (yFact T n d) (f + 1) k W p = .inr e := by unfold yAnds; rw [hr]; rfl
      exact ⟨c1, fun m σ l kd o hl _ _ _ h _ h0 => H1 m σ _ (by simp; omega) h (fun σ' W' p' e' => by rw [hr] at e'; exact nomatch e') (fun σ' k' pl a b f => h0 σ' k' pl (by rw [he]; rw [hr] at a; exact a) b f)⟩
    | inl x =>
      obtain ⟨W1, p1⟩ := x
      have he : yAnds T n (yFact T n d) (f + 1) k W p = if yIs T n p1 0 23 then yAnds T n (yFact T n d) f true (if k then yadd W1 2 0 else W1) (ztE T n p1) else .inl (if k then yadd W1 2 0 else W1, p1) := by
        conv => lhs; unfold yAnds
        rw [hr]; rfl
      by_cases q : yIs T n p1 0 23
      · rw [if_pos q] at he
        obtain ⟨c2, H2⟩ := ih true (if k then yadd W1 2 0 else W1) (ztE T n p1)
        refine ⟨c1 + 1 + c2, fun m σ l kd o hl hk hI hfu h h1 h0 => ?_⟩
        rw [show m + 1 + (c1 + 1 + c2) = (m + 1 + c2) + 1 + c1 by omega]
        refine H1 (m + 1 + c2) σ _ (by simp; omega) h (fun σ' W' p' e' g hT f' => ?_) (fun σ' k' pl a b f' => h0 σ' k' pl ?_ b f')
        · rw [hr] at e'
          simp only [Sum.inl.injEq, Prod.mk.injEq] at e'
          obtain ⟨e1, e2⟩ := e'
          subst e1 e2
          have hB := hT.b
          have hp1 := (ztw_n hB.2.2.2.1 q.1).1
          have hp2 := (ztS_s (T := T) hB.2.2.2.1).1.1
          have hp3 := (ztE_s (T := T) hB.2.2.2.1).2.1
          have hbb := h.b
          have hb1 := (yFact_b T hbb.2.2.2.2.1 d W p W1 p1 hbb.1 hbb.2.2.2.1 hr).1.1
          have hfp : 0 < f := by omega
          refine tG_step hT (s_M_goesOn hT hI (fun z => absurd z hk) (fun _ _ σ2 hN f2 => ⟨1, Or.inr rfl, rfl, ?_⟩) (fun _ y => absurd q y) (fun _ y => absurd q y) (fun _ _ y => absurd q y) (fun _ _ y => absurd q y))
          have hjo : yjo W1 k false = if k then yadd W1 2 0 else W1 := rfl
          rw [hjo] at hN
          rcases hN with ⟨g5, hN⟩ | ⟨g5, hN⟩
          · exact H2 m σ2 l kd o hl hk hI (by omega) hN (fun σ3 W3 k3 p3 e3 g3 n3 T3 f3 => h1 σ3 W3 k3 p3 (by rw [he]; exact e3) g3 n3 T3 (f'.trans (f2.trans f3))) (fun σ3 k3 pl3 a3 b3 f3 => h0 σ3 k3 pl3 (by rw [he]; exact a3) b3 (f'.trans (f2.trans f3)))
          · rw [show m + 1 + c2 = m + c2 + 1 by omega]
            exact tF_ft hN (h0 σ2 1 _ (by rw [he, yAnds_5 g5 d _ _ hfp]; exact yNo_Fl) hN (f'.trans f2))
        · rw [hr] at a
          exfalso
          have := a.1
          have := q.1
          omega
      · rw [if_neg q] at he
        refine ⟨c1, fun m σ l kd o hl hk hI hfu h h1 h0 => H1 m σ _ (by simp; omega) h (fun σ' W' p' e' g hT f' => ?_) (fun σ' k' pl a b f' => h0 σ' k' pl ?_ b f')⟩
        · rw [hr] at e'
          simp only [Sum.inl.injEq, Prod.mk.injEq] at e'
          obtain ⟨e1, e2⟩ := e'
          subst e1 e2
          exact h1 σ' W1 k p1 he g q hT f'
        · rw [hr] at a; rw [he]; exact a
theorem tOrs {d : Nat} (hn : n ≤ 1600) (hF : yFP G X mover T n i d) : ∀ (f : Nat) (o : Bool) (W : zPH) (p : Nat), ∃ c : Nat, ∀ (m : Nat) (σ : zPH) (l : List (Int × Bool × Bool)) (kd : Int), l.length + 1 + d = 7 → kd ≠ 2 → zI kd → n < p + f → ztT σ W T n p i ((kd, false, o) :: l) 0 → (∀ σ' W1 k1 o1 p', yOrs T n (yAnds T n (yFact T n d) 1600 false) f o W p = .inl (yjo W1 k1 o1, p') → ztK T n p' ≠ 5 → ¬ yIs T n p' 0 23 → ¬ yIs T n p' 0 22 → ztT σ' W1 T n p' i ((kd, k1, o1) :: l) 1 → zfk i σ σ' → zlp1 (b_M_test_48 G mover X) (m + 1) 1 σ') → (∀ σ' k' pl, yFl T n (yOrs T n (yAnds T n (yFact T n d) 1600 false) f o W p) k' pl → zFt σ' k' pl → zfk i σ σ' → b_M_test_81 G mover X σ') → zlp1 (b_M_test_48 G mover X) (m + 1 + c) 1 σ := by
  intro f
  induction f with
  | zero => exact fun k W p => ⟨0, fun m σ l kd _ _ _ hfu h => by have := h.b; omega⟩
  | succ f ih =>
    intro o W p
    obtain ⟨c1, H1⟩ := tAnds hF 1600 false W p
    cases hr : yAnds T n (yFact T n d) 1600 false W p with
    | inr e =>
      have he : yOrs T n (yAnds T n (yFact T n d) 1600 false) (f + 1) o W p = .inr e := by unfold yOrs; rw [hr]; rfl
      exact ⟨c1, fun m σ l kd hl hk hI hfu h _ h0 => H1 m σ l kd o hl hk hI (by have := h.b; have := h.2.2.2.2.2.2.2; omega) h (fun σ' W' k' p' e' => by rw [hr] at e'; exact nomatch e') (fun σ' k' pl a b f => h0 σ' k' pl (by rw [he]; rw [hr] at a; exact a) b f)⟩
    | inl x =>
      obtain ⟨W1, p1⟩ := x
      have he : yOrs T n (yAnds T n (yFact T n d) 1600 false) (f + 1) o W p = if yIs T n p1 0 22 then yOrs T n (yAnds T n (yFact T n d) 1600 false) f true (if o then yadd W1 3 0 else W1) (ztE T n p1) else .inl (if o then yadd W1 3 0 else W1, p1) := by
        conv => lhs; unfold yOrs
        rw [hr]; rfl
      have hj : ∀ W2 k2, W1 = yjo W2 k2 false → (if o then yadd W1 3 0 else W1) = yjo W2 k2 o := fun W2 k2 e => by
        rw [e]; cases o <;> rfl
      by_cases q : yIs T n p1 0 22
      · rw [if_pos q] at he
        obtain ⟨c2, H2⟩ := ih true (if o then yadd W1 3 0 else W1) (ztE T n p1)
        refine ⟨c1 + 1 + c2, fun m σ l kd hl hk hI hfu h h1 h0 => ?_⟩
        rw [show m + 1 + (c1 + 1 + c2) = (m + 1 + c2) + 1 + c1 by omega]
        refine H1 (m + 1 + c2) σ l kd o hl hk hI (by have := h.b; have := h.2.2.2.2.2.2.2; omega) h (fun σ' W' k' p' e' g n23 hT f' => ?_) (fun σ' k' pl a b f' => h0 σ' k' pl ?_ b f')
        · rw [hr] at e'
          simp only [Sum.inl.injEq, Prod.mk.injEq] at e'
          obtain ⟨e1, e2⟩ := e'
          subst e2
          have hB := hT.b
          have hp1 := (ztw_n hB.2.2.2.1 q.1).1
          have hp2 := (ztS_s (T := T) hB.2.2.2.1).1.1
          have hp3 := (ztE_s (T := T) hB.2.2.2.1).2.1
          have hbb := h.b
          have hp0 := h.2.2.2.2.2.2.2
          have hb1 := (yAnds_b T n (yFact_b T hbb.2.2.2.2.1 d) 1600 false W p W1 p1 (by decide) hbb.1 hbb.2.2.2.1 (by omega) hr).1.1
          refine tG_step hT (s_M_goesOn hT hI (fun z => absurd z hk) (fun _ y => absurd y n23) (fun _ _ _ σ2 hN f2 => ⟨1, Or.inr rfl, rfl, ?_⟩) (fun _ _ y => absurd q y) (fun _ _ _ y => absurd q y) (fun _ _ _ y => absurd q y))
          rw [← hj W' k' e1] at hN
          by_cases hfp : 0 < f
          · rcases hN with ⟨g5, hN⟩ | ⟨g5, hN⟩
            · exact H2 m σ2 l kd hl hk hI (by omega) hN (fun σ3 W3 k3 o3 p3 e3 g3 n3 m3 T3 f3 => h1 σ3 W3 k3 o3 p3 (by rw [he]; exact e3) g3 n3 m3 T3 (f'.trans (f2.trans f3))) (fun σ3 k3 pl3 a3 b3 f3 => h0 σ3 k3 pl3 (by rw [he]; exact a3) b3 (f'.trans (f2.trans f3)))
            · rw [show m + 1 + c2 = m + c2 + 1 by omega]
              exact tF_ft hN (h0 σ2 1 _ (by rw [he, yOrs_5 g5 d _ _ hfp]; exact yNo_Fl) hN (f'.trans f2))
          · omega
        · rw [hr] at a
          exfalso
          have := a.1
          have := q.1
          omega
      · rw [if_neg q] at he
        refine ⟨c1, fun m σ l kd hl hk hI hfu h h1 h0 => H1 m σ l kd o hl hk hI (by have := h.b; have := h.2.2.2.2.2.2.2; omega) h (fun σ' W' k' p' e' g n23 hT f' => ?_) (fun σ' k' pl a b f' => h0 σ' k' pl ?_ b f')⟩
        · rw [hr] at e'
          simp only [Sum.inl.injEq, Prod.mk.injEq] at e'
          obtain ⟨e1, e2⟩ := e'
          subst e2
          exact h1 σ' W' k' o p1 (by rw [he, hj W' k' e1]) g n23 q hT f'
        · rw [hr] at a; rw [he]; exact a
end MT
