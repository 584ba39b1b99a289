section CY
variable {G : zG} {σ V D : zPH} {X : zX} {t u : Nat}
/-- what behind() answers -/
def zBeh (V D : zPH) (e x : Int) : Prop := ((0 ≤ e ∧ e < V 0 5) ∧ 0 ≤ x ∧ ∀ l : Nat, zbt x l ↔ (l : Int) < V 0 2 ∧ zSe V (D 0 0) (D 0 1) (2 ^ l) 7 e.toNat ≠ 0) ∨ (¬ (0 ≤ e ∧ e < V 0 5) ∧ x = -1)
theorem s_B_behind (hB : zBD V D) (h : zCI σ V D t u) {e : Int} (he : zI e) (hX : ∀ σ' x, zBeh V D e x → zCI σ' V D t u → zfB σ σ' → X (some (iZ x)) σ') : MS G zm_B_behind 5 [zr G 0, iZ e] σ X := by
  have hV3 := hB.1.2.1
  refine k_B_behind h.1.1 (s_B_isNumber hB h (g := 3) rfl (by decide) he (fun e1 e2 => Or.inr ⟨rfl, ?_⟩) (fun q => Or.inl ⟨rfl, hX σ _ (Or.inr ⟨q, rfl⟩) h zfB.rf⟩))
  have e2' : e < V 0 5 := e2
  refine zLP2_ind (fun x2 x3 σ1 => ∃ i : Nat, x3 = (i : Int) ∧ (i : Int) ≤ V 0 2 ∧ (0 ≤ x2 ∧ ∀ l : Nat, zbt x2 l ↔ l < i ∧ zSe V (D 0 0) (D 0 1) (2 ^ l) 7 e.toNat ≠ 0) ∧ zCI σ1 V D t u ∧ zfB σ σ1) (fun _ x3 _ => (8 - x3).toNat) ?_ ⟨0, rfl, by omega, ⟨by decide, fun l => ⟨fun z => absurd z zbt_0, fun z => by omega⟩⟩, h, zfB.rf⟩
  rintro K x2 x3 σ1 ⟨i, rfl, hi, hx, c1, f1⟩ hK
  have e8 : σ1 (t + 8) 0 = V 0 2 := c1.2.1.1.2.1.2.2.1
  refine ⟨c1.1.2.2.2.1, by omega, fun hge => hX σ1 _ (Or.inl ⟨⟨e1, e2'⟩, hx.1, fun l => ?_⟩) c1 f1, fun hlt => ⟨by omega, ?_⟩⟩
  · rw [hx.2]
    exact ⟨fun z => ⟨by omega, z.2⟩, fun z => ⟨by omega, z.2⟩⟩
  · rw [Int.one_mul, Int.toNat_natCast]
    have hp8 := zpow_le (show i ≤ 8 by omega)
    rw [show (2 : Int) ^ 8 = 256 from rfl] at hp8
    refine s_B_lightOf hB c1 ⟨zpow_nn _, by omega⟩ (by decide) (fun σ2 c2 f2 li => ⟨rfl, by omega, ?_⟩)
    have hse := li.2.2.1 e.toNat (by omega)
    have h8 := zSe_8 (V := V) (tu := D 0 0) (st := D 0 1) (la := 2 ^ i) (co := 7) (e := e.toNat)
    rw [show (21 : Nat) = 19 + 2 from rfl, hse]
    refine ⟨by omega, fun z => hK _ _ _ ⟨i + 1, by omega, by omega, ⟨hx.1, fun l => ?_⟩, c2, f1.trans f2⟩ (by omega), fun z => ⟨by omega, ⟨hx.1, zpow_nn _⟩, ?_⟩⟩
    · rw [hx.2]
      constructor
      · rintro ⟨z1, z2⟩; exact ⟨by omega, z2⟩
      · rintro ⟨z1, z2⟩
        rcases (show l < i ∨ l = i by omega) with v | rfl
        · exact ⟨v, z2⟩
        · exact absurd z z2
    · rintro y rfl
      refine hK _ _ _ ⟨i + 1, by omega, by omega, ⟨zor_nn _ _, fun l => ?_⟩, c2, f1.trans f2⟩ (by omega)
      rw [zbt_or, hx.2, zbt_pow]
      constructor
      · rintro (⟨z1, z2⟩ | rfl)
        · exact ⟨by omega, z2⟩
        · exact ⟨by omega, z⟩
      · rintro ⟨z1, z2⟩
        rcases (show l < i ∨ l = i by omega) with v | rfl
        · exact Or.inl ⟨v, z2⟩
        · exact Or.inr rfl
end CY
