section CZ
variable {G : zG} {σ V D : zPH} {X : zX} {t u : Nat}
/-- what square() answers -/
def zSqr (V D : zPH) (c r w x : Int) : Prop := (zin_ V c r ∧ x = if w = 0 then V 1 (zqo c r) else if V 1 (zqo c r) = 0 then -1 else if w = 1 then V 2 (zqo c r) else if w = 2 then zFm V (D 0 0) (D 0 1) (zqo c r) else -1) ∨ (¬ zin_ V c r ∧ x = -1)
theorem s_B_square (hB : zBD V D) (h : zCI σ V D t u) {c r w : Int} (hc : zI c) (hr : zI r) (hw : zI w) (hX : ∀ x, zSqr V D c r w x → X (some (iZ x)) σ) : MS G zm_B_square 1 [zr G 0, iZ c, iZ r, iZ w] σ X := by
  have hrr := hB.r
  have ht : t = 32 ∨ t = 45 := h.1.1
  refine k_B_square h.1.1 ⟨h.1.2.2.2.1, ?_⟩
  refine s_T_squareAt h.1.1 hB.1 h.2.1.1.2.1 hc hr (fun hi => ?_) (fun hi => ⟨_, rfl, by decide, fun q => absurd rfl q, fun _ => hX _ (Or.inr ⟨hi, rfl⟩)⟩)
  obtain ⟨hv, -⟩ := zqo_va hB.1 hi
  have hpl := (zP_lt hB.1 hv).2
  obtain ⟨hq1, hq2⟩ := h.2.1.1.2.2.2.1 _ hv
  have hb := h.2.1.1.1.2.1 (zP V (zqo c r))
  refine ⟨_, rfl, by omega, fun _ => ⟨h.1.2.2.2.1, by omega, ?_⟩, fun q => by omega⟩
  rw [Int.toNat_natCast]
  rintro x5 e5
  have h0 : x5 ≠ -1 → V 1 (zqo c r) ≠ 0 := fun z y => z (by rw [e5]; exact hq1 y)
  have h1 : x5 = -1 → V 1 (zqo c r) = 0 := fun z => by
    by_cases y : V 1 (zqo c r) = 0
    · exact y
    · exact absurd (e5 ▸ z) (hq2 y).1
  refine ⟨hw, fun q => ⟨by omega, fun q2 => ⟨hw, fun q3 => ⟨hw, fun q4 => ?_, fun q4 => ⟨h.1.2.2.2.1, ?_⟩⟩, fun q3 => ⟨h.1.2.2.2.1, by omega, ?_⟩⟩, fun q2 => ?_⟩, fun q => ⟨by omega, fun q2 => ⟨h.1.2.2.2.1, by omega, ?_⟩, fun q2 => ?_⟩⟩
  · exact hX _ (Or.inl ⟨hi, by rw [if_neg q, if_neg (h0 q2), if_neg q3, if_neg q4]⟩)
  · rw [h.2.2.2.2.1.1, h.2.2.2.2.1.2.1]
    refine s_T_lookNow h.1.1 (by omega) (h.2.1.1.1.2.2.2.1 _) (by omega) (by omega) ⟨_, rfl, hX _ (Or.inl ⟨hi, ?_⟩)⟩
    rw [if_neg q, if_neg (h0 q2), if_neg q3, if_pos q4]
    unfold zlk zFm
    obtain ⟨a0, a1, a2, a3, -⟩ := hq2 (h0 q2)
    rw [if_neg (h0 q2), e5, a1, a2, a3]
  · obtain ⟨a0, a1, a2, a3, -⟩ := hq2 (h0 q2)
    exact hX _ (Or.inl ⟨hi, by rw [if_neg q, if_neg (h0 q2), if_pos q3, e5, a2]⟩)
  · exact hX _ (Or.inl ⟨hi, by rw [if_neg q, if_pos (h1 q2)]⟩)
  · obtain ⟨a0, a1, a2, a3, -⟩ := hq2 (h0 q2)
    exact hX _ (Or.inl ⟨hi, by rw [if_pos q, e5, a1]⟩)
  · exact hX _ (Or.inl ⟨hi, by rw [if_pos q, h1 q2]⟩)
end CZ
