theorem zCI_tab {σ σ' V D V' : zPH} {t u : Nat} (h : zCI σ V D t u) (e0 : V' 0 = V 0) (e20 : V' 20 = V 20) (r : ∀ q, q ≠ 2 → (q < 14 ∨ 28 < q) → q < 58 → (q < t ∨ t + 12 < q) → σ' q = σ q) (hT : zTV σ' t V') (h59 : zT59 σ' t) (hN : σ' (t + 10) = σ (t + 10)) (g1 : zLG σ' 19) (g2 : zLG σ' 24) : zCI σ' V' D t u := by
  obtain ⟨⟨a1, a2, a3, a4, a5⟩, ⟨b1, b2, b3⟩, c, -, d⟩ := h
  have ht : t = 32 ∨ t = 45 := a1
  have hu : u = 32 ∨ u = 45 := a2
  refine ⟨⟨a1, a2, a3, by rw [r 0 (by decide) (by decide) (by decide) (by omega)]; exact a4, by rw [r 4 (by decide) (by decide) (by decide) (by omega)]; exact a5⟩, ⟨hT, h59, ?_⟩, c.to (fun q h1 h2 => r q (by omega) (by omega) (by omega) (by omega)), ⟨g1, g2⟩, ?_⟩
  · unfold zNc at *; rw [hN, e0, e20]; exact b3
  · unfold zDc at *
    rw [r 0 (by decide) (by decide) (by decide) (by omega), r 29 (by decide) (by decide) (by decide) (by omega), r 4 (by decide) (by decide) (by decide) (by omega), r 30 (by decide) (by decide) (by decide) (by omega), r 31 (by decide) (by decide) (by decide) (by omega), r 1 (by decide) (by decide) (by decide) (by omega), r 3 (by decide) (by decide) (by decide) (by omega), e0]
    exact d
theorem zBD_to {V D V' : zPH} (h : zBD V D) (e0 : V' 0 = V 0) (hV : zVd V') (ht : zVt V') : zBD V' D := by
  refine ⟨hV, ht, ?_⟩
  have := h.2.2
  unfold zDr at *
  rw [e0]; exact this
theorem zWs_to {V D V' : zPH} (e0 : V' 0 = V 0) (r : Int) : zWs V' D r ↔ zWs V D r := by unfold zWs; rw [e0]
theorem zPu_back {σ σ1 σ2 σ3 : zPH} {t p : Nat} (p1 : zPu σ σ1 t (-1) p) (e2 : σ2 (t + 2) = σ1 (t + 2)) (e3 : σ2 (t + 3) = σ1 (t + 3)) (p3 : zPu σ2 σ3 t (σ (t + 2) p) p) (hso : σ (t + 3) (σ (t + 2) p).toNat = (p : Int)) (hne : 0 ≤ σ (t + 2) p) : σ3 (t + 2) = σ (t + 2) ∧ σ3 (t + 3) = σ (t + 3) := by
  obtain ⟨-, a1, b1⟩ := p1
  obtain ⟨-, a3, b3⟩ := p3
  constructor
  · funext k
    rw [a3, e2, a1]
    by_cases q : k = p
    · rw [if_pos q, q]
    · rw [if_neg q, if_neg q]
  · funext i
    rw [b3, e2, e3, a1, if_pos rfl, b1]
    by_cases q : σ (t + 2) p = (i : Int)
    · rw [if_pos q]
      rw [q, Int.toNat_natCast] at hso; exact hso.symm
    · rw [if_neg q, if_neg (by omega), if_neg (by omega), if_neg (by omega)]
/-- a piece is being tried out: the table's rows -/
def zTyt (σ σ' : zPH) (t : Nat) (so lo : Int) (p : Nat) : Prop := (∀ q, t ≤ q → q ≤ t + 12 → q ≠ t + 2 → q ≠ t + 3 → q ≠ t + 4 → q ≠ t + 5 → q ≠ t + 6 → σ' q = σ q) ∧ (∀ i, σ' (t + 4) i = if i = 59 then so else σ (t + 4) i) ∧ (∀ i, σ' (t + 5) i = if i = 59 then -1 else σ (t + 5) i) ∧ (∀ i, σ' (t + 6) i = if i = 59 then lo else σ (t + 6) i) ∧ (∀ k, σ' (t + 2) k = if k = p then 59 else σ (t + 2) k) ∧ ∀ i : Nat, σ' (t + 3) i = if i = 59 then (p : Int) else σ (t + 3) i
theorem zTyt_of {σ σ' : zPH} {t p : Nat} {so lo : Int} (h : zTy σ σ' t so lo p) (h0 : σ (t + 2) p = -1) : zTyt σ σ' t so lo p := by
  obtain ⟨r, a, b, c, d, e⟩ := h
  refine ⟨fun q _ _ q1 q2 q3 q4 q5 => r q q1 q2 q3 q4 q5, a, b, c, d, fun i => ?_⟩
  rw [e, h0]
  split
  · rfl
  · rw [if_neg (by omega)]
theorem zTyt_again {σ σ1 σ2 : zPH} {t p : Nat} {so lo so' lo' : Int} (h1 : zTyt σ σ1 t so lo p) (h : zTy σ1 σ2 t so' lo' p) : zTyt σ σ2 t so' lo' p := by
  obtain ⟨r, a, b, c, d, e⟩ := h
  obtain ⟨r1, a1, b1, c1, d1, e1⟩ := h1
  refine ⟨fun q h1 h2 q1 q2 q3 q4 q5 => by rw [r q q1 q2 q3 q4 q5, r1 q h1 h2 q1 q2 q3 q4 q5], fun i => ?_, fun i => ?_, fun i => ?_, fun k => ?_, fun i => ?_⟩
  · rw [a, a1]; split <;> rfl
  · rw [b, b1]; split <;> rfl
  · rw [c, c1]; split <;> rfl
  · rw [d, d1]; split <;> rfl
  · rw [e, d1, if_pos rfl, e1]
    by_cases q : i = 59
    · rw [if_pos q, if_pos q]
    · rw [if_neg q, if_neg (by omega), if_neg q]
theorem zTyt_to {σ σ1 σ2 : zPH} {t p : Nat} {so lo : Int} (h : zTyt σ σ1 t so lo p) (r : ∀ q, t ≤ q → q ≤ t + 12 → σ2 q = σ1 q) : zTyt σ σ2 t so lo p := by
  unfold zTyt at *
  rw [r (t + 2) (by omega) (by omega), r (t + 3) (by omega) (by omega), r (t + 4) (by omega) (by omega), r (t + 5) (by omega) (by omega), r (t + 6) (by omega) (by omega)]
  obtain ⟨a, b⟩ := h
  exact ⟨fun q h1 h2 q1 q2 q3 q4 q5 => by rw [r q h1 h2, a q h1 h2 q1 q2 q3 q4 q5], b⟩
theorem zTV_add' {σ σ' : zPH} {t : Nat} {V : zPH} {q0 : Nat} {s f : Int} (hV : zVd V) (h : zTV σ t V) (h59 : zT59 σ t) (hq0 : zva V q0) (h0 : V 1 q0 = 0) (hs : (s = 2 ∧ (f = 0 ∨ f = 1)) ∨ (s = 6 ∧ f = -1)) (hp : zTyt σ σ' t s f (zP V q0)) : zTV σ' t (zVadd V q0 s f) := by
  obtain ⟨r, a, b, c, d, e⟩ := hp
  have hno : σ (t + 2) (zP V q0) = -1 := (h.2.2.2.1 q0 hq0).1 h0
  have hr : ∀ q, t ≤ q → q ≤ t + 12 → σ' q = (fun q => if t ≤ q ∧ q ≤ t + 12 then σ' q else σ q) q := fun q h1 h2 => by
    show σ' q = if t ≤ q ∧ q ≤ t + 12 then σ' q else σ q
    rw [if_pos ⟨h1, h2⟩]
  refine (zTV_add (σ' := fun q => if t ≤ q ∧ q ≤ t + 12 then σ' q else σ q) hV h h59 hq0 h0 hs ⟨fun q q1 q2 q3 q4 q5 => ?_, ?_, ?_, ?_, ?_, ?_⟩).to hr
  · show (if t ≤ q ∧ q ≤ t + 12 then σ' q else σ q) = σ q
    split
    · rename_i h; exact r q h.1 h.2 q1 q2 q3 q4 q5
    · rfl
  · rw [← hr (t + 4) (by omega) (by omega)]; exact a
  · rw [← hr (t + 5) (by omega) (by omega)]; exact b
  · rw [← hr (t + 6) (by omega) (by omega)]; exact c
  · rw [← hr (t + 2) (by omega) (by omega)]; exact d
  · rw [← hr (t + 3) (by omega) (by omega)]
    intro i
    rw [e, hno]
    split
    · rfl
    · rw [if_neg (by omega)]
/-- taken away again: the class's object is what it was -/
theorem zTyt_end {σ σ1 σ2 V D : zPH} {t u q0 : Nat} {s f : Int} (hB : zBD V D) (h : zCI σ V D t u) (hq0 : zva V q0) (h0 : V 1 q0 = 0) (hs : (s = 2 ∧ (f = 0 ∨ f = 1)) ∨ (s = 6 ∧ f = -1)) (hp : zTyt σ σ1 t s f (zP V q0)) (r1 : ∀ q, q ≠ 2 → (q < 14 ∨ 28 < q) → q < 58 → (q < t ∨ t + 12 < q) → σ1 q = σ q) (g1 : zLG σ1 19) (g2 : zLG σ1 24) (pu : zPu σ1 σ2 t (-1) (zP V q0)) : zCI σ2 V D t u := by
  have hT1 := zTV_add' hB.1 h.2.1.1 h.2.1.2.1 hq0 h0 hs hp
  have ht : t = 32 ∨ t = 45 := h.1.1
  have hpl := (zP_lt hB.1 hq0).2
  have hno : σ (t + 2) (zP V q0) = -1 := (h.2.1.1.2.2.2.1 q0 hq0).1 h0
  obtain ⟨r, a, b, c, d, e⟩ := hp
  obtain ⟨p1, p2, p3⟩ := id pu
  have e2 : σ2 (t + 2) = σ (t + 2) := by
    funext k
    rw [p2, d]
    by_cases q : k = zP V q0
    · rw [if_pos q, q, hno]
    · rw [if_neg q, if_neg q]
  have rr : ∀ q, q ≠ t + 2 → q ≠ t + 3 → σ2 q = σ1 q := p1
  have hT : zTV σ2 t V := by
    refine zTV_59 h.2.1.1 h.2.1.2.1 (pu.ts hT1.1 (by decide) hpl) (fun q h1 h2 q3 q4 q5 q6 => ?_) (fun q i hq hi => ?_)
    · by_cases z : q = t + 2
      · rw [z, e2]
      · rw [rr q z q3, r q h1 h2 z q3 q4 q5 q6]
    · rcases hq with rfl | rfl | rfl | rfl
      · rw [p3, if_neg (by omega), d, if_pos rfl, e, if_neg hi, if_neg (by omega)]
      · rw [rr _ (by omega) (by omega), a, if_neg hi]
      · rw [rr _ (by omega) (by omega), b, if_neg hi]
      · rw [rr _ (by omega) (by omega), c, if_neg hi]
  refine zCI_tab h rfl rfl (fun q q1 q2 q3 q4 => by rw [rr q (by omega) (by omega), r1 q q1 q2 q3 q4]) hT ?_ ?_ (zLG_to g1 (fun q q1 q2 => rr q (by omega) (by omega))) (zLG_to g2 (fun q q1 q2 => rr q (by omega) (by omega)))
  · have := h.2.1.2.1
    unfold zT59 at *; rw [e2]; exact this
  · rw [rr _ (by omega) (by omega), r _ (by omega) (by omega) (by omega) (by omega) (by omega) (by omega) (by omega)]
/-- the shadow on an empty square -/
noncomputable def zShv (V D : zPH) (q : Nat) : Int := if zEd (zVadd V q 6 (-1)) (D 0 0) (D 0 1) = -1 ∨ zEd V (D 0 0) (D 0 1) = -1 then 0 else zpp (zdif (zEd V (D 0 0) (D 0 1)) (zEd (zVadd V q 6 (-1)) (D 0 0) (D 0 1)))
theorem zShv_r (V D : zPH) (q : Nat) : 0 ≤ zShv V D q ∧ zShv V D q ≤ 8 := by
  unfold zShv; split
  · omega
  · exact zpp_r _
section CC
variable {G : zG} {σ V D : zPH} {X : zX} {t u : Nat}
/-- frames of what is looked at with a change -/
def zfL (σ σ' : zPH) (t : Nat) : Prop := ∀ q, (q < 19 ∨ 23 < q) → (q < t ∨ t + 12 < q) → σ' q = σ q
theorem zfL.fB {σ σ' : zPH} {t : Nat} (ht : zisT t) (h : zfL σ σ' t) : zfB σ σ' := fun q hq => by
  have ht2 : t = 32 ∨ t = 45 := ht
  exact h q (by omega) (by omega)
theorem s_B_shadowOn (hB : zBD V D) (h : zCI σ V D t u) {q0 : Nat} {z a : Int} (hq0 : zva V q0) (h0 : V 1 q0 = 0) (hz : z = (zP V q0 : Int)) (ha : a = zEd V (D 0 0) (D 0 1)) (hX : ∀ σ', zCI σ' V D t u → zfL σ σ' t → X (some (iZ (zShv V D q0))) σ') : MS G zm_B_shadowOn 6 [zr G 0, iZ z, iZ a] σ X := by
  subst hz ha
  have hr := hB.r
  have ht : t = 32 ∨ t = 45 := h.1.1
  have hpl := (zP_lt hB.1 hq0).2
  have hno : σ (t + 2) (zP V q0) = -1 := (h.2.1.1.2.2.2.1 q0 hq0).1 h0
  obtain ⟨d1, d2, -⟩ := h.2.2.2.2.1
  have hVa := zVadd_d (s := 6) (f := -1) hB.1 hq0 h0 (Or.inr ⟨rfl, rfl⟩)
  have e0 : zVadd V q0 6 (-1) 0 = V 0 := zVadd_r (by decide) (by decide) (by decide)
  refine k_B_shadowOn h.1.1 ⟨h.1.2.2.2.1, ?_⟩
  refine s_T_putTried h.1.1 rfl hpl h.2.1.1.1.2.1 h.2.1.1.1.2.2.1 (fun σ1 ty => ⟨rfl, ?_⟩)
  have hty := zTyt_of ty hno
  have hT1 := zTV_add' hB.1 h.2.1.1 h.2.1.2.1 hq0 h0 (Or.inr ⟨rfl, rfl⟩) hty
  have r1 : ∀ q, (q < t ∨ t + 12 < q) → σ1 q = σ q := fun q hq => ty.1 q (by omega) (by omega) (by omega) (by omega) (by omega)
  refine ⟨by rw [r1 0 (by omega)]; exact h.1.2.2.2.1, ?_⟩
  rw [r1 0 (by omega), d1, d2]
  refine s_C_eyesInEnd h.1.1 (zLG_to h.2.2.2.1.1 (fun q q1 q2 => r1 q (by omega))) hVa ((zVch_t hB.2.1).2.1 _ _ _) hT1 (by omega) (by rw [e0]; exact zOr_st hB) (fun σ2 g2 F2 => ⟨_, rfl, ?_⟩)
  have r2 : ∀ q, (q < 19 ∨ 23 < q) → σ2 q = σ1 q := fun q hq => F2 q (by omega) (by omega) (by omega) (by omega) (by omega)
  refine ⟨by rw [r2 0 (by omega), r1 0 (by omega)]; exact h.1.2.2.2.1, ?_⟩
  have hT2 := hT1.to (σ' := σ2) (fun q h1 h2 => r2 q (by omega))
  refine s_T_put h.1.1 rfl hpl (by decide) hT2.1.2.1 hT2.1.2.2.1 (fun σ3 pu => ⟨rfl, ?_⟩)
  have c3 := zTyt_end hB h hq0 h0 (Or.inr ⟨rfl, rfl⟩) (zTyt_to hty (fun q h1 h2 => r2 q (by omega))) (fun q q1 q2 q3 q4 => by rw [r2 q (by omega), r1 q q4]) g2 (zLG_to h.2.2.2.1.2 (fun q q1 q2 => by rw [r2 q (by omega), r1 q (by omega)])) pu
  have f3 : zfL σ σ3 t := fun q q1 q2 => by rw [pu.1 q (by omega) (by omega), r2 q q1, r1 q q2]
  have hx := hX σ3 c3 f3
  unfold zShv at hx
  have b1 := zEd_r hB.1 (D 0 0) (D 0 1)
  have b2 := zEd_r hVa (D 0 0) (D 0 1)
  refine ⟨by omega, fun q => ?_, fun q => ⟨by omega, fun q2 => ⟨by omega, ?_⟩, fun q2 => ?_⟩⟩
  · rw [if_pos (Or.inl q)] at hx; exact hx
  · rw [if_neg (by omega)] at hx
    have n1 := zdif_nn (y := zEd (zVadd V q0 6 (-1)) (D 0 0) (D 0 1)) (show 0 ≤ zEd V (D 0 0) (D 0 1) by omega)
    have n2 := zdif_le (y := zEd (zVadd V q0 6 (-1)) (D 0 0) (D 0 1)) (show 0 ≤ zEd V (D 0 0) (D 0 1) by omega)
    exact s_bitCount (by omega) ⟨_, rfl, hx⟩
  · rw [if_pos (Or.inr q2)] at hx; exact hx
/-- what shadow() answers -/
def zSha (V D : zPH) (c r x : Int) : Prop := ((zin_ V c r ∧ V 1 (zqo c r) = 0) ∧ x = zShv V D (zqo c r)) ∨ (¬ (zin_ V c r ∧ V 1 (zqo c r) = 0) ∧ x = -1)
theorem s_B_shadow (hB : zBD V D) (h : zCI σ V D t u) {c r : Int} (hc : zI c) (hr : zI r) (hX : ∀ σ' x, zSha V D c r x → zCI σ' V D t u → zfB σ σ' → X (some (iZ x)) σ') : MS G zm_B_shadow 7 [zr G 0, iZ c, iZ r] σ X := by
  have hrr := hB.r
  refine k_B_shadow h.1.1 ⟨h.1.2.2.2.1, ?_⟩
  refine s_T_squareAt h.1.1 hB.1 h.2.1.1.2.1 hc hr (fun hi => ?_) (fun hi => ⟨_, rfl, by decide, fun _ => hX σ _ (Or.inr ⟨fun q => hi q.1, rfl⟩) h zfB.rf, fun q => absurd rfl q⟩)
  obtain ⟨hv, -⟩ := zqo_va hB.1 hi
  have hpl := (zP_lt hB.1 hv).2
  obtain ⟨hq1, hq2⟩ := h.2.1.1.2.2.2.1 _ hv
  have hb := h.2.1.1.1.2.1 (zP V (zqo c r))
  refine ⟨_, rfl, by omega, fun q => by omega, fun _ => ⟨h.1.2.2.2.1, by omega, ?_⟩⟩
  rw [Int.toNat_natCast]
  refine ⟨by omega, fun q => ⟨h.1.2.2.2.1, ?_⟩, fun q => hX σ _ (Or.inr ⟨fun z => q (hq1 z.2), rfl⟩) h zfB.rf⟩
  have h0 : V 1 (zqo c r) = 0 := by
    apply Classical.byContradiction
    intro z; exact (hq2 z).1 q
  rw [h.2.2.2.2.1.1, h.2.2.2.2.1.2.1]
  refine s_eyesInEnd hB h (by omega) (fun σ1 c1 F1 => ⟨_, rfl, ?_⟩)
  exact s_B_shadowOn hB c1 hv h0 rfl rfl (fun σ2 c2 F2 => ⟨_, rfl, hX σ2 _ (Or.inl ⟨⟨hi, h0⟩, rfl⟩) c2 ((zf19 F1).trans (F2.fB h.1.1))⟩)
/-- what needed() answers -/
def zNed (V D : zPH) (c r x : Int) : Prop := ((zin_ V c r ∧ V 1 (zqo c r) ≠ 0) ∧ x = if zEd V (D 0 0) (D 0 1) ≠ -1 ∧ zEd (zVrem V (zqo c r)) (D 0 0) (D 0 1) ≠ -1 then zxor (zEd V (D 0 0) (D 0 1)) (zEd (zVrem V (zqo c r)) (D 0 0) (D 0 1)) else if zEd V (D 0 0) (D 0 1) = zEd (zVrem V (zqo c r)) (D 0 0) (D 0 1) then 0 else 2 ^ (V 0 5).toNat - 1) ∨ (¬ (zin_ V c r ∧ V 1 (zqo c r) ≠ 0) ∧ x = -1)
theorem s_B_needed (hB : zBD V D) (h : zCI σ V D t u) {c r : Int} (hc : zI c) (hr : zI r) (hX : ∀ σ' x, zNed V D c r x → zCI σ' V D t u → zfB σ σ' → X (some (iZ x)) σ') : MS G zm_B_needed 6 [zr G 0, iZ c, iZ r] σ X := by
  have hrr := hB.r
  have ht : t = 32 ∨ t = 45 := h.1.1
  refine k_B_needed h.1.1 ⟨h.1.2.2.2.1, ?_⟩
  refine s_T_squareAt h.1.1 hB.1 h.2.1.1.2.1 hc hr (fun hi => ?_) (fun hi => ⟨_, rfl, by decide, fun _ => hX σ _ (Or.inr ⟨fun q => hi q.1, rfl⟩) h zfB.rf, fun q => absurd rfl q⟩)
  obtain ⟨hv, -⟩ := zqo_va hB.1 hi
  have hpl := (zP_lt hB.1 hv).2
  obtain ⟨hq1, hq2⟩ := h.2.1.1.2.2.2.1 _ hv
  have hb := h.2.1.1.1.2.1 (zP V (zqo c r))
  refine ⟨_, rfl, by omega, fun q => by omega, fun _ => ⟨h.1.2.2.2.1, by omega, ?_⟩⟩
  rw [Int.toNat_natCast]
  refine ⟨by omega, fun q => ⟨h.1.2.2.2.1, by omega, ?_⟩, fun q => hX σ _ (Or.inr ⟨fun z => (hq2 z.2).1 q, rfl⟩) h zfB.rf⟩
  rintro x4 e4
  have h0 : V 1 (zqo c r) ≠ 0 := fun z => q (hq1 z)
  refine ⟨h.1.2.2.2.1, ?_⟩
  rw [h.2.2.2.2.1.1, h.2.2.2.2.1.2.1]
  refine s_eyesInEnd hB h (by omega) (fun σ1 c1 F1 => ⟨_, rfl, c1.1.2.2.2.1, ?_⟩)
  refine s_T_put h.1.1 rfl hpl (by decide) c1.2.1.1.1.2.1 c1.2.1.1.1.2.2.1 (fun σ2 p2 => ⟨rfl, ?_⟩)
  have r2 : ∀ q, (q < t ∨ t + 12 < q) → σ2 q = σ1 q := fun q hq => p2.1 q (by omega) (by omega)
  refine ⟨by rw [r2 0 (by omega)]; exact c1.1.2.2.2.1, ?_⟩
  rw [r2 0 (by omega), c1.2.2.2.2.1.1, c1.2.2.2.2.1.2.1]
  have e0 : zVrem V (zqo c r) 0 = V 0 := zVrem_r (by decide) (by decide) (by decide) (by decide)
  have hT2 := zTV_rem hB.1 c1.2.1.1 hv h0 p2
  have hVr : zVd (zVrem V (zqo c r)) := zVrem_d hB.1
  refine s_C_eyesInEnd h.1.1 (zLG_to c1.2.2.2.1.1 (fun q q1 q2 => r2 q (by omega))) hVr ((zVch_t hB.2.1).1 _) hT2 (by omega) (by rw [e0]; exact zOr_st hB) (fun σ3 g3 F3 => ⟨_, rfl, ?_⟩)
  have r3 : ∀ q, (q < 19 ∨ 23 < q) → σ3 q = σ2 q := fun q hq => F3 q (by omega) (by omega) (by omega) (by omega) (by omega)
  refine ⟨by rw [r3 0 (by omega), r2 0 (by omega)]; exact c1.1.2.2.2.1, ?_⟩
  have hT3 := hT2.to (σ' := σ3) (fun q h1 h2 => r3 q (by omega))
  have ee : x4 = σ1 (t + 2) (zP V (zqo c r)) := by rw [e4, F1 (t + 2) (by omega)]
  rw [ee]
  have hb1 := c1.2.1.1.1.2.1 (zP V (zqo c r))
  have hq1' := (c1.2.1.1.2.2.2.1 _ hv).2 h0
  refine s_T_put h.1.1 rfl hpl hb1 hT3.1.2.1 hT3.1.2.2.1 (fun σ4 p4 => ⟨rfl, ?_⟩)
  obtain ⟨m2, m3⟩ := zPu_back p2 (r3 _ (by omega)) (r3 _ (by omega)) p4 hq1'.2.2.2.2.2 (by have := hq1'.1; omega)
  have r4 : ∀ q, (q < 19 ∨ 23 < q) → σ4 q = σ1 q := fun q hq => by
    by_cases z2 : q = t + 2
    · rw [z2, m2]
    · by_cases z3 : q = t + 3
      · rw [z3, m3]
      · rw [p4.1 q z2 z3, r3 q hq, p2.1 q z2 z3]
  have c4 : zCI σ4 V D t u := c1.to (fun q q1 q2 q3 => r4 q (by omega)) (zLG_to g3 (fun q q1 q2 => p4.1 q (by omega) (by omega))) (zLG_to c1.2.2.2.1.2 (fun q q1 q2 => r4 q (by omega)))
  have f4 : zfB σ σ4 := fun q hq => by rw [r4 q (by omega), F1 q (by omega)]
  have b1 := zEd_r hB.1 (D 0 0) (D 0 1)
  have b2 := zEd_r hVr (D 0 0) (D 0 1)
  have hx : ∀ x : Int, (x = if zEd V (D 0 0) (D 0 1) ≠ -1 ∧ zEd (zVrem V (zqo c r)) (D 0 0) (D 0 1) ≠ -1 then zxor (zEd V (D 0 0) (D 0 1)) (zEd (zVrem V (zqo c r)) (D 0 0) (D 0 1)) else if zEd V (D 0 0) (D 0 1) = zEd (zVrem V (zqo c r)) (D 0 0) (D 0 1) then 0 else 2 ^ (V 0 5).toNat - 1) → X (some (iZ x)) σ4 := fun x hx => hX σ4 x (Or.inl ⟨⟨hi, h0⟩, hx⟩) c4 f4
  have h120 : (zEd V (D 0 0) (D 0 1) = -1 ∨ zEd (zVrem V (zqo c r)) (D 0 0) (D 0 1) = -1) → b_B_needed_120 G t c r X (zEd V (D 0 0) (D 0 1)) (zEd (zVrem V (zqo c r)) (D 0 0) (D 0 1)) σ4 := fun hor => by
    refine ⟨by omega, fun z => s_B_allOf hB c4 (g := 3) rfl (by decide) ⟨_, rfl, hx _ ?_⟩, fun z => hx _ ?_⟩
    · rw [if_neg (by omega), if_neg z]
    · rw [if_neg (by omega), if_pos z]
  refine ⟨by omega, fun z => h120 (Or.inl z), fun z => ⟨by omega, fun z2 => h120 (Or.inr z2), fun z2 => ⟨by omega, hx _ ?_⟩⟩⟩
  rw [if_pos ⟨z, z2⟩]
/-- what swapped() answers -/
def zSwd (V D : zPH) (c r c' r' x : Int) : Prop := ((zin_ V c r ∧ zin_ V c' r' ∧ zqo c r ≠ zqo c' r') ∧ ((zWs V D (zEd (zVswp V (zqo c r) (zqo c' r')) (D 0 0) (D 0 1)) ∧ x = 1) ∨ (¬ zWs V D (zEd (zVswp V (zqo c r) (zqo c' r')) (D 0 0) (D 0 1)) ∧ x = 0))) ∨ (¬ (zin_ V c r ∧ zin_ V c' r' ∧ zqo c r ≠ zqo c' r') ∧ x = -1)
theorem s_B_swapped (hB : zBD V D) (h : zCI σ V D t u) {c r c' r' : Int} (hc : zI c) (hr : zI r) (hc' : zI c') (hr' : zI r') (hX : ∀ σ' x, zSwd V D c r c' r' x → zCI σ' V D t u → zfB σ σ' → X (some (iZ x)) σ') : MS G zm_B_swapped 7 [zr G 0, iZ c, iZ r, iZ c', iZ r'] σ X := by
  have hrr := hB.r
  have ht : t = 32 ∨ t = 45 := h.1.1
  refine k_B_swapped h.1.1 ⟨h.1.2.2.2.1, ?_⟩
  have hbad : ¬ (zin_ V c r ∧ zin_ V c' r' ∧ zqo c r ≠ zqo c' r') → X (some (iZ (-1))) σ := fun hn => hX σ _ (Or.inr ⟨hn, rfl⟩) h zfB.rf
  refine s_T_squareAt h.1.1 hB.1 h.2.1.1.2.1 hc hr (fun hi => ⟨_, rfl, h.1.2.2.2.1, ?_⟩) (fun hi => ⟨_, rfl, h.1.2.2.2.1, ?_⟩)
  rotate_left
  · refine s_T_squareAt h.1.1 hB.1 h.2.1.1.2.1 hc' hr' (fun hi' => ⟨_, rfl, by decide, fun _ => hbad (fun z => hi z.1), fun z => absurd rfl z⟩) (fun hi' => ⟨_, rfl, by decide, fun _ => hbad (fun z => hi z.1), fun z => absurd rfl z⟩)
  obtain ⟨hva, -⟩ := zqo_va hB.1 hi
  have hpa := (zP_lt hB.1 hva).2
  refine s_T_squareAt h.1.1 hB.1 h.2.1.1.2.1 hc' hr' (fun hi' => ?_) (fun hi' => ⟨_, rfl, by omega, fun z => by omega, fun _ => ⟨by decide, fun _ => hbad (fun z => hi' z.2.1), fun z => absurd rfl z⟩⟩)
  obtain ⟨hvb, -⟩ := zqo_va hB.1 hi'
  have hpb := (zP_lt hB.1 hvb).2
  generalize hqa : zqo c r = a at *
  generalize hqb : zqo c' r' = b at *
  refine ⟨_, rfl, by omega, fun z => by omega, fun _ => ⟨by omega, fun z => by omega, fun _ => ⟨by omega, fun hne => ⟨h.1.2.2.2.1, by omega, ?_⟩, fun heq => hbad (fun z => z.2.2 (zP_inj hva hvb (by omega)))⟩⟩⟩
  have hab : a ≠ b := fun z => hne (by rw [z])
  have hpab : zP V a ≠ zP V b := fun z => hne (by rw [z])
  rintro x7 e7
  refine ⟨h.1.2.2.2.1, by omega, ?_⟩
  rintro x8 e8
  rw [Int.toNat_natCast] at e7 e8
  refine ⟨h.1.2.2.2.1, ?_⟩
  subst e7 e8
  have hT := h.2.1.1
  have hba := hT.1.2.1 (zP V a)
  have hbb := hT.1.2.1 (zP V b)
  have hsa : σ (t + 2) (zP V a) ≠ -1 → σ (t + 3) (σ (t + 2) (zP V a)).toNat = (zP V a : Int) := fun z => by
    obtain ⟨q1, q2⟩ := hT.2.2.2.1 a hva
    by_cases z0 : V 1 a = 0
    · exact absurd (q1 z0) z
    · exact (q2 z0).2.2.2.2.2
  have hsb : σ (t + 2) (zP V b) ≠ -1 → σ (t + 3) (σ (t + 2) (zP V b)).toNat = (zP V b : Int) := fun z => by
    obtain ⟨q1, q2⟩ := hT.2.2.2.1 b hvb
    by_cases z0 : V 1 b = 0
    · exact absurd (q1 z0) z
    · exact (q2 z0).2.2.2.2.2
  refine s_T_put h.1.1 rfl hpa hbb hT.1.2.1 hT.1.2.2.1 (fun σ1 p1 => ⟨rfl, ?_⟩)
  have t1 := p1.ts hT.1 hbb hpa
  refine ⟨by rw [p1.1 0 (by omega) (by omega)]; exact h.1.2.2.2.1, ?_⟩
  refine s_T_put h.1.1 rfl hpb hba t1.2.1 t1.2.2.1 (fun σ2 p2 => ⟨rfl, ?_⟩)
  have t2 := p2.ts t1 hba hpb
  have sw := zSw_of hpab hsa hsb hT.1.2.1 p1 p2
  have e0 : zVswp V a b 0 = V 0 := zVswp_r (by omega)
  have e20 : zVswp V a b 20 = V 20 := zVswp_r (by omega)
  have hVs := zVswp_d hB.1 hva hvb hab
  have hBs : zBD (zVswp V a b) D := zBD_to hB e0 hVs ((zVch_t hB.2.1).2.2.2 _ _)
  have hT2 := zTV_swp hB.1 hT hva hvb hab t2 sw
  have r2 : ∀ q, (q < t ∨ t + 12 < q) → σ2 q = σ q := fun q hq => sw.1 q (by omega) (by omega)
  have h59 : zT59 σ2 t := fun p hp => by
    have := h.2.1.2.1
    rw [sw.2.1]
    split
    · first | exact this _ (zP_lt hB.1 hvb).2 | exact this _ (zP_lt hB.1 hva).2
    · split
      · first | exact this _ (zP_lt hB.1 hva).2 | exact this _ (zP_lt hB.1 hvb).2
      · exact this _ hp
  have c2 : zCI σ2 (zVswp V a b) D t u := zCI_tab h e0 e20 (fun q q1 q2 q3 q4 => r2 q q4) hT2 h59 (sw.1 _ (by omega) (by omega)) (zLG_to h.2.2.2.1.1 (fun q q1 q2 => r2 q (by omega))) (zLG_to h.2.2.2.1.2 (fun q q1 q2 => r2 q (by omega)))
  rw [c2.2.2.2.2.1.1]
  have fin : ∀ (σ3 : zPH) (x : Int), (x = 0 ∨ x = 1) → ((zWs V D (zEd (zVswp V a b) (D 0 0) (D 0 1)) ∧ x = 1) ∨ (¬ zWs V D (zEd (zVswp V a b) (D 0 0) (D 0 1)) ∧ x = 0)) → zCI σ3 (zVswp V a b) D t u → (∀ q, (q < 19 ∨ 23 < q) → σ3 q = σ2 q) → (σ3 0 3 = ((t : Nat) : Int) ∧ MS G zm_T_put 0 [zr G t, iZ (σ (t + 2) (zP V a)), iZ (zP V a : Int)] σ3 (fun v σ108 => v = none ∧ σ108 0 3 = ((t : Nat) : Int) ∧ MS G zm_T_put 0 [zr G t, iZ (σ (t + 2) (zP V b)), iZ (zP V b : Int)] σ108 (fun v σ119 => v = none ∧ zI x ∧ (x = 0 → X (some (iZ 0)) σ119) ∧ (x ≠ 0 → X (some (iZ 1)) σ119)))) := by
    intro σ3 x hx hw c3 F3
    refine ⟨c3.1.2.2.2.1, ?_⟩
    refine s_T_put h.1.1 rfl hpa hba c3.2.1.1.1.2.1 c3.2.1.1.1.2.2.1 (fun σ4 p4 => ⟨rfl, ?_⟩)
    have t4 := p4.ts c3.2.1.1.1 hba hpa
    refine ⟨by rw [p4.1 0 (by omega) (by omega)]; exact c3.1.2.2.2.1, ?_⟩
    refine s_T_put h.1.1 rfl hpb hbb t4.2.1 t4.2.2.1 (fun σ5 p5 => ⟨rfl, ?_⟩)
    have back := zSw_back hpab hsa hsb hT.1.2.1 (σ1 := σ3) ⟨by rw [F3 _ (by omega)]; exact sw.2.1, by rw [F3 _ (by omega)]; exact sw.2.2⟩ p4 p5
    have r5 : ∀ q, (q < 19 ∨ 23 < q) → σ5 q = σ q := fun q hq => by
      by_cases z : q = t + 2 ∨ q = t + 3
      · rw [back q, if_pos z]
      · rw [p5.1 q (by omega) (by omega), p4.1 q (by omega) (by omega), F3 q hq, sw.1 q (by omega) (by omega)]
    have c5 : zCI σ5 V D t u := h.to (fun q q1 q2 q3 => r5 q (by omega)) (zLG_to c3.2.2.2.1.1 (fun q q1 q2 => by rw [p5.1 q (by omega) (by omega), p4.1 q (by omega) (by omega)])) (zLG_to h.2.2.2.1.2 (fun q q1 q2 => r5 q (by omega)))
    have f5 : zfB σ σ5 := fun q hq => r5 q (by omega)
    refine ⟨by omega, fun z => hX σ5 _ (Or.inl ⟨⟨hi, hi', by rw [hqa, hqb]; exact hab⟩, ?_⟩) c5 f5, fun z => hX σ5 _ (Or.inl ⟨⟨hi, hi', by rw [hqa, hqb]; exact hab⟩, ?_⟩) c5 f5⟩
    · rw [hqa, hqb]; rcases hw with ⟨_, q⟩ | ⟨q, _⟩
      · omega
      · exact Or.inr ⟨q, rfl⟩
    · rw [hqa, hqb]; rcases hw with ⟨q, _⟩ | ⟨_, q⟩
      · exact Or.inl ⟨q, rfl⟩
      · omega
  exact s_B_areMet hBs c2 (by omega) (fun σ3 q c3 F3 => ⟨1, Or.inr rfl, rfl, fin σ3 1 (Or.inr rfl) (Or.inl ⟨(zWs_to e0 _).mp q, rfl⟩) c3 F3⟩) (fun σ3 q c3 F3 => ⟨0, Or.inl rfl, rfl, fin σ3 0 (Or.inl rfl) (Or.inr ⟨fun z => q ((zWs_to e0 _).mpr z), rfl⟩) c3 F3⟩)
/-- what tint() answers -/
def zTnt (V D : zPH) (c r x : Int) : Prop := ((zin_ V c r ∧ V 1 (zqo c r) = 4) ∧ ((∃ k : Int, (0 ≤ k ∧ k < 8) ∧ zWs V D (zEd (zVtin V (zqo c r) k) (D 0 0) (D 0 1)) ∧ (∀ k' : Int, 0 ≤ k' → k' < k → ¬ zWs V D (zEd (zVtin V (zqo c r) k') (D 0 0) (D 0 1))) ∧ x = k) ∨ ((∀ k : Int, 0 ≤ k → k < 8 → ¬ zWs V D (zEd (zVtin V (zqo c r) k) (D 0 0) (D 0 1))) ∧ x = -1))) ∨ (¬ (zin_ V c r ∧ V 1 (zqo c r) = 4) ∧ x = -1)
theorem zTnt_u {V D : zPH} {c r x y : Int} (h : zTnt V D c r x) (h' : zTnt V D c r y) : x = y := by
  rcases h with ⟨h1, h2⟩ | ⟨h1, h2⟩ <;> rcases h' with ⟨h1', h2'⟩ | ⟨h1', h2'⟩
  · rcases h2 with ⟨k, a1, a2, a3, a4⟩ | ⟨a1, a2⟩ <;> rcases h2' with ⟨k', b1, b2, b3, b4⟩ | ⟨b1, b2⟩
    · rcases (show k < k' ∨ k = k' ∨ k' < k by omega) with q | q | q
      · exact absurd a2 (b3 k a1.1 q)
      · omega
      · exact absurd b2 (a3 k' b1.1 q)
    · exact absurd a2 (b1 k a1.1 a1.2)
    · exact absurd b2 (a1 k' b1.1 b1.2)
    · omega
  · exact absurd h1 h1'
  · exact absurd h1' h1
  · omega
theorem s_B_tint (hB : zBD V D) (h : zCI σ V D t u) {c r : Int} (hc : zI c) (hr : zI r) (hX : ∀ σ' x, zTnt V D c r x → zCI σ' V D t u → zfB σ σ' → X (some (iZ x)) σ') : MS G zm_B_tint 7 [zr G 0, iZ c, iZ r] σ X := by
  have hrr := hB.r
  have ht : t = 32 ∨ t = 45 := h.1.1
  have no : ¬ (zin_ V c r ∧ V 1 (zqo c r) = 4) → X (some (iZ (-1))) σ := fun q => hX σ _ (Or.inr ⟨q, rfl⟩) h zfB.rf
  refine k_B_tint h.1.1 ⟨h.1.2.2.2.1, ?_⟩
  refine s_T_squareAt h.1.1 hB.1 h.2.1.1.2.1 hc hr (fun hi => ?_) (fun hi => ⟨_, rfl, by decide, fun z => absurd rfl z, fun _ => ⟨by decide, fun _ => no (fun q => hi q.1), fun z => absurd rfl z⟩⟩)
  obtain ⟨hv, -⟩ := zqo_va hB.1 hi
  have hpl := (zP_lt hB.1 hv).2
  obtain ⟨hq1, hq2⟩ := h.2.1.1.2.2.2.1 _ hv
  have hb := h.2.1.1.1.2.1 (zP V (zqo c r))
  refine ⟨_, rfl, by omega, fun _ => ⟨h.1.2.2.2.1, by omega, ?_⟩, fun q => by omega⟩
  rw [Int.toNat_natCast]
  refine ⟨by omega, fun q => no (fun z => ?_), fun q => ⟨h.1.2.2.2.1, by omega, ?_, fun q4 => ⟨h.1.2.2.2.1, by omega, ?_⟩, fun q4 => no (fun z => ?_)⟩⟩
  · have := (hq2 (by rw [z.2]; decide)).1; exact this q
  · have := h.2.1.1.1.2.2.2.1 (σ (t + 2) (zP V (zqo c r))).toNat
    unfold zPc at this; omega
  · have h1ne : V 1 (zqo c r) ≠ 0 := fun z => q (hq1 z)
    have h4 : V 1 (zqo c r) = 4 := by rw [← (hq2 h1ne).2.1]; exact q4
    have hlk := (hq2 h1ne).2.2.2.1
    generalize hqa : zqo c r = a at *
    generalize hpi : (σ (t + 2) (zP V a)).toNat = pi at *
    rintro x5 e5
    have bd : ∀ k : Int, 0 ≤ k → k < 8 → zVd (zVtin V a k) ∧ zBD (zVtin V a k) D := fun k k1 k2 => by
      have hd := zVtin_d hB.1 h4 ⟨k1, k2⟩
      exact ⟨hd, zBD_to hB (zVtin_r (by decide)) hd ((zVch_t hB.2.1).2.2.1 _ _)⟩
    refine zLP4_ind (fun x4 y5 x6 x7 σ1 => x4 = σ (t + 2) (zP V a) ∧ y5 = x5 ∧ (0 ≤ x7 ∧ x7 ≤ 8) ∧ ((x6 = -1 ∧ ∀ k : Int, 0 ≤ k → k < x7 → ¬ zWs V D (zEd (zVtin V a k) (D 0 0) (D 0 1))) ∨ ((0 ≤ x6 ∧ x6 < 8) ∧ zWs V D (zEd (zVtin V a x6) (D 0 0) (D 0 1)) ∧ ∀ k : Int, 0 ≤ k → k < x6 → ¬ zWs V D (zEd (zVtin V a k) (D 0 0) (D 0 1)))) ∧ (∀ q, (q < 19 ∨ 23 < q) → q ≠ t + 6 → σ1 q = σ q) ∧ (∀ i, i ≠ pi → σ1 (t + 6) i = σ (t + 6) i) ∧ zLG σ1 19) (fun _ _ _ x7 _ => (8 - x7).toNat) ?_ ⟨rfl, rfl, ⟨by decide, by decide⟩, Or.inl ⟨rfl, fun k k1 k2 => by omega⟩, fun _ _ _ => rfl, fun _ _ => rfl, h.2.2.2.1.1⟩
    rintro K x4 y5 x6 x7 σ1 ⟨rfl, rfl, h7, hx6, F1, P1, g1⟩ hK
    have e03 : σ1 0 3 = ((t : Nat) : Int) := by rw [F1 0 (by omega) (by omega)]; exact h.1.2.2.2.1
    have hx6r : -1 ≤ x6 ∧ x6 < 8 := by rcases hx6 with q | q <;> omega
    have h116 : (x6 = -1 → 8 ≤ x7) → b_B_tint_116 G t c r X (σ (t + 2) (zP V a)) y5 x6 σ1 := fun hend => by
      refine ⟨e03, by omega, ?_⟩
      rintro σ2 e2
      rw [hpi] at e2
      have r2 : ∀ q, (q < 19 ∨ 23 < q) → σ2 q = σ q := fun q hq => by
        by_cases z : q = t + 6
        · subst z
          funext i
          rw [e2]
          by_cases zi : i = pi
          · rw [zi, zupd_same, e5]
          · rw [zupd_nk zi, P1 i zi]
        · rw [e2, zupd_row z, F1 q hq z]
      have c2 : zCI σ2 V D t u := h.to (fun q q1 q2 q3 => r2 q (by omega)) (zLG_to g1 (fun q q1 q2 => by rw [e2, zupd_row (by omega)])) (zLG_to h.2.2.2.1.2 (fun q q1 q2 => r2 q (by omega)))
      refine hX σ2 _ (Or.inl ⟨⟨hi, by rw [hqa]; exact h4⟩, ?_⟩) c2 (fun q hq => r2 q (by omega))
      rw [hqa]
      rcases hx6 with ⟨q1, q2⟩ | ⟨q1, q2, q3⟩
      · exact Or.inr ⟨fun k k1 k2 => q2 k k1 (by have := hend q1; omega), q1⟩
      · exact Or.inl ⟨x6, q1, q2, q3, rfl⟩
    refine ⟨by omega, fun z => h116 (fun _ => by omega), fun z => ⟨by omega, fun z6 => h116 (fun w => absurd w z6), fun z6 => ⟨e03, by omega, ?_⟩⟩⟩
    rintro σ2 e2
    rw [hpi] at e2
    obtain ⟨hVt, hBt⟩ := bd x7 h7.1 (by omega)
    have hT2 : zTV σ2 t (zVtin V a x7) := by
      have := zTV_tin h.2.1.1 hv h4 (c := x7) ⟨h7.1, by omega⟩
      rw [hpi] at this
      refine this.to (fun q q1 q2 => ?_)
      rw [e2]
      by_cases zq : q = t + 6
      · subst zq
        funext i
        by_cases zi : i = pi
        · rw [zi, zupd_same, zupd_same]
        · rw [zupd_nk zi, zupd_nk zi, P1 i zi]
      · rw [zupd_row zq, zupd_row zq, F1 q (by omega) zq]
    have r2 : ∀ q, (q < 19 ∨ 23 < q) → q ≠ t + 6 → σ2 q = σ q := fun q hq hz => by rw [e2, zupd_row hz, F1 q hq hz]
    have h59 := h.2.1.2.1
    have c2 : zCI σ2 (zVtin V a x7) D t u := zCI_tab h (zVtin_r (by decide)) (zVtin_r (by decide)) (fun q q1 q2 q3 q4 => r2 q (by omega) (by omega)) hT2 (by unfold zT59 at *; rw [r2 _ (by omega) (by omega)]; exact h59) (r2 _ (by omega) (by omega)) (zLG_to g1 (fun q q1 q2 => by rw [e2, zupd_row (by omega)])) (zLG_to h.2.2.2.1.2 (fun q q1 q2 => r2 q (by omega) (by omega)))
    rw [c2.2.2.2.2.1.1]
    have ew : ∀ rr, zWs (zVtin V a x7) D rr ↔ zWs V D rr := fun rr => zWs_to (zVtin_r (by decide)) rr
    have nx : ∀ (σ3 : zPH), (∀ q, (q < 19 ∨ 23 < q) → σ3 q = σ2 q) → (∀ q, (q < 19 ∨ 23 < q) → q ≠ t + 6 → σ3 q = σ q) ∧ (∀ i, i ≠ pi → σ3 (t + 6) i = σ (t + 6) i) := fun σ3 F3 => ⟨fun q hq hz => by rw [F3 q hq, r2 q hq hz], fun i zi => by rw [F3 _ (by omega), e2, zupd_nk zi, P1 i zi]⟩
    refine s_B_areMet hBt c2 (by omega) (fun σ3 q c3 F3 => Or.inr ⟨rfl, ?_⟩) (fun σ3 q c3 F3 => Or.inl ⟨rfl, ?_⟩)
    · rw [ew] at q
      refine hK _ _ _ _ _ ⟨rfl, rfl, by omega, Or.inr ⟨⟨h7.1, by omega⟩, q, fun k k1 k2 => ?_⟩, (nx σ3 F3).1, (nx σ3 F3).2, c3.2.2.2.1.1⟩ (by omega)
      rcases hx6 with ⟨_, q2⟩ | ⟨q1, _⟩
      · exact q2 k k1 k2
      · omega
    · rw [ew] at q
      refine hK _ _ _ _ _ ⟨rfl, rfl, by omega, Or.inl ⟨z6, fun k k1 k2 => ?_⟩, (nx σ3 F3).1, (nx σ3 F3).2, c3.2.2.2.1.1⟩ (by omega)
      rcases (show k < x7 ∨ k = x7 by omega) with zk | rfl
      · rcases hx6 with ⟨_, q2⟩ | ⟨q1, _⟩
        · exact q2 k k1 zk
        · omega
      · exact q
  · have := (hq2 (by rw [z.2]; decide)).2.1
    rw [z.2] at this; exact q4 this
end CC
