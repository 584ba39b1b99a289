section RS
variable {G : zG} {σ : zPH} {X : zX} {T : Nat → Int} {n u : Nat} {S : ySn} {R : zPR}
theorem s_T_eyeNamed {W : zPH} {v : Int} (hu : zisT u) (hc : σ (u + 8) 3 = W 0 5) (h5 : 0 ≤ W 0 5 ∧ W 0 5 ≤ 8) (hn : ∀ e : Nat, (e : Int) < W 0 5 → σ (u + 10) e = W 20 e ∧ zI (σ (u + 10) e)) (hv : zI v) (hX : X (some (iZ (yeN W v (W 0 5).toNat))) σ) : MS G zm_T_eyeNamed 0 [zr G u, iZ v] σ X := by
  refine k_T_eyeNamed hu ?_
  refine zLP1_ind (fun x s => s = σ ∧ ∃ k : Nat, x = (k : Int) ∧ (k : Int) ≤ W 0 5 ∧ yeN W v k = -1) (fun x _ => (W 0 5 - x).toNat) ?_ ⟨rfl, 0, rfl, h5.1, rfl⟩
  rintro K x s ⟨rfl, k, rfl, hk, hy⟩ hK
  unfold b_T_eyeNamed_2
  rw [hc]
  refine ⟨by omega, fun z => ?_, fun z => ⟨by omega, ?_⟩⟩
  · have : k = (W 0 5).toNat := by omega
    rw [← this, hy] at hX; exact hX
  · rw [Int.toNat_natCast]
    obtain ⟨n1, n2⟩ := hn k z
    refine ⟨⟨n2, hv⟩, fun y => hK _ _ ⟨rfl, k + 1, by omega, by omega, ?_⟩ (by omega), fun y => ?_⟩
    · unfold yeN
      rw [if_neg (fun q => q hy), if_neg (fun q => y (by rw [n1, q]))]
    · have := yeN_hit hy (by rw [← n1]; exact y) (W 0 5).toNat (by omega)
      rw [this] at hX; exact hX
theorem s_T_eyeNamed' {v k pl : Int} (hu : zisT u) (h : yRf σ T n u k pl) (hv : zI v) (hX : ∀ z, zI z → X (some (iZ z)) σ) : MS G zm_T_eyeNamed 0 [zr G u, iZ v] σ X := by
  have h8 := h.1.2.2.1.2.2.2.2.2.2.1 3
  refine s_T_eyeNamed (W := fun r k => if r = 0 then σ (u + 8) 3 else σ (u + 10) k) hu rfl h8 (fun e he => ⟨rfl, h.1.2.2.2.2.2 e he⟩) hv (hX _ ?_)
  have := yeN_r (fun r k => if r = 0 then σ (u + 8) 3 else σ (u + 10) k) v (σ (u + 8) 3).toNat
  show zI (yeN _ v (σ (u + 8) 3).toNat)
  omega
theorem s_R_readNumber (hT : ∀ k, 0 ≤ T k ∧ T k < 256) (hn : n ≤ 1600) (hu : 32 ≤ u) {lo hi : Int} (hl : zI lo ∧ zI hi) {W : zPH} {p : Nat} (h : yRn σ T n u S W p) (h1 : ztK T n p = 2 → lo ≤ ztV T n p → ztV T n p ≤ hi → X (some (iZ (ztV T n p))) σ) (h2 : ztK T n p = 2 → (ztV T n p < lo ∨ hi < ztV T n p) → ∀ σ' x, zI x → yRf σ' T n u 2 (ztS T n p) → (∀ q, q ≠ 4 → σ' q = σ q) → X (some (iZ x)) σ') (h0 : ztK T n p ≠ 2 → ∀ σ' x, zI x → yRf σ' T n u 1 (ztF T n p) → (∀ q, q ≠ 4 → σ' q = σ q) → X (some (iZ x)) σ') : MS G zm_R_readNumber 2 [zr G 4, iZ lo, iZ hi] σ X := by
  obtain ⟨a, c, ha, hlt, hk, ht, h16, e, hp, i1, i2⟩ := h.1.tk hT hn
  have hz := h.2.2.1
  rw [ht] at hz
  rw [hz] at e
  refine k_R_readNumber ⟨by omega, ?_⟩
  rw [ht]
  rintro x3 e3
  rw [e.2.1] at e3 i2
  subst e3
  have b46 : ztK T n p = 2 → (ztV T n p < lo ∨ hi < ztV T n p) → b_R_readNumber_46 G lo hi X (ztV T n p) σ := fun q1 q2 => by
    refine ⟨by omega, ?_⟩
    rw [ht, e.2.2.1]
    exact s_R_refuse hu h.1 h.2.1.1 (by decide) (fun σ1 F1 f1 r1 => ⟨rfl, h2 q1 q2 σ1 _ i2 F1 r1⟩)
  refine ⟨by omega, i1, fun z => ?_, fun z => ?_⟩
  · have hk2 : ztK T n p = 2 := by rw [← e.1]; exact z
    exact ⟨⟨i2, hl.1⟩, fun y => b46 hk2 (Or.inl y), fun y => ⟨⟨i2, hl.2⟩, fun v => h1 hk2 y v, fun v => b46 hk2 (Or.inr v)⟩⟩
  · have hk2 : ztK T n p ≠ 2 := fun y => z (by rw [e.1]; exact y)
    refine k_R_refuseToken ⟨by omega, ?_⟩
    rw [ht, e.2.2.2]
    exact s_R_refuse hu h.1 h.2.1.1 (by decide) (fun σ1 F1 f1 r1 => ⟨rfl, rfl, h0 hk2 σ1 _ i2 F1 r1⟩)
theorem s_R_readNumber' (hT : ∀ k, 0 ≤ T k ∧ T k < 256) (hn : n ≤ 1600) {lo hi : Int} (hl : zI lo ∧ zI hi) {k pl : Int} (h : yRf σ T n u k pl) (hX : ∀ x, zI x → X (some (iZ x)) σ) : MS G zm_R_readNumber 2 [zr G 4, iZ lo, iZ hi] σ X := by
  obtain ⟨a, c, ha, hlt, hk, ht, h16, e, hp, i1, i2⟩ := h.1.tk hT hn
  refine k_R_readNumber ⟨by omega, ?_⟩
  rw [ht]
  rintro x3 rfl
  have b46 : b_R_readNumber_46 G lo hi X (σ 10 a) σ := ⟨by omega, s_R_refuse' h ⟨rfl, hX _ i2⟩⟩
  exact ⟨by omega, i1, fun z => ⟨⟨i2, hl.1⟩, fun y => b46, fun y => ⟨⟨i2, hl.2⟩, fun v => hX _ i2, fun v => b46⟩⟩, fun z => s_R_refuseToken' hT hn h ⟨rfl, hX _ i2⟩⟩
/-- behind readSquare: the square z -/
def yRz (σ : zPH) (T : Nat → Int) (n u : Nat) (Q : zPH → Prop) (g : Nat → zPH → Nat → zPR) (R : zPR) (z : Int) : Prop := (∃ W p q, g q W p = R ∧ Q W ∧ z = (zP W q : Int) ∧ zva W q ∧ W 1 q = 0 ∧ yRn σ T n u yRq W p) ∨ ∃ k pl, R = .inr (k, pl) ∧ yRf σ T n u k pl
theorem s_R_readSquareO (hT : ∀ k, 0 ≤ T k ∧ T k < 256) (hn : n ≤ 1600) (hu : zisT u) (Q : zPH → Prop) (g : Nat → zPH → Nat → zPR) (hQ : ∀ W, Q W → yOa W) (h : yOc σ T n u yRq (fun W _ => Q W) (ySq T n g) R) (hX : ∀ σ' z, yRz σ' T n u Q g R z → (∀ q, q ≠ 4 → σ' q = σ q) → X (some (iZ z)) σ') : MS G zm_R_readSquare 3 [zr G 4] σ X := by
  have hh := hu.h
  -- a fault before
  have T5 : ∀ (s : zPH) (x1 s0 k pl : Int), (s0 = -1 ∨ (0 ≤ s0 ∧ s0 < 144)) → R = .inr (k, pl) → yRf s T n u k pl → (∀ q, q ≠ 4 → s q = σ q) → b_R_readSquare_73 G u X x1 s0 s := fun s x1 s0 k pl hs0 eR hF f => by
    have b101 : b_R_readSquare_101 G u X s0 s := s_R_advance' hF ⟨rfl, hX s s0 (Or.inr ⟨k, pl, eR, hF⟩) f⟩
    have h2 := hF.1.2.2.1.2.1 s0.toNat
    exact ⟨by omega, fun _ => b101, fun y => ⟨hF.1.2.1, by omega, by omega, fun _ => b101, fun _ => s_R_refuse' hF ⟨rfl, b101⟩⟩⟩
  have dims : ∀ s : zPH, zTs s u → zI (s u 0 - 1) ∧ zI (s u 1 - 1) := fun s hs => by have := hs.2.2.2.2.1; omega
  have T4 : ∀ (s : zPH) (x1 z30 k pl : Int), R = .inr (k, pl) → yRf s T n u k pl → (∀ q, q ≠ 4 → s q = σ q) → MS G zm_R_readNumber 2 [zr G 4, iZ 0, iZ ((s u 1) - 1)] s (fun v σ49 => ∃ z49 : Int, v = some (iZ z49) ∧ (zI (σ49 4 0)) ∧ ((σ49 4 0) ≠ 0 → b_R_readSquare_73 G u X x1 (-1) σ49) ∧ ((σ49 4 0) = 0 → σ49 4 4 = ((u : Nat) : Int) ∧ MS G zm_T_squareAt 0 [zr G u, iZ z30, iZ z49] σ49 (fun v σ66 => ∃ z66 : Int, v = some (iZ z66) ∧ b_R_readSquare_73 G u X x1 z66 σ66))) := fun s x1 z30 k pl eR hF f => by
    have e1 := hF.2.1
    have e2 := hF.2.2.2
    exact s_R_readNumber' hT hn ⟨by decide, (dims s hF.1.2.2.1).2⟩ hF (fun x hx => ⟨x, rfl, by omega, fun _ => T5 s x1 (-1) k pl (Or.inl rfl) eR hF f, fun y => by omega⟩)
  have T3 : ∀ (s : zPH) (x1 z30 k pl : Int), R = .inr (k, pl) → yRf s T n u k pl → (∀ q, q ≠ 4 → s q = σ q) → MS G zm_R_advance 0 [zr G 4] s (fun v σ35 => v = none ∧ σ35 4 4 = ((u : Nat) : Int) ∧ MS G zm_R_readNumber 2 [zr G 4, iZ 0, iZ ((σ35 u 1) - 1)] σ35 (fun v σ49 => ∃ z49 : Int, v = some (iZ z49) ∧ (zI (σ49 4 0)) ∧ ((σ49 4 0) ≠ 0 → b_R_readSquare_73 G u X x1 (-1) σ49) ∧ ((σ49 4 0) = 0 → σ49 4 4 = ((u : Nat) : Int) ∧ MS G zm_T_squareAt 0 [zr G u, iZ z30, iZ z49] σ49 (fun v σ66 => ∃ z66 : Int, v = some (iZ z66) ∧ b_R_readSquare_73 G u X x1 z66 σ66)))) := fun s x1 z30 k pl eR hF f =>
    s_R_advance' hF ⟨rfl, hF.1.2.1, T4 s x1 z30 k pl eR hF f⟩
  have fr0 : ∀ s : zPH, yOc s T n u yRq (fun W _ => Q W) (fun W p1 => yNum T n 0 (W 0 0 - 1) (fun c W p2 => if ztK T n p2 ≠ 2 then yNo T n p2 else if ztV T n p2 < 0 ∨ W 0 1 - 1 < ztV T n p2 then .inr (2, (ztS T n p2 : Int)) else if W 1 (zqo c (ztV T n p2)) ≠ 0 then .inr (3, (ztS T n p1 : Int)) else g (zqo c (ztV T n p2)) W (ztE T n p2)) W p1) R → (∀ q, q ≠ 4 → s q = σ q) → (0 ≤ (s 4 3) ∧ (s 4 3) < 1601) ∧ ∀ x1 : Int, x1 = (s 11 (s 4 3).toNat) → s 4 4 = ((u : Nat) : Int) ∧ MS G zm_R_readNumber 2 [zr G 4, iZ 0, iZ ((s u 0) - 1)] s (fun v σ30 => ∃ z30 : Int, v = some (iZ z30) ∧ MS G zm_R_advance 0 [zr G 4] σ30 (fun v σ35 => v = none ∧ σ35 4 4 = ((u : Nat) : Int) ∧ MS G zm_R_readNumber 2 [zr G 4, iZ 0, iZ ((σ35 u 1) - 1)] σ35 (fun v σ49 => ∃ z49 : Int, v = some (iZ z49) ∧ (zI (σ49 4 0)) ∧ ((σ49 4 0) ≠ 0 → b_R_readSquare_73 G u X x1 (-1) σ49) ∧ ((σ49 4 0) = 0 → σ49 4 4 = ((u : Nat) : Int) ∧ MS G zm_T_squareAt 0 [zr G u, iZ z30, iZ z49] σ49 (fun v σ66 => ∃ z66 : Int, v = some (iZ z66) ∧ b_R_readSquare_73 G u X x1 z66 σ66))))) := by
    intro s h1 f1
    rcases h1 with ⟨W, p, e, hq, h1⟩ | ⟨k, pl, eR, hF⟩
    rotate_left
    · obtain ⟨a, c, ha, hlt, hk, ht, h16, e4, hp, i1, i2⟩ := hF.1.tk hT hn
      refine ⟨by omega, ?_⟩
      rintro x1 ex1
      exact ⟨hF.1.2.1, s_R_readNumber' hT hn ⟨by decide, (dims s hF.1.2.2.1).1⟩ hF (fun x hx => ⟨x, rfl, T3 s x1 x k pl eR hF f1⟩)⟩
    dsimp only at e
    have hoa := hQ W hq
    have hd := hoa.2.1.1
    obtain ⟨a, c, ha, hlt, hk, ht, h16, e4, hp, i1, i2⟩ := h1.1.tk hT hn
    have hz := h1.2.2.1
    rw [ht] at hz
    rw [hz] at e4 hp
    refine ⟨by omega, ?_⟩
    rw [ht, e4.2.2.1]
    rintro x1 rfl
    unfold yNum at e
    have d0 : s u 0 = W 0 0 := h1.2.2.2.1.1.1
    rw [d0]
    refine ⟨h1.1.2.1, s_R_readNumber hT hn (by omega) ⟨by decide, by omega⟩ h1 (fun q0 q1 q2 => ⟨_, rfl, ?_⟩) (fun q0 q1 s2 x hx F2 r2 => ⟨x, rfl, T3 s2 _ x 2 _ ?_ F2 (fun q a => by rw [r2 q a]; exact f1 q a)⟩) (fun q0 s2 x hx F2 r2 => ⟨x, rfl, T3 s2 _ x 1 _ ?_ F2 (fun q a => by rw [r2 q a]; exact f1 q a)⟩)⟩
    rotate_left
    · rw [if_neg (by omega), if_pos q1] at e; exact e.symm
    · rw [if_pos q0] at e; exact e.symm
    rw [if_neg (by omega), if_neg (by omega)] at e
    dsimp only at e
    have hE := (ztE_s (T := T) hp).2.1
    refine s_R_advance (hT := hT) hn (by omega) h1 (by omega) (fun s2 h2 f2 r2 => ⟨rfl, h2.1.2.1, ?_⟩)
    have d1 : s2 u 1 = W 0 1 := h2.2.2.2.1.1.2.1
    rw [d1]
    have F2 : ∀ q, q ≠ 4 → s2 q = σ q := fun q a => by rw [r2 q a]; exact f1 q a
    have h200 := h2.2.1.1
    refine s_R_readNumber hT hn (by omega) ⟨by decide, by omega⟩ h2 (fun q3 q4 q5 => ⟨_, rfl, by omega, fun y => absurd h200 y, fun _ => ⟨h2.1.2.1, ?_⟩⟩) (fun q3 q4 s3 x hx F3 r3 => ⟨x, rfl, ?_⟩) (fun q3 s3 x hx F3 r3 => ⟨x, rfl, ?_⟩)
    rotate_left
    · have e1 := F3.2.1
      refine ⟨by omega, fun _ => T5 s3 _ (-1) 2 _ (Or.inl rfl) ?_ F3 (fun q a => by rw [r3 q a]; exact F2 q a), fun y => by omega⟩
      rw [if_neg (by omega), if_pos q4] at e; exact e.symm
    · have e1 := F3.2.1
      refine ⟨by omega, fun _ => T5 s3 _ (-1) 1 _ (Or.inl rfl) ?_ F3 (fun q a => by rw [r3 q a]; exact F2 q a), fun y => by omega⟩
      rw [if_pos q3] at e; exact e.symm
    rw [if_neg (by omega), if_neg (by omega)] at e
    have hin : zin_ W (ztV T n p) (ztV T n (ztE T n p)) := ⟨by omega, by omega⟩
    have hva := (zqo_va hoa.1 hin).1
    have hlt := (zP_lt hoa.1 hva).2
    refine s_T_squareAt hu hoa.1 h2.2.2.2.1.1 (by omega) (by omega) (fun _ => ⟨_, rfl, ?_⟩) (fun y => absurd hin y)
    have htq := h2.2.2.2.1.2.2.1 _ hva
    have hr := h2.1.2.2.1.2.1 (zP W (zqo (ztV T n p) (ztV T n (ztE T n p))))
    refine ⟨by omega, fun y => by omega, fun _ => ⟨h2.1.2.1, by omega, ?_⟩⟩
    rw [Int.toNat_natCast]
    refine ⟨by omega, fun y => ?_, fun y => ?_⟩
    · have w1 : W 1 (zqo (ztV T n p) (ztV T n (ztE T n p))) = 0 := by
        by_cases v : W 1 (zqo (ztV T n p) (ztV T n (ztE T n p))) = 0
        · exact v
        · exact absurd y (htq.2 v).1
      rw [if_neg (fun v => v w1)] at e
      exact s_R_advance (hT := hT) hn (by omega) h2 (by omega) (fun s3 h3 f3 r3 => ⟨rfl, hX s3 _ (Or.inl ⟨W, _, _, e, hq, rfl, hva, w1, h3⟩) (fun q a => by rw [r3 q a]; exact F2 q a)⟩)
    · have w1 : W 1 (zqo (ztV T n p) (ztV T n (ztE T n p))) ≠ 0 := fun v => y (htq.1 v)
      rw [if_pos w1] at e
      exact s_R_refuse (by omega) h2.1 h200 (by decide) (fun s3 F3 f3 r3 => ⟨rfl, s_R_advance' F3 ⟨rfl, hX s3 _ (Or.inr ⟨3, _, e.symm, F3⟩) (fun q a => by rw [r3 q a]; exact F2 q a)⟩⟩)
  obtain ⟨W, p, e, hq, h⟩ | ⟨k, pl, e, h⟩ := h
  · refine k_R_readSquare hu (k_R_expect (s_R_isWord hT hn h (by decide) (fun q => Or.inr ⟨rfl, ?_⟩) (fun q => Or.inl ⟨rfl, ?_⟩)))
    · unfold ySq at e
      rw [yEx_y q] at e
      exact s_R_advance (hT := hT) hn (by omega) h (by have := q.1; omega) (fun s1 h1 f1 r1 => ⟨rfl, rfl, fr0 s1 (Or.inl ⟨W, _, e, hq, h1⟩) r1⟩)
    · unfold ySq at e
      rw [yEx_n q] at e
      obtain ⟨a, c, ha, hlt, hk, ht, h16, e4, hp, i1, i2⟩ := h.1.tk hT hn
      have hz := h.2.2.1
      rw [ht] at hz
      rw [hz] at e4
      refine k_R_refuseToken ⟨by omega, ?_⟩
      rw [ht, e4.2.2.2]
      exact s_R_refuse (by omega) h.1 h.2.1.1 (by decide) (fun s1 F1 f1 r1 => ⟨rfl, rfl, rfl, fr0 s1 (Or.inr ⟨1, _, e.symm, F1⟩) r1⟩)
  · exact k_R_readSquare hu (k_R_expect (s_R_isWord' h (Or.inl ⟨rfl, s_R_refuseToken' hT hn h ⟨rfl, rfl, fr0 σ (Or.inr ⟨k, pl, e, h⟩) (fun _ _ => rfl)⟩⟩)))
end RS
