theorem zWd_sh {E W : Int} (hE : 0 ≤ E) (h : zWd E W) : zWd (E / 27) (W / 256) := by
  obtain ⟨h0, h⟩ := h
  refine ⟨by omega, fun j => ?_⟩
  have a := h (j + 1)
  rw [Int.ediv_ediv_of_nonneg (by decide), Int.ediv_ediv_of_nonneg (by decide), ← show (27 : Int) ^ (j + 1) = 27 * 27 ^ j by rw [Int.pow_succ]; exact Int.mul_comm _ _, ← show (256 : Int) ^ (j + 1) = 256 * 256 ^ j by rw [Int.pow_succ]; exact Int.mul_comm _ _]
  exact a
theorem zWd_iff : ∀ (k : Nat) {E E' W W' : Int}, 0 ≤ E → E < 27 ^ k → 0 ≤ E' → E' < 27 ^ k → zWd E W → zWd E' W' → (W = W' ↔ E = E') := by
  intro k
  induction k with
  | zero =>
    intro E E' W W' h1 h2 h3 h4 h5 h6
    have a := (h5.2 0).1
    have b := (h6.2 0).1
    have := h5.1
    have := h6.1
    simp only [Int.pow_zero, Int.ediv_one] at a b h2 h4
    have e1 : E = 0 := by omega
    have e2 : E' = 0 := by omega
    have := a.mp e1
    have := b.mp e2
    omega
  | succ k ih =>
    intro E E' W W' h1 h2 h3 h4 h5 h6
    have a := (h5.2 0)
    have b := (h6.2 0)
    simp only [Int.pow_zero, Int.ediv_one] at a b
    have n5 := h5.1
    have n6 := h6.1
    rw [Int.pow_succ] at h2 h4
    have i := ih (E := E / 27) (E' := E' / 27) (by omega) (by omega) (by omega) (by omega) (zWd_sh h1 h5) (zWd_sh h3 h6)
    constructor
    · intro e
      subst e
      by_cases z : E = 0
      · have := a.1.mp z
        have := b.1.mpr this
        omega
      · have hz : ¬ E' = 0 := fun y => z (a.1.mpr (b.1.mp y))
        have := i.mp rfl
        have := a.2 z
        have := b.2 hz
        omega
    · intro e
      subst e
      by_cases z : E = 0
      · have := a.1.mp z
        have := b.1.mp z
        omega
      · have := i.mpr rfl
        have := a.2 z
        have := b.2 z
        omega
theorem yeN_hit {W : zPH} {e : Int} {k : Nat} (h : yeN W e k = -1) (he : W 20 k = e) : ∀ m, k < m → yeN W e m = (k : Int) := by
  intro m
  induction m with
  | zero => intro h; omega
  | succ m ih =>
    intro hm
    unfold yeN
    by_cases q : k = m
    · subst q; rw [if_neg (fun z => z h), if_pos he]
    · rw [ih (by omega), if_pos (by omega)]
/-- names of eyes -/
def yNr (W : zPH) : Prop := ∀ e : Nat, (e : Int) < W 0 5 → 0 ≤ W 20 e ∧ W 20 e < 387420489
section MQ
variable {G : zG} {σ : zPH} {X : zX} {T : Nat → Int} {n i g : Nat} {P : zPH → Prop} {R : zPR}
theorem s_M_eyeOf {W : zPH} {w v : Int} (hi : σ 58 35 = (i : Int) ∧ i ≤ 1) (h66 : σ 66 i = W 0 5) (h5 : 0 ≤ W 0 5 ∧ W 0 5 ≤ 8) (hn : ∀ e : Nat, (e : Int) < W 0 5 → zWd (W 20 e) (σ 71 (8 * i + e))) (hr : yNr W) (hw : zWd v w) (hv : 0 ≤ v ∧ v < 387420489) (hJ : zJ w) (hX : X (some (iZ (yeN W v (W 0 5).toNat))) σ) : MS G zm_M_eyeOf 0 [zr G 58, lZ w] σ X := by
  have hi35 : (i : Int).toNat = i := Int.toNat_natCast i
  refine k_M_eyeOf ?_
  refine zLP1_ind (fun x s => s = σ ∧ ∃ k : Nat, x = (k : Int) ∧ (k : Int) ≤ W 0 5 ∧ yeN W v k = -1) (fun x _ => (W 0 5 - x).toNat) ?_ ⟨rfl, 0, rfl, h5.1, rfl⟩
  rintro K x s ⟨rfl, k, rfl, hk, hy⟩ hK
  unfold b_M_eyeOf_2
  rw [hi.1, hi35, h66]
  refine ⟨by omega, by omega, fun z => ?_, fun z => ⟨by omega, ?_⟩⟩
  · have : k = (W 0 5).toNat := by omega
    rw [← this, hy] at hX; exact hX
  · rw [show (8 * (i : Int) + (k : Int)).toNat = 8 * i + k by omega]
    have hn' := hn k z
    have hr' := hr k z
    have iff := zWd_iff 6 hr'.1 (by omega) hv.1 (by omega) hn' hw
    have h6 : s 71 (8 * i + k) < 256 ^ 6 := by
      have a := (hn'.2 6).1.mp (by omega)
      have := hn'.1
      omega
    refine ⟨⟨by have := hn'.1; omega, hJ⟩, fun y => hK _ _ ⟨rfl, k + 1, by omega, by omega, ?_⟩ (by omega), fun y => ?_⟩
    · unfold yeN
      rw [if_neg (fun u => u hy), if_neg (fun u => y (iff.mpr u))]
    · have := yeN_hit hy (iff.mp y) (W 0 5).toNat (by omega)
      rw [this] at hX; exact hX
theorem zOk_inc {σ' : zPH} {f : zPH → Nat → zPR} (h : zOk σ T n i g P f R) (hg : 2 ≤ g ∧ g ≤ 5) (e : σ' = zupd σ (61 + g) i (σ (61 + g) i + 1)) : zOk σ' T n i 8 P f R := by
  have k : σ' 58 = σ 58 := by rw [e, zupd_row (by omega)]
  have r : ∀ q, q ≠ 61 + g → σ' q = σ q := fun q hq => by rw [e, zupd_row hq]
  obtain ⟨hi, ⟨W, p, a, b, S⟩ | ⟨kk, pl, y, ft⟩⟩ := h
  · obtain ⟨s1, s2, s3, s4, s5⟩ := S
    exact ⟨by rw [k]; exact hi, Or.inl ⟨W, p, a, b, s1, s2.to (r 59 (by omega)) (fun q _ _ => by rw [k]), s3.to (fun q _ => r q (by omega)) (by rw [k]), zbw_inc s4 hg e, s5⟩⟩
  · unfold zOk zFt zmFt
    rw [k]; exact ⟨hi, Or.inr ⟨kk, pl, y, ft⟩⟩
theorem s_M_lampO {W : zPH} {p : Nat} (S : yRd σ T n i 8 W p) (hi : σ 58 35 = (i : Int) ∧ i ≤ 1) (hW : yWm W) (e : R = if 8 ≤ W 0 2 then .inr (5, (ztS T n p : Int)) else yCh T n 12 15 (fun c => yCh T n 16 19 (fun w => ySq T n (fun q W p => .inl (yput W 1 (yco c) w q, p)))) W (ztE T n p)) (hX : ∀ σ', zOk σ' T n i 8 (fun _ => True) yid R → zfp i σ σ' → X none σ') : MS G zm_M_lamp 5 [zr G 58] σ X := by
  have hi35 : (i : Int).toNat = i := Int.toNat_natCast i
  have hc : σ 63 i = W 0 2 := by have := S.2.2.2.1.1.2.2.2.1; rw [if_neg (by decide)] at this; omega
  have hm := hW.2.1
  refine k_M_lamp ?_
  unfold w_M_lamp
  rw [hi.1, hi35, hc]
  refine ⟨by omega, s_M_countsO (P := fun W => yWm W ∧ W 0 2 < 8) _ S hi (by omega) ⟨by omega, by decide⟩ e yst_ch (fun z => ⟨hW, z⟩) (fun σ1 h1 f1 => ⟨rfl, ?_⟩)⟩
  refine s_M_colourO (fun x => yCh T n 16 19 (fun w => ySq T n (fun q W p => .inl (yput W 1 x w q, p)))) h1 (fun _ => yst_ch) (fun σ2 c h2 f2 => ⟨c, rfl, ?_⟩)
  refine s_M_waysO _ h2 (fun _ => yst_sq) (fun σ3 w h3 f3 => ⟨w, rfl, ?_⟩)
  rw [h3.1.1, hi35]
  refine ⟨by omega, s_M_placeO (by decide) h3 (fun _ => rfl) rfl (fun W' hP hb => ⟨hP.1, ?_, fun z => absurd z (by decide), fun z => absurd z (by decide)⟩) (fun z => absurd z (by decide)) (fun σ4 h4 f4 => ⟨rfl, ?_⟩)⟩
  · rw [if_neg (by decide), hb.1.2.2.2.1, if_neg (by decide), show ygr 1 = 2 from rfl]; omega
  rw [h4.1.1, hi35]
  refine ⟨by omega, by omega, ?_⟩
  rintro σ5 e5
  exact hX σ5 (zOk_inc h4 (by decide) e5) ((((f1.trans f2).trans f3).trans f4).u e5 (by rw [show zbk 63 = 1 from rfl]; omega))
theorem s_M_mirrorO {W : zPH} {p : Nat} {s : Int} (hs : s = 2 ∨ s = 3) (S : yRd σ T n i 8 W p) (hi : σ 58 35 = (i : Int) ∧ i ≤ 1) (hW : yWm W) (e : R = if 8 ≤ W 0 3 then .inr (5, (ztS T n p : Int)) else yCh T n 20 21 (fun f => ySq T n (fun q W p => .inl (yput W s f (-1) q, p))) W (ztE T n p)) (hX : ∀ σ', zOk σ' T n i 8 (fun _ => True) yid R → zfp i σ σ' → X none σ') : MS G zm_M_mirror 5 [zr G 58, iZ s] σ X := by
  have hi35 : (i : Int).toNat = i := Int.toNat_natCast i
  have hc : σ 64 i = W 0 3 := by have := S.2.2.2.1.1.2.2.2.2.1; rw [if_neg (by decide)] at this; omega
  have hm := hW.2.1
  have hg : ygr s = 3 := by unfold ygr; rw [if_neg (by omega), if_pos hs]
  refine k_M_mirror ?_
  unfold w_M_mirror
  rw [hi.1, hi35, hc]
  refine ⟨by omega, s_M_countsO (P := fun W => yWm W ∧ W 0 3 < 8) _ S hi (by omega) ⟨by omega, by decide⟩ e yst_ch (fun z => ⟨hW, z⟩) (fun σ1 h1 f1 => ⟨rfl, ?_⟩)⟩
  refine s_M_formsO _ h1 (fun _ => yst_sq) (fun σ3 w h3 f3 => ⟨w, rfl, ?_⟩)
  rw [h3.1.1, hi35]
  refine ⟨by omega, s_M_placeO (by omega) h3 (fun _ => rfl) rfl (fun W' hP hb => ⟨hP.1, ?_, fun z => by omega, fun z => by omega⟩) (fun z => by omega) (fun σ4 h4 f4 => ⟨rfl, ?_⟩)⟩
  · rw [hg, if_neg (by decide), hb.1.2.2.2.2.1, if_neg (by decide)]; omega
  rw [h4.1.1, hi35]
  refine ⟨by omega, by omega, ?_⟩
  rintro σ5 e5
  rw [hg] at h4
  exact hX σ5 (zOk_inc h4 (by decide) e5) (((f1.trans f3).trans f4).u e5 (by rw [show zbk 64 = 1 from rfl]; omega))
end MQ
