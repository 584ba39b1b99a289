/-- from p on the text is l -/
def xAt (T : Nat → Int) (n p : Nat) (l : List Int) : Prop := p + l.length ≤ n ∧ ∀ j, j < l.length → T (p + j) = l.getD j 0
theorem xAt_app {T : Nat → Int} {n p : Nat} {a b : List Int} (h : xAt T n p (a ++ b)) : xAt T n p a ∧ xAt T n (p + a.length) b := by
  obtain ⟨h1, h2⟩ := h
  rw [List.length_append] at h1 h2
  refine ⟨⟨by omega, fun j hj => ?_⟩, by omega, fun j hj => ?_⟩
  · rw [h2 j (by omega)]; simp [List.getD, List.getElem?_append_left hj]
  · rw [show p + a.length + j = p + (a.length + j) by omega, h2 (a.length + j) (by omega)]
    simp only [List.getD]
    rw [List.getElem?_append_right (by omega), Nat.add_sub_cancel_left]
theorem xAt_cons {T : Nat → Int} {n p : Nat} {c : Int} {b : List Int} (h : xAt T n p (c :: b)) : (p < n ∧ T p = c) ∧ xAt T n (p + 1) b := by
  obtain ⟨h1, h2⟩ := xAt_app (a := [c]) (b := b) h
  have := h1.2 0 (by simp)
  have h3 := h1.1
  simp at this h3
  exact ⟨⟨by omega, by simpa using this⟩, h2⟩
theorem zpkw_congr {T T' : Nat → Int} {s s' : Nat} : ∀ {k : Nat}, (∀ j, j < k → T (s + j) = T' (s' + j)) → zpkw T s k = zpkw T' s' k
  | 0, _ => rfl
  | k + 1, h => by simp only [zpkw]; rw [zpkw_congr (fun j hj => h j (by omega)), h k (by omega)]
theorem zpkn_congr {T T' : Nat → Int} {s s' : Nat} : ∀ {k : Nat}, (∀ j, j < k → T (s + j) = T' (s' + j)) → zpkn T s k = zpkn T' s' k
  | 0, _ => rfl
  | k + 1, h => by simp only [zpkn]; rw [zpkn_congr (fun j hj => h j (by omega)), h k (by omega)]
def xPw (l : List Int) : Int := zpkw (fun j => l.getD j 0) 0 l.length
def xPn (l : List Int) : Int := zpkn (fun j => l.getD j 0) 0 l.length
def xTok (T : Nat → Int) (n p : Nat) (k v : Int) (e : Nat) : Prop := ztK T n p = k ∧ ztV T n p = v ∧ ztE T n p = e
/-- where a token starts: a blank or none ahead -/
theorem xtk_s {T : Nat → Int} {n p : Nat} {bl l : List Int} {c : Int} (hb : bl = [] ∨ bl = [32]) (hc : c ≠ 32 ∧ c ≠ 10) (h : xAt T n p (bl ++ c :: l)) : ztS T n p = p + bl.length := by
  obtain ⟨h1, h2⟩ := xAt_app h
  obtain ⟨⟨h3, h4⟩, -⟩ := xAt_cons h2
  unfold ztS
  refine zrE_u ⟨by omega, by omega⟩ (fun k q1 q2 => ?_) (fun _ q => ?_)
  · rcases hb with rfl | rfl
    · simp at q2; omega
    · have h5 := (xAt_cons h1).1.2
      simp at q2
      obtain rfl : k = p := by omega
      rw [h5]; rfl
  · rw [h4] at q
    rcases zblB_t.mp q with q | q
    · exact hc.1 q
    · exact hc.2 q
theorem xtk_m {T : Nat → Int} {n p : Nat} {bl l : List Int} (hb : bl = [] ∧ (p = 0 ∨ T (p - 1) = 59) ∨ bl = [32]) (h : xAt T n p (bl ++ l)) : ztM T (p + bl.length) = false := by
  unfold ztM
  rcases hb with ⟨rfl, rfl | hp⟩ | rfl
  · rfl
  · rw [List.length_nil, Nat.add_zero, hp]
    simp [zleB, zdiB]
  · have h5 := (xAt_cons h).1.2
    rw [List.length_singleton, Nat.add_sub_cancel, h5]
    simp [zleB, zdiB]
/-- a word: where it ends -/
theorem xtk_e {T : Nat → Int} {n p : Nat} {bl wd l : List Int} {c : Int} (hb : bl = [] ∨ bl = [32]) (hw : ∀ j, j < wd.length → 97 ≤ wd.getD j 0 ∧ wd.getD j 0 ≤ 122) (h0 : 0 < wd.length) (hc : c = 32 ∨ c = 59) (h : xAt T n p (bl ++ (wd ++ c :: l))) : (ztS T n p = p + bl.length ∧ ztE T n p = p + bl.length + wd.length) ∧ (∀ j, j < wd.length → T (p + bl.length + j) = wd.getD j 0) ∧ (p + bl.length + wd.length < n ∧ zleB (T (p + bl.length)) = true) ∧ xAt T n (p + bl.length + wd.length) (c :: l) := by
  have e1 : ∃ x wd', wd = x :: wd' := by cases wd with
    | nil => simp at h0
    | cons x wd' => exact ⟨x, wd', rfl⟩
  have hs : ztS T n p = p + bl.length := by
    obtain ⟨x, wd', rfl⟩ := e1
    have := hw 0 h0
    simp at this
    exact xtk_s hb ⟨by omega, by omega⟩ h
  obtain ⟨h1, h2⟩ := xAt_app h
  obtain ⟨h3, h4⟩ := xAt_app h2
  obtain ⟨⟨h5, h6⟩, -⟩ := xAt_cons h4
  have hl : zleB (T (p + bl.length)) = true := by
    have := h3.2 0 h0
    rw [Nat.add_zero] at this
    rw [this]
    exact zleB_t.mpr (hw 0 h0)
  refine ⟨⟨hs, ?_⟩, h3.2, ⟨h5, hl⟩, h4⟩
  unfold ztE
  rw [hs, if_neg (by omega), if_pos hl]
  refine zrE_u ⟨by omega, by omega⟩ (fun k q1 q2 => ?_) (fun _ q => ?_)
  · obtain ⟨j, rfl⟩ : ∃ j, k = p + bl.length + j := ⟨k - (p + bl.length), by omega⟩
    rw [h3.2 j (by omega)]
    exact zleB_t.mpr (hw j (by omega))
  · rw [h6] at q
    have := zleB_t.mp q
    omega
theorem xtk_w {T : Nat → Int} {n p : Nat} {bl wd l : List Int} {c v : Int} (hb : bl = [] ∧ (p = 0 ∨ T (p - 1) = 59) ∨ bl = [32]) (hw : ∀ j, j < wd.length → 97 ≤ wd.getD j 0 ∧ wd.getD j 0 ≤ 122) (h0 : 0 < wd.length) (hc : c = 32 ∨ c = 59) (hv : zow (xPw wd) = v ∧ v ≠ -1) (h : xAt T n p (bl ++ (wd ++ c :: l))) : xTok T n p 0 v (p + bl.length + wd.length) ∧ xAt T n (p + bl.length + wd.length) (c :: l) := by
  obtain ⟨⟨hs, he⟩, ht, ⟨hn, hl⟩, hr⟩ := xtk_e (hb.imp (·.1) id) hw h0 hc h
  have hm := xtk_m hb h
  have hz : zpkw T (p + bl.length) wd.length = xPw wd := zpkw_congr (fun j hj => by rw [ht j hj, Nat.zero_add])
  have hk : ztK T n p = 0 := by
    unfold ztK
    rw [hs, he, if_neg (by omega), if_pos hl, hm, if_neg (by decide), Nat.add_sub_cancel_left, hz, hv.1, if_pos hv.2]
  refine ⟨⟨hk, ?_, he⟩, hr⟩
  unfold ztV
  rw [if_pos hk, hs, he, Nat.add_sub_cancel_left, hz, hv.1]
theorem xtk_n {T : Nat → Int} {n p : Nat} {wd l : List Int} {c v : Int} (hw : ∀ j, j < wd.length → 97 ≤ wd.getD j 0 ∧ wd.getD j 0 ≤ 122) (h0 : 0 < wd.length ∧ wd.length ≤ 6) (hc : c = 32 ∨ c = 59) (hv : zow (xPw wd) = -1) (hn : xPn wd = v) (h : xAt T n p ([32] ++ (wd ++ c :: l))) : xTok T n p 1 v (p + 1 + wd.length) ∧ xAt T n (p + 1 + wd.length) (c :: l) := by
  obtain ⟨⟨hs, he⟩, ht, ⟨hn', hl⟩, hr⟩ := xtk_e (Or.inr rfl) hw h0.1 hc h
  have hm := xtk_m (Or.inr rfl) h
  rw [List.length_singleton] at hs he ht hl hr hm
  have hz : zpkw T (p + 1) wd.length = xPw wd := zpkw_congr (fun j hj => by rw [ht j hj, Nat.zero_add])
  have hz2 : zpkn T (p + 1) wd.length = xPn wd := zpkn_congr (fun j hj => by rw [ht j hj, Nat.zero_add])
  have hk : ztK T n p = 1 := by
    unfold ztK
    rw [hs, he, if_neg (by rw [List.length_singleton] at hn'; omega), if_pos hl, hm, if_neg (by decide), Nat.add_sub_cancel_left, hz, hv, if_neg (by decide), if_neg (by omega)]
  refine ⟨⟨hk, ?_, he⟩, hr⟩
  unfold ztV
  rw [if_neg (by rw [hk]; decide), if_pos hk, hs, he, Nat.add_sub_cancel_left, hz2, hn]
theorem xtk_d {T : Nat → Int} {n p : Nat} {l : List Int} {x c : Int} (hx : 0 ≤ x ∧ x < 10) (hc : c = 32 ∨ c = 59) (h : xAt T n p ([32] ++ (48 + x) :: c :: l)) : xTok T n p 2 x (p + 2) ∧ xAt T n (p + 2) (c :: l) := by
  have hs := xtk_s (Or.inr rfl) ⟨by omega, by omega⟩ h
  have hm := xtk_m (Or.inr rfl) h
  rw [List.length_singleton] at hs hm
  obtain ⟨-, h2⟩ := xAt_app h
  rw [List.length_singleton] at h2
  obtain ⟨⟨h3, h4⟩, h5⟩ := xAt_cons h2
  have h7 := h5
  obtain ⟨⟨h6, h8⟩, -⟩ := xAt_cons h5
  have hle : ¬ zleB (T (p + 1)) = true := by rw [h4]; intro q; have := zleB_t.mp q; omega
  have hdi : zdiB (T (p + 1)) = true := by rw [h4]; exact zdiB_t.mpr (by omega)
  have he : ztE T n p = p + 2 := by
    unfold ztE
    rw [hs, if_neg (by omega), if_neg hle, if_pos hdi]
    refine zrE_u ⟨by omega, by omega⟩ (fun k q1 q2 => ?_) (fun _ q => ?_)
    · obtain rfl : k = p + 1 := by omega
      exact hdi
    · rw [show p + 2 = p + 1 + 1 from rfl, h8] at q
      have := zdiB_t.mp q
      omega
  have hk : ztK T n p = 2 := by
    unfold ztK
    rw [hs, he, if_neg (by omega), if_neg hle, if_pos hdi, hm, if_neg (by decide), if_neg (by omega)]
  refine ⟨⟨hk, ?_, he⟩, h7⟩
  unfold ztV
  rw [if_neg (by rw [hk]; decide), if_neg (by rw [hk]; decide), if_pos hk, hs, he, show p + 2 - (p + 1) = 1 by omega]
  simp only [zpkd, Nat.add_zero, h4]
  omega
theorem xtk_c {T : Nat → Int} {n p : Nat} {l : List Int} (h : xAt T n p (59 :: l)) : xTok T n p 3 59 (p + 1) ∧ (xAt T n (p + 1) l ∧ T p = 59) := by
  have hs := xtk_s (bl := []) (Or.inl rfl) ⟨by decide, by decide⟩ h
  rw [List.length_nil, Nat.add_zero] at hs
  obtain ⟨⟨h3, h4⟩, h5⟩ := xAt_cons h
  have hle : ¬ zleB (T p) = true := by rw [h4]; decide
  have hdi : ¬ zdiB (T p) = true := by rw [h4]; decide
  have hk : ztK T n p = 3 := by
    unfold ztK
    rw [hs, if_neg (by omega), if_neg hle, if_neg hdi]
  refine ⟨⟨hk, ?_, ?_⟩, h5, h4⟩
  · unfold ztV
    rw [if_neg (by rw [hk]; decide), if_neg (by rw [hk]; decide), if_neg (by rw [hk]; decide), if_pos hk, hs, h4]
  · unfold ztE
    rw [hs, if_neg (by omega), if_neg hle, if_neg hdi]
theorem xtk_end {T : Nat → Int} {n : Nat} : ztK T n n = 4 := by
  have hs : ztS T n n = n := by unfold ztS zrE; rw [Nat.sub_self]; rfl
  unfold ztK
  rw [hs, if_pos (Nat.le_refl _)]
/-! steps of the reading -/
theorem yx_Ex {T : Nat → Int} {n p e : Nat} {k v : Int} {W : zPH} (h : xTok T n p k v e) : yEx T n k v W p = .inl (W, e) := by
  unfold yEx
  rw [if_pos ⟨h.1, h.2.1⟩, h.2.2]
theorem yx_Num {T : Nat → Int} {n p e : Nat} {lo hi v : Int} {W : zPH} {f : Int → zPH → Nat → zPR} (h : xTok T n p 2 v e) (hv : lo ≤ v ∧ v ≤ hi) : yNum T n lo hi f W p = f v W e := by
  unfold yNum
  rw [h.1, h.2.1, h.2.2, if_neg (by decide), if_neg (by omega)]
theorem yx_Ch {T : Nat → Int} {n p e : Nat} {a b v : Int} {W : zPH} {f : Int → zPH → Nat → zPR} (h : xTok T n p 0 v e) (hv : a ≤ v ∧ v ≤ b) : yCh T n a b f W p = f (v - a) W e := by
  unfold yCh
  rw [h.1, h.2.1, h.2.2, if_pos ⟨rfl, hv.1, hv.2⟩]
/-- the words -/
def xaT : List Int := [97, 116]
/-- at x y ; -/
def xTail (x y : Int) : List Int := [32] ++ (xaT ++ ([32] ++ (48 + x) :: ([32] ++ (48 + y) :: [59])))
theorem yx_Sq {T : Nat → Int} {n p : Nat} {x y : Int} {l : List Int} {W : zPH} {f : Nat → zPH → Nat → zPR} (hx : 0 ≤ x ∧ x < 10) (hy : 0 ≤ y ∧ y < 10) (hx2 : x ≤ W 0 0 - 1) (hy2 : y ≤ W 0 1 - 1) (hq : W 1 (zqo x y) = 0) (h : xAt T n p (xTail x y ++ l)) : ySq T n f W p = f (zqo x y) W (p + 7) ∧ xAt T n (p + 7) (59 :: l) := by
  have h : xAt T n p ([32] ++ (xaT ++ 32 :: ((48 + x) :: ([32] ++ (48 + y) :: (59 :: l))))) := h
  obtain ⟨t1, h1⟩ := xtk_w (v := 10) (Or.inr rfl) (by decide) (by decide) (Or.inl rfl) (by decide +kernel) h
  obtain ⟨t2, h2⟩ := xtk_d (l := (48 + y) :: (59 :: l)) hx (Or.inl rfl) h1
  obtain ⟨t3, h3⟩ := xtk_d (l := l) hy (Or.inr rfl) h2
  refine ⟨?_, h3⟩
  unfold ySq
  rw [yx_Ex t1]
  simp only [ybn]
  rw [yx_Num t2 ⟨hx.1, hx2⟩]
  show (if ztK T n _ ≠ 2 then _ else _) = _
  rw [t3.1, if_neg (by decide), t3.2.1, t3.2.2, if_neg (by omega), if_neg (by rw [hq]; decide)]
  rfl
theorem yx_end {T : Nat → Int} {n p : Nat} {W : zPH} {l : List Int} (h : xAt T n p (59 :: l)) : yEx T n 3 59 W p = .inl (W, p + 1) ∧ xAt T n (p + 1) l ∧ T p = 59 := ⟨yx_Ex (xtk_c h).1, (xtk_c h).2⟩
theorem xNb {bl : List Int} {p : Nat} {T : Nat → Int} (h : p = 0 ∨ T (p - 1) = 59) : ([] : List Int) = [] ∧ (p = 0 ∨ T (p - 1) = 59) ∨ ([] : List Int) = [32] := Or.inl ⟨rfl, h⟩
/-! the words' packed numbers -/
theorem xwd_ok : (∀ i : Fin 23, 17 ≤ i.val ∨ (3 ≤ i.val ∧ i.val ≤ 6) → (∀ j, j < (xTxt i.val).length → 97 ≤ (xTxt i.val).getD j 0 ∧ (xTxt i.val).getD j 0 ≤ 122) ∧ 0 < (xTxt i.val).length) := by decide +kernel
theorem xwd_let {i : Nat} (h : i < 23) (q : 17 ≤ i ∨ (3 ≤ i ∧ i ≤ 6)) : (∀ j, j < (xTxt i).length → 97 ≤ (xTxt i).getD j 0 ∧ (xTxt i).getD j 0 ≤ 122) ∧ 0 < (xTxt i).length := xwd_ok ⟨i, h⟩ q
theorem xwd_v : (∀ i : Fin 23, 17 ≤ i.val → zow (xPw (xTxt i.val)) = (i.val : Int) - 1) ∧ ∀ i : Fin 23, 3 ≤ i.val ∧ i.val ≤ 6 → zow (xPw (xTxt i.val)) = (i.val : Int) + 9 := by decide +kernel
/-- a piece's own word and what stands behind it -/
def xOwn (S : Int) : List Int := if S = 1 then [108, 97, 109, 112] else if S = 2 then [109, 105, 114, 114, 111, 114] else if S = 3 then [104, 97, 108, 102] else if S = 4 then [103, 108, 97, 115, 115] else if S = 5 then [112, 114, 105, 115, 109] else if S = 6 then [119, 97, 108, 108] else [101, 121, 101]
def xArg (S A W e : Int) : List Int := if S = 1 then [32] ++ (xTxt (xCol A) ++ ([32] ++ xTxt (17 + W.toNat))) else if S = 2 ∨ S = 3 then [32] ++ xTxt (21 + A.toNat) else if S = 4 then [32] ++ xTxt (xCol A) else if S = 5 ∨ S = 6 then [] else [32] ++ [101, 97 + e]
def xPiece (w : Int) (i : Nat) (S A W e : Int) : List Int := xOwn S ++ (xArg S A W e ++ xTail ((i : Int) % w) ((i : Int) / w))
theorem xT16 : xTxt 16 = [32] ++ (xaT ++ [32]) := by decide +kernel
theorem xA303_e (w : Int) (i : Nat) (t : List Int) : xA303 w i t = t ++ xTail ((i : Int) % w) ((i : Int) / w) := by
  unfold xA303 xTail
  rw [xT16]
  simp only [List.append_assoc, List.singleton_append, List.cons_append, List.nil_append]
theorem xA62_e (w : Int) (i : Nat) (S A W e : Int) (t : List Int) (hS : 1 ≤ S ∧ S ≤ 7) : xA62 w i S A W e t = t ++ xPiece w i S A W e := by
  have e2 : xTxt 2 = [108, 97, 109, 112] ++ [32] := by decide +kernel
  have e7 : xTxt 7 = [109, 105, 114, 114, 111, 114] ++ [32] := by decide +kernel
  have e8 : xTxt 8 = [104, 97, 108, 102] ++ [32] := by decide +kernel
  have e9 : xTxt 9 = [103, 108, 97, 115, 115] ++ [32] := by decide +kernel
  have e10 : xTxt 10 = [112, 114, 105, 115, 109] := by decide +kernel
  have e11 : xTxt 11 = [119, 97, 108, 108] := by decide +kernel
  have e12 : xTxt 12 = [101, 121, 101] ++ ([32] ++ [101]) := by decide +kernel
  rcases (show S = 1 ∨ S = 2 ∨ S = 3 ∨ S = 4 ∨ S = 5 ∨ S = 6 ∨ S = 7 by omega) with rfl | rfl | rfl | rfl | rfl | rfl | rfl
  all_goals
    simp only [xA62, xA106, xA150, xA176, xA208, xA303_e, xPiece, xOwn, xArg, e2, e7, e8, e9, e10, e11, e12]
    simp [List.append_assoc]
/-- a piece's form: a colour, a form, none -/
def xForm (S A : Int) : Int := if S ≤ 4 then A else -1
def xWay (S W : Int) : Int := if S = 1 then W else -1
theorem xPw_eye : ∀ e : Fin 24, zow (xPw [101, 97 + (e.val : Int)]) = -1 ∧ xPn [101, 97 + (e.val : Int)] = 136 + (e.val : Int) := by decide +kernel
set_option maxHeartbeats 2000000 in
/-- one statement is read -/
theorem yx_Stmt {T : Nat → Int} {n p : Nat} {w : Int} {i : Nat} {S A Wy : Int} {e : Nat} {l : List Int} {W : zPH} (hp : p = 0 ∨ T (p - 1) = 59) (hS : 1 ≤ S ∧ S ≤ 7) (hA14 : S = 1 ∨ S = 4 → A = 1 ∨ A = 2 ∨ A = 4 ∨ A = 7) (hA23 : S = 2 ∨ S = 3 → A = 0 ∨ A = 1) (hW : 0 ≤ Wy ∧ Wy < 4)
    (he : e < 8) (hx : 0 ≤ (i : Int) % w ∧ (i : Int) % w < 10 ∧ (i : Int) % w ≤ W 0 0 - 1) (hy : 0 ≤ (i : Int) / w ∧ (i : Int) / w < 10 ∧ (i : Int) / w ≤ W 0 1 - 1) (hq : W 1 (zqo ((i : Int) % w) ((i : Int) / w)) = 0) (hm : ygr S ≠ 8 → W 0 (ygr S) < ymx (ygr S)) (h5 : W 0 5 = (e : Int)) (hN : S = 7 → yeN W (136 + (e : Int)) e = -1) (h : xAt T n p (xPiece w i S A Wy e ++ l)) :
    ∃ p', ybn (yPiece T n W p) (yEx T n 3 59) = .inl (yput (if S = 7 then zupd W 20 e (136 + (e : Int)) else W) S (xForm S A) (xWay S Wy) (zqo ((i : Int) % w) ((i : Int) / w)), p') ∧ xAt T n p' l ∧ p' = p + (xPiece w i S A Wy e).length ∧ T (p' - 1) = 59 := by
  have hcA : S = 1 ∨ S = 4 → yco (((xCol A : Nat) : Int) + 9 - 12) = A ∧ 3 ≤ xCol A ∧ xCol A ≤ 6 := fun q => by rcases hA14 q with rfl | rfl | rfl | rfl <;> decide
  have hmx : ¬ (ygr S ≠ 8 ∧ ymx (ygr S) ≤ W 0 (ygr S)) := fun q => by have := hm q.1; omega
  have hlen : (xTail ((i : Int) % w) ((i : Int) / w)).length = 8 := rfl
  have key : ∀ {p1 : Nat} {W1 : zPH} {F : Nat → zPH → Nat → zPR} {R : zPH}, W1 0 0 = W 0 0 → W1 0 1 = W 0 1 → W1 1 = W 1 → (∀ p2, F (zqo ((i : Int) % w) ((i : Int) / w)) W1 p2 = .inl (R, p2)) → xAt T n p1 (xTail ((i : Int) % w) ((i : Int) / w) ++ l) → p1 + 8 = p + (xPiece w i S A Wy e).length →
      ∃ p', ybn (ySq T n F W1 p1) (yEx T n 3 59) = .inl (R, p') ∧ xAt T n p' l ∧ p' = p + (xPiece w i S A Wy e).length ∧ T (p' - 1) = 59 := by
    intro p1 W1 F R c1 c2 c3 hF h1 hp1
    obtain ⟨s1, h2⟩ := yx_Sq (f := F) (W := W1) ⟨hx.1, hx.2.1⟩ ⟨hy.1, hy.2.1⟩ (by rw [c1]; exact hx.2.2) (by rw [c2]; exact hy.2.2) (by rw [c3]; exact hq) h1
    obtain ⟨s2, h3, h4⟩ := yx_end (W := R) h2
    refine ⟨p1 + 7 + 1, ?_, h3, by omega, h4⟩
    rw [s1, hF]
    exact s2
  unfold xPiece at h key
  rcases (show S = 1 ∨ S = 2 ∨ S = 3 ∨ S = 4 ∨ S = 5 ∨ S = 6 ∨ S = 7 by omega) with rfl | rfl | rfl | rfl | rfl | rfl | rfl
  · obtain ⟨hc1, hc2, hc3⟩ := hcA (Or.inl rfl)
    have h : xAt T n p ([] ++ ([108, 97, 109, 112] ++ 32 :: (xTxt (xCol A) ++ ([32] ++ xTxt (17 + Wy.toNat)) ++ xTail ((i : Int) % w) ((i : Int) / w) ++ l))) := by simpa [xOwn, xArg] using h
    obtain ⟨t1, h1⟩ := xtk_w (v := 1) (Or.inl ⟨rfl, hp⟩) (by decide) (by decide) (Or.inl rfl) (by decide +kernel) h
    have h1 : xAt T n (p + ([] : List Int).length + ([108, 97, 109, 112] : List Int).length) ([32] ++ (xTxt (xCol A) ++ 32 :: (xTxt (17 + Wy.toNat) ++ xTail ((i : Int) % w) ((i : Int) / w) ++ l))) := by simpa using h1
    obtain ⟨t2, h2⟩ := xtk_w (Or.inr rfl) (xwd_let (xCol_r A) (Or.inr ⟨hc2, hc3⟩)).1 (xwd_let (xCol_r A) (Or.inr ⟨hc2, hc3⟩)).2 (Or.inl rfl) ⟨xwd_v.2 ⟨xCol A, xCol_r A⟩ ⟨hc2, hc3⟩, by show ((xCol A : Nat) : Int) + 9 ≠ -1; omega⟩ h1
    have hw17 : 17 + Wy.toNat < 23 := by omega
    have h2 : xAt T n (p + ([] : List Int).length + ([108, 97, 109, 112] : List Int).length + [(32 : Int)].length + (xTxt (xCol A)).length) ([32] ++ (xTxt (17 + Wy.toNat) ++ 32 :: (xaT ++ ([32] ++ (48 + (i : Int) % w) :: ([32] ++ (48 + (i : Int) / w) :: [59])) ++ l))) := by simpa [xTail] using h2
    obtain ⟨t3, h3⟩ := xtk_w (Or.inr rfl) (xwd_let hw17 (Or.inl (by omega))).1 (xwd_let hw17 (Or.inl (by omega))).2 (Or.inl rfl) ⟨xwd_v.1 ⟨17 + Wy.toNat, hw17⟩ (by show 17 ≤ 17 + Wy.toNat; omega), by show ((17 + Wy.toNat : Nat) : Int) - 1 ≠ -1; omega⟩ h2
    obtain ⟨p', a1, a2, a3, a4⟩ := key (W1 := W) (F := fun q W p => .inl (yput W 1 (yco (((xCol A : Nat) : Int) + 9 - 12)) (((17 + Wy.toNat : Nat) : Int) - 1 - 16) q, p)) rfl rfl rfl (fun _ => rfl) (by simpa [xTail] using h3) (by simp [xOwn, xArg, hlen]; omega)
    refine ⟨p', ?_, a2, a3, a4⟩
    unfold yPiece
    rw [t1.1, t1.2.1, t1.2.2, if_neg (by decide), if_neg hmx, if_pos rfl, yx_Ch t2 ⟨by show 12 ≤ ((xCol A : Nat) : Int) + 9; omega, by show ((xCol A : Nat) : Int) + 9 ≤ 15; omega⟩, yx_Ch t3 ⟨by show 16 ≤ ((17 + Wy.toNat : Nat) : Int) - 1; omega, by show ((17 + Wy.toNat : Nat) : Int) - 1 ≤ 19; omega⟩]
    refine a1.trans ?_
    rw [hc1, show ((17 + Wy.toNat : Nat) : Int) - 1 - 16 = Wy by omega]
    rfl
  · have hA := hA23 (by decide)
    have h : xAt T n p ([] ++ ([109, 105, 114, 114, 111, 114] ++ 32 :: (xTxt (21 + A.toNat) ++ xTail ((i : Int) % w) ((i : Int) / w) ++ l))) := by simpa [xOwn, xArg] using h
    obtain ⟨t1, h1⟩ := xtk_w (v := 2) (Or.inl ⟨rfl, hp⟩) (by decide) (by decide) (Or.inl rfl) (by decide +kernel) h
    have hw21 : 21 + A.toNat < 23 := by omega
    have h1 : xAt T n (p + ([] : List Int).length + ([109, 105, 114, 114, 111, 114] : List Int).length) ([32] ++ (xTxt (21 + A.toNat) ++ 32 :: (xaT ++ ([32] ++ (48 + (i : Int) % w) :: ([32] ++ (48 + (i : Int) / w) :: [59])) ++ l))) := by simpa [xTail] using h1
    obtain ⟨t3, h3⟩ := xtk_w (Or.inr rfl) (xwd_let hw21 (Or.inl (by omega))).1 (xwd_let hw21 (Or.inl (by omega))).2 (Or.inl rfl) ⟨xwd_v.1 ⟨21 + A.toNat, hw21⟩ (by show 17 ≤ 21 + A.toNat; omega), by show ((21 + A.toNat : Nat) : Int) - 1 ≠ -1; omega⟩ h1
    obtain ⟨p', a1, a2, a3, a4⟩ := key (W1 := W) (F := fun q W p' => .inl (yput W 2 (((21 + A.toNat : Nat) : Int) - 1 - 20) (-1) q, p')) rfl rfl rfl (fun _ => rfl) (by simpa [xTail] using h3) (by simp [xOwn, xArg, hlen]; omega)
    refine ⟨p', ?_, a2, a3, a4⟩
    unfold yPiece
    rw [t1.1, t1.2.1, t1.2.2, if_neg (by decide), if_neg hmx, if_neg (by decide), if_pos (by decide), yx_Ch t3 ⟨by show 20 ≤ ((21 + A.toNat : Nat) : Int) - 1; omega, by show ((21 + A.toNat : Nat) : Int) - 1 ≤ 21; omega⟩]
    refine a1.trans ?_
    rw [show ((21 + A.toNat : Nat) : Int) - 1 - 20 = A by omega]
    rfl
  · have hA := hA23 (by decide)
    have h : xAt T n p ([] ++ ([104, 97, 108, 102] ++ 32 :: (xTxt (21 + A.toNat) ++ xTail ((i : Int) % w) ((i : Int) / w) ++ l))) := by simpa [xOwn, xArg] using h
    obtain ⟨t1, h1⟩ := xtk_w (v := 3) (Or.inl ⟨rfl, hp⟩) (by decide) (by decide) (Or.inl rfl) (by decide +kernel) h
    have hw21 : 21 + A.toNat < 23 := by omega
    have h1 : xAt T n (p + ([] : List Int).length + ([104, 97, 108, 102] : List Int).length) ([32] ++ (xTxt (21 + A.toNat) ++ 32 :: (xaT ++ ([32] ++ (48 + (i : Int) % w) :: ([32] ++ (48 + (i : Int) / w) :: [59])) ++ l))) := by simpa [xTail] using h1
    obtain ⟨t3, h3⟩ := xtk_w (Or.inr rfl) (xwd_let hw21 (Or.inl (by omega))).1 (xwd_let hw21 (Or.inl (by omega))).2 (Or.inl rfl) ⟨xwd_v.1 ⟨21 + A.toNat, hw21⟩ (by show 17 ≤ 21 + A.toNat; omega), by show ((21 + A.toNat : Nat) : Int) - 1 ≠ -1; omega⟩ h1
    obtain ⟨p', a1, a2, a3, a4⟩ := key (W1 := W) (F := fun q W p' => .inl (yput W 3 (((21 + A.toNat : Nat) : Int) - 1 - 20) (-1) q, p')) rfl rfl rfl (fun _ => rfl) (by simpa [xTail] using h3) (by simp [xOwn, xArg, hlen]; omega)
    refine ⟨p', ?_, a2, a3, a4⟩
    unfold yPiece
    rw [t1.1, t1.2.1, t1.2.2, if_neg (by decide), if_neg hmx, if_neg (by decide), if_pos (by decide), yx_Ch t3 ⟨by show 20 ≤ ((21 + A.toNat : Nat) : Int) - 1; omega, by show ((21 + A.toNat : Nat) : Int) - 1 ≤ 21; omega⟩]
    refine a1.trans ?_
    rw [show ((21 + A.toNat : Nat) : Int) - 1 - 20 = A by omega]
    rfl
  · obtain ⟨hc1, hc2, hc3⟩ := hcA (Or.inr rfl)
    have h : xAt T n p ([] ++ ([103, 108, 97, 115, 115] ++ 32 :: (xTxt (xCol A) ++ xTail ((i : Int) % w) ((i : Int) / w) ++ l))) := by simpa [xOwn, xArg] using h
    obtain ⟨t1, h1⟩ := xtk_w (v := 4) (Or.inl ⟨rfl, hp⟩) (by decide) (by decide) (Or.inl rfl) (by decide +kernel) h
    have h1 : xAt T n (p + ([] : List Int).length + ([103, 108, 97, 115, 115] : List Int).length) ([32] ++ (xTxt (xCol A) ++ 32 :: (xaT ++ ([32] ++ (48 + (i : Int) % w) :: ([32] ++ (48 + (i : Int) / w) :: [59])) ++ l))) := by simpa [xTail] using h1
    obtain ⟨t2, h2⟩ := xtk_w (Or.inr rfl) (xwd_let (xCol_r A) (Or.inr ⟨hc2, hc3⟩)).1 (xwd_let (xCol_r A) (Or.inr ⟨hc2, hc3⟩)).2 (Or.inl rfl) ⟨xwd_v.2 ⟨xCol A, xCol_r A⟩ ⟨hc2, hc3⟩, by show ((xCol A : Nat) : Int) + 9 ≠ -1; omega⟩ h1
    obtain ⟨p', a1, a2, a3, a4⟩ := key (W1 := W) (F := fun q W p => .inl (yput W 4 (yco (((xCol A : Nat) : Int) + 9 - 12)) (-1) q, p)) rfl rfl rfl (fun _ => rfl) (by simpa [xTail] using h2) (by simp [xOwn, xArg, hlen]; omega)
    refine ⟨p', ?_, a2, a3, a4⟩
    unfold yPiece
    rw [t1.1, t1.2.1, t1.2.2, if_neg (by decide), if_neg hmx, if_neg (by decide), if_neg (by decide), if_pos rfl, yx_Ch t2 ⟨by show 12 ≤ ((xCol A : Nat) : Int) + 9; omega, by show ((xCol A : Nat) : Int) + 9 ≤ 15; omega⟩]
    refine a1.trans ?_
    rw [hc1]
    rfl
  · have h : xAt T n p ([] ++ ([112, 114, 105, 115, 109] ++ 32 :: (xaT ++ ([32] ++ (48 + (i : Int) % w) :: ([32] ++ (48 + (i : Int) / w) :: [59])) ++ l))) := by simpa [xOwn, xArg, xTail] using h
    obtain ⟨t1, h1⟩ := xtk_w (v := 5) (Or.inl ⟨rfl, hp⟩) (by decide) (by decide) (Or.inl rfl) (by decide +kernel) h
    obtain ⟨p', a1, a2, a3, a4⟩ := key (W1 := W) (F := fun q W p' => .inl (yput W 5 (-1) (-1) q, p')) rfl rfl rfl (fun _ => rfl) (by simpa [xTail] using h1) (by simp [xOwn, xArg, hlen])
    refine ⟨p', ?_, a2, a3, a4⟩
    unfold yPiece
    rw [t1.1, t1.2.1, t1.2.2, if_neg (by decide), if_neg hmx, if_neg (by decide), if_neg (by decide), if_neg (by decide), if_pos (by decide)]
    exact a1
  · have h : xAt T n p ([] ++ ([119, 97, 108, 108] ++ 32 :: (xaT ++ ([32] ++ (48 + (i : Int) % w) :: ([32] ++ (48 + (i : Int) / w) :: [59])) ++ l))) := by simpa [xOwn, xArg, xTail] using h
    obtain ⟨t1, h1⟩ := xtk_w (v := 6) (Or.inl ⟨rfl, hp⟩) (by decide) (by decide) (Or.inl rfl) (by decide +kernel) h
    obtain ⟨p', a1, a2, a3, a4⟩ := key (W1 := W) (F := fun q W p' => .inl (yput W 6 (-1) (-1) q, p')) rfl rfl rfl (fun _ => rfl) (by simpa [xTail] using h1) (by simp [xOwn, xArg, hlen])
    refine ⟨p', ?_, a2, a3, a4⟩
    unfold yPiece
    rw [t1.1, t1.2.1, t1.2.2, if_neg (by decide), if_neg hmx, if_neg (by decide), if_neg (by decide), if_neg (by decide), if_pos (by decide)]
    exact a1
  · have h : xAt T n p ([] ++ ([101, 121, 101] ++ 32 :: ([101, 97 + (e : Int)] ++ xTail ((i : Int) % w) ((i : Int) / w) ++ l))) := by simpa [xOwn, xArg] using h
    obtain ⟨t1, h1⟩ := xtk_w (v := 7) (Or.inl ⟨rfl, hp⟩) (by decide) (by decide) (Or.inl rfl) (by decide +kernel) h
    have h1 : xAt T n (p + 0 + 3) ([32] ++ ([101, 97 + (e : Int)] ++ 32 :: (xaT ++ ([32] ++ (48 + (i : Int) % w) :: ([32] ++ (48 + (i : Int) / w) :: [59])) ++ l))) := by simpa [xTail] using h1
    obtain ⟨n1, n2⟩ := xPw_eye ⟨e, by omega⟩
    obtain ⟨t2, h2⟩ := xtk_n (wd := [101, 97 + (e : Int)]) (fun j hj => by
      have hj2 : j < 2 := hj
      rcases (show j = 0 ∨ j = 1 by omega) with rfl | rfl
      · exact ⟨show (97 : Int) ≤ 101 by decide, show (101 : Int) ≤ 122 by decide⟩
      · exact ⟨show (97 : Int) ≤ 97 + (e : Int) by omega, show 97 + (e : Int) ≤ 122 by omega⟩) ⟨Nat.le_of_ble_eq_true rfl, Nat.le_of_ble_eq_true rfl⟩ (Or.inl rfl) n1 n2 h1
    obtain ⟨p', a1, a2, a3, a4⟩ := key (W1 := zupd W 20 e (136 + (e : Int))) (F := fun q W p => .inl (yput W 7 (-1) (-1) q, p)) (zupd_na (by decide)) (zupd_na (by decide)) (zupd_row (by decide)) (fun _ => rfl) (by simpa [xTail] using h2) (by simp [xOwn, xArg, hlen])
    refine ⟨p', ?_, a2, a3, a4⟩
    unfold yPiece
    rw [t1.1, t1.2.1, t1.2.2, if_neg (by decide), if_neg hmx, if_neg (by decide), if_neg (by decide), if_neg (by decide), if_neg (by decide), if_pos rfl]
    have eN : yName T n W (p + ([] : List Int).length + ([101, 121, 101] : List Int).length) = .inl (zupd W 20 e (136 + (e : Int)), p + 0 + 3 + 1 + ([101, 97 + (e : Int)] : List Int).length) := by
      unfold yName
      have t2' := t2
      rw [show p + ([] : List Int).length + ([101, 121, 101] : List Int).length = p + 0 + 3 from rfl, t2.1, if_neg (by decide), t2.2.1, t2.2.2, h5, Int.toNat_natCast, if_neg (by rw [show (((⟨e, by omega⟩ : Fin 24).val : Nat) : Int) = (e : Int) from rfl, hN rfl]; decide)]
    rw [eN]
    exact a1
/-- a square's place on the board -/
def xq (w : Int) (k : Nat) : Nat := zqo ((k : Int) % w) ((k : Int) / w)
theorem xq_v {w : Int} (hw : 2 ≤ w ∧ w ≤ 6) (k : Nat) : ((xq w k % 12 : Nat) : Int) = (k : Int) % w ∧ ((xq w k / 12 : Nat) : Int) = (k : Int) / w := by
  have e1 : 0 ≤ (k : Int) % w := Int.emod_nonneg _ (by omega)
  have e2 : (k : Int) % w < w := Int.emod_lt_of_pos _ (by omega)
  have e3 : 0 ≤ (k : Int) / w := Int.ediv_nonneg (by omega) (by omega)
  unfold xq zqo
  omega
theorem xq_inj {w : Int} (hw : 2 ≤ w ∧ w ≤ 6) {k j : Nat} (h : xq w k = xq w j) : k = j := by
  obtain ⟨a1, a2⟩ := xq_v hw k
  obtain ⟨b1, b2⟩ := xq_v hw j
  rw [h] at a1 a2
  have h1 := Int.emod_add_mul_ediv (k : Int) w
  have h2 := Int.emod_add_mul_ediv (j : Int) w
  rw [← a1, ← a2] at h1
  rw [← b1, ← b2] at h2
  have : (k : Int) = j := h1.symm.trans h2
  omega
/-- the board so far -/
def xBrd (W : zPH) (g : Nat → Nat → Int) (w h : Int) (i : Nat) : Prop :=
  (W 0 0 = w ∧ W 0 1 = h ∧ W 0 2 = (xMany g 1 1 i : Nat) ∧ W 0 3 = (xMany g 2 3 i : Nat) ∧ W 0 4 = 0 ∧ W 0 5 = (xMany g 7 7 i : Nat) ∧ W 0 7 = 0) ∧
  (∀ k, k < i → W 1 (xq w k) = g k 0 ∧ (g k 0 ≠ 0 → W 3 (xq w k) = xForm (g k 0) (g k 1) ∧ W 4 (xq w k) = xWay (g k 0) (g k 2)) ∧ (g k 0 = 1 → W 2 (xq w k) = (xMany g 1 1 k : Nat)) ∧ (g k 0 = 7 → W 5 (xMany g 7 7 k) = (xq w k : Int))) ∧
  (∀ q, (∀ k, k < i → q ≠ xq w k) → W 1 q = 0) ∧ ∀ e : Nat, e < xMany g 7 7 i → W 20 e = 136 + (e : Int)
theorem xMany_s {g : Nat → Nat → Int} {lo hi : Int} {i : Nat} : (lo ≤ g i 0 ∧ g i 0 ≤ hi → xMany g lo hi (i + 1) = xMany g lo hi i + 1) ∧ (¬ (lo ≤ g i 0 ∧ g i 0 ≤ hi) → xMany g lo hi (i + 1) = xMany g lo hi i) := by
  constructor
  · intro h; show xMany g lo hi i + _ = _; rw [if_pos h]
  · intro h; show xMany g lo hi i + _ = _; rw [if_neg h]; rfl
theorem xBrd_skip {W : zPH} {g : Nat → Nat → Int} {w h : Int} {i : Nat} (hw : 2 ≤ w ∧ w ≤ 6) (h0 : g i 0 = 0) (hB : xBrd W g w h i) : xBrd W g w h (i + 1) := by
  obtain ⟨⟨b0, b1, b2, b3, b4, b5, b7⟩, hk, hq, he⟩ := hB
  have e1 : xMany g 1 1 (i + 1) = xMany g 1 1 i := xMany_s.2 (by omega)
  have e2 : xMany g 2 3 (i + 1) = xMany g 2 3 i := xMany_s.2 (by omega)
  have e3 : xMany g 7 7 (i + 1) = xMany g 7 7 i := xMany_s.2 (by omega)
  refine ⟨⟨b0, b1, by rw [e1]; exact b2, by rw [e2]; exact b3, b4, by rw [e3]; exact b5, b7⟩, fun k hki => ?_, fun q hqk => hq q (fun k hki => hqk k (by omega)), by rw [e3]; exact he⟩
  by_cases q : k = i
  · subst q
    refine ⟨by rw [h0]; exact hq _ (fun j hj hjk => by have := xq_inj hw hjk; omega), fun z => absurd h0 z, fun z => by omega, fun z => by omega⟩
  · exact hk k (by omega)
theorem xBrd_put {W : zPH} {g : Nat → Nat → Int} {w h : Int} {i : Nat} (hw : 2 ≤ w ∧ w ≤ 6) (hS : 1 ≤ g i 0 ∧ g i 0 ≤ 7) (hB : xBrd W g w h i) : xBrd (yput (if g i 0 = 7 then zupd W 20 (xMany g 7 7 i) (136 + ((xMany g 7 7 i : Nat) : Int)) else W) (g i 0) (xForm (g i 0) (g i 1)) (xWay (g i 0) (g i 2)) (xq w i)) g w h (i + 1) := by
  obtain ⟨⟨b0, b1, b2, b3, b4, b5, b7⟩, hk, hq, he⟩ := hB
  generalize hW1 : (if g i 0 = 7 then zupd W 20 (xMany g 7 7 i) (136 + ((xMany g 7 7 i : Nat) : Int)) else W) = W1
  have r : ∀ a, a ≠ 20 → W1 a = W a := fun a ha => by
    rw [← hW1]
    split
    · exact zupd_row ha
    · rfl
  have r20 : ∀ e : Nat, e < xMany g 7 7 (i + 1) → W1 20 e = 136 + (e : Int) := fun e he' => by
    rw [← hW1]
    by_cases q : g i 0 = 7
    · rw [if_pos q]
      rw [xMany_s.1 (by omega)] at he'
      by_cases q2 : e = xMany g 7 7 i
      · rw [q2, zupd_same]
      · rw [zupd_nk q2]; exact he e (by omega)
    · rw [if_neg q]
      rw [xMany_s.2 (by omega)] at he'
      exact he e he'
  have hne : ∀ k, k < i → xq w k ≠ xq w i := fun k hki z => by have := xq_inj hw z; omega
  have hg : ygr (g i 0) = 2 ∧ g i 0 = 1 ∨ ygr (g i 0) = 3 ∧ (2 ≤ g i 0 ∧ g i 0 ≤ 3) ∨ ygr (g i 0) = 5 ∧ g i 0 = 7 ∨ ygr (g i 0) = 8 ∧ ¬ (g i 0 = 1 ∨ 2 ≤ g i 0 ∧ g i 0 ≤ 3 ∨ g i 0 = 7) := by
    unfold ygr
    by_cases q1 : g i 0 = 1
    · rw [if_pos q1]; exact Or.inl ⟨rfl, q1⟩
    rw [if_neg q1]
    by_cases q2 : g i 0 = 2 ∨ g i 0 = 3
    · rw [if_pos q2]; exact Or.inr (Or.inl ⟨rfl, by omega⟩)
    rw [if_neg q2, if_neg (by omega)]
    by_cases q7 : g i 0 = 7
    · rw [if_pos q7]; exact Or.inr (Or.inr (Or.inl ⟨rfl, q7⟩))
    rw [if_neg q7]; exact Or.inr (Or.inr (Or.inr ⟨rfl, by omega⟩))
  have z0 : ∀ k, k ≠ 6 → yput W1 (g i 0) (xForm (g i 0) (g i 1)) (xWay (g i 0) (g i 2)) (xq w i) 0 k = if k = ygr (g i 0) then W 0 k + 1 else W 0 k := fun k hk6 => by
    unfold yput
    rw [if_pos rfl, if_neg hk6, r 0 (by decide)]
  have z1 : ∀ k, yput W1 (g i 0) (xForm (g i 0) (g i 1)) (xWay (g i 0) (g i 2)) (xq w i) 1 k = if k = xq w i then g i 0 else W 1 k := fun k => by
    unfold yput
    rw [r 1 (by decide)]
    by_cases q : k = xq w i <;> simp [q]
  have z3 : ∀ k, yput W1 (g i 0) (xForm (g i 0) (g i 1)) (xWay (g i 0) (g i 2)) (xq w i) 3 k = if k = xq w i then xForm (g i 0) (g i 1) else W 3 k := fun k => by
    unfold yput
    rw [r 3 (by decide)]
    by_cases q : k = xq w i <;> simp [q]
  have z4 : ∀ k, yput W1 (g i 0) (xForm (g i 0) (g i 1)) (xWay (g i 0) (g i 2)) (xq w i) 4 k = if k = xq w i then xWay (g i 0) (g i 2) else W 4 k := fun k => by
    unfold yput
    rw [r 4 (by decide)]
    by_cases q : k = xq w i <;> simp [q]
  have z2 : ∀ k, yput W1 (g i 0) (xForm (g i 0) (g i 1)) (xWay (g i 0) (g i 2)) (xq w i) 2 k = if k = xq w i then (if ygr (g i 0) = 8 then -1 else W 0 (ygr (g i 0))) else W 2 k := fun k => by
    unfold yput
    rw [r 2 (by decide), r 0 (by decide)]
    by_cases q : k = xq w i <;> simp [q]
  have z5 : ∀ k, yput W1 (g i 0) (xForm (g i 0) (g i 1)) (xWay (g i 0) (g i 2)) (xq w i) 5 k = if g i 0 = 7 ∧ (k : Int) = W 0 5 then (xq w i : Int) else W 5 k := fun k => by
    unfold yput
    rw [r 5 (by decide), r 0 (by decide)]
    by_cases q : g i 0 = 7 ∧ (k : Int) = W 0 5
    · simp [q]
    · simp [q]
  have z20 : ∀ k, yput W1 (g i 0) (xForm (g i 0) (g i 1)) (xWay (g i 0) (g i 2)) (xq w i) 20 k = W1 20 k := fun k => by
    unfold yput
    simp
  have m1 := @xMany_s g 1 1 i
  have m2 := @xMany_s g 2 3 i
  have m3 := @xMany_s g 7 7 i
  refine ⟨⟨?_, ?_, ?_, ?_, ?_, ?_, ?_⟩, fun k hki => ?_, fun q hqk => ?_, fun e he' => by rw [z20]; exact r20 e he'⟩
  · rw [z0 0 (by decide), if_neg (by omega)]; exact b0
  · rw [z0 1 (by decide), if_neg (by omega)]; exact b1
  · rw [z0 2 (by decide)]
    by_cases q : g i 0 = 1
    · rw [if_pos (by omega), m1.1 (by omega)]; omega
    · rw [if_neg (by omega), m1.2 (by omega)]; exact b2
  · rw [z0 3 (by decide)]
    by_cases q : 2 ≤ g i 0 ∧ g i 0 ≤ 3
    · rw [if_pos (by omega), m2.1 q]; omega
    · rw [if_neg (by omega), m2.2 q]; exact b3
  · rw [z0 4 (by decide), if_neg (by omega)]; exact b4
  · rw [z0 5 (by decide)]
    by_cases q : g i 0 = 7
    · rw [if_pos (by omega), m3.1 (by omega)]; omega
    · rw [if_neg (by omega), m3.2 (by omega)]; exact b5
  · rw [z0 7 (by decide), if_neg (by omega)]; exact b7
  · by_cases q : k = i
    · subst q
      refine ⟨by rw [z1, if_pos rfl], fun _ => ⟨by rw [z3, if_pos rfl], by rw [z4, if_pos rfl]⟩, fun q1 => ?_, fun q7 => ?_⟩
      · rw [z2, if_pos rfl, if_neg (by omega), show ygr (g k 0) = 2 by omega]; exact b2
      · rw [z5, if_pos ⟨q7, b5.symm⟩]
    · obtain ⟨c1, c2, c3, c4⟩ := hk k (by omega)
      have hn := hne k (by omega)
      refine ⟨by rw [z1, if_neg hn]; exact c1, fun z => by rw [z3, z4, if_neg hn, if_neg hn]; exact c2 z, fun z => by rw [z2, if_neg hn]; exact c3 z, fun z => ?_⟩
      have hlt : xMany g 7 7 k < xMany g 7 7 i := by
        have h1 := xMany_mono g 7 7 (show k + 1 ≤ i by omega)
        rw [xMany_s.1 (by omega)] at h1
        omega
      rw [z5, if_neg (by rw [b5]; omega)]
      exact c4 z
  · rw [z1, if_neg (hqk i (by omega))]
    exact hq q (fun k hki => hqk k (by omega))
/-- squares that the text can be read of -/
def xOkB (g : Nat → Nat → Int) (n : Nat) : Prop := (∀ k, k < n → (0 ≤ g k 0 ∧ g k 0 ≤ 7) ∧ (g k 0 = 1 ∨ g k 0 = 4 → g k 1 = 1 ∨ g k 1 = 2 ∨ g k 1 = 4 ∨ g k 1 = 7) ∧ (g k 0 = 2 ∨ g k 0 = 3 → g k 1 = 0 ∨ g k 1 = 1) ∧ (0 ≤ g k 2 ∧ g k 2 < 4)) ∧ xMany g 1 1 n ≤ 7 ∧ xMany g 2 3 n ≤ 7 ∧ xMany g 7 7 n ≤ 7
def xRest (g : Nat → Nat → Int) (w : Int) : Nat → Nat → List Int
  | _, 0 => []
  | i, d + 1 => (if g i 0 = 0 then [] else xPiece w i (g i 0) (g i 1) (g i 2) (xMany g 7 7 i : Nat)) ++ xRest g w (i + 1) d
theorem xText_rest {g : Nat → Nat → Int} {w h : Int} : ∀ (d i : Nat), (∀ k, k < i + d → 0 ≤ g k 0 ∧ g k 0 ≤ 7) → xText g w h (i + d) = xText g w h i ++ xRest g w i d
  | 0, i, _ => by simp [xRest]
  | d + 1, i, hg => by
    have ih := xText_rest (w := w) (h := h) d (i + 1) (fun k hk => hg k (by omega))
    rw [show i + (d + 1) = i + 1 + d by omega, ih, xRest]
    have := hg i (by omega)
    rw [xText]
    by_cases q : g i 0 = 0
    · rw [if_pos q, if_pos q, List.nil_append]
    · rw [if_neg q, if_neg q, xA62_e _ _ _ _ _ _ _ (by omega), List.append_assoc]
theorem yeN_no {W : zPH} {e : Nat} (h : ∀ j : Nat, j < e → W 20 j = 136 + (j : Int)) : ∀ k : Nat, k ≤ e → yeN W (136 + (e : Int)) k = -1
  | 0, _ => rfl
  | k + 1, hk => by
    unfold yeN
    rw [yeN_no h k (by omega), if_neg (by decide), h k (by omega), if_neg (by omega)]
theorem yx_More {T : Nat → Int} {n nn : Nat} {g : Nat → Nat → Int} {w h : Int} (hw : 2 ≤ w ∧ w ≤ 6) (hh : 2 ≤ h ∧ h ≤ 6) (hn : (nn : Int) = w * h) (hg : xOkB g nn) : ∀ (d i f k : Nat) (W : zPH) (p : Nat), i + d = nn → d + 1 ≤ f → k + d < 60 → xBrd W g w h i → xAt T n p (xRest g w i d) → p + (xRest g w i d).length = n → (p = 0 ∨ T (p - 1) = 59) →
    ∃ (W' : zPH) (k' : Nat), yMore T n f k W p = .inl (W', n, k') ∧ xBrd W' g w h nn ∧ k' + xMany g 1 9 i = k + xMany g 1 9 nn := by
  intro d
  induction d with
  | zero =>
    intro i f k W p hi hf hk hB hA hp hp0
    obtain ⟨f, rfl⟩ : ∃ f', f = f' + 1 := ⟨f - 1, by omega⟩
    obtain rfl : i = nn := hi
    obtain rfl : p = n := by simpa [xRest] using hp
    refine ⟨W, k, ?_, hB, rfl⟩
    unfold yMore
    rw [if_pos xtk_end]
  | succ d ih =>
    intro i f k W p hi hf hk hB hA hp hp0
    have hin : i < nn := by omega
    obtain ⟨g1, g2, g3, g4⟩ := hg.1 i hin
    by_cases q : g i 0 = 0
    · rw [xRest, if_pos q, List.nil_append] at hA hp
      obtain ⟨W', k', a1, a2, a3⟩ := ih (i + 1) f k W p (by omega) (by omega) (by omega) (xBrd_skip hw q hB) hA hp hp0
      rw [xMany_s.2 (by omega)] at a3
      exact ⟨W', k', a1, a2, a3⟩
    · rw [xRest, if_neg q] at hA hp
      have hB0 := hB
      obtain ⟨⟨b0, b1, b2, b3, b4, b5, b7⟩, hkk, hq, he⟩ := hB
      have i1 := xMany_mono g 1 1 (show i + 1 ≤ nn by omega)
      have i2 := xMany_mono g 2 3 (show i + 1 ≤ nn by omega)
      have i3 := xMany_mono g 7 7 (show i + 1 ≤ nn by omega)
      have j1 := xMany_mono g 1 1 (show i ≤ nn by omega)
      have j2 := xMany_mono g 2 3 (show i ≤ nn by omega)
      have j3 := xMany_mono g 7 7 (show i ≤ nn by omega)
      obtain ⟨-, l1, l2, l3⟩ := hg
      have e1 : (0 : Int) ≤ (i : Int) % w ∧ (i : Int) % w < w := ⟨Int.emod_nonneg _ (by omega), Int.emod_lt_of_pos (i : Int) (show 0 < w by omega)⟩
      have e2 : (0 : Int) ≤ (i : Int) / w ∧ (i : Int) / w < h := ⟨Int.ediv_nonneg (by omega) (by omega), Int.ediv_lt_of_lt_mul (a := (i : Int)) (b := h) (c := w) (by omega) (by rw [Int.mul_comm, ← hn]; omega)⟩
      obtain ⟨p', c1, c2, c3, c4⟩ := yx_Stmt (W := W) (e := xMany g 7 7 i) hp0 ⟨by omega, g1.2⟩ g2 g3 g4 (by omega) ⟨e1.1, by omega, by omega⟩ ⟨e2.1, by omega, by omega⟩ (hq _ (fun j hj hjk => by have := xq_inj (w := w) hw (k := i) (j := j) hjk; omega)) (fun hy => by
        unfold ygr at hy ⊢
        by_cases q1 : g i 0 = 1
        · rw [if_pos q1]; show W 0 2 < 8; omega
        rw [if_neg q1] at hy ⊢
        by_cases q2 : g i 0 = 2 ∨ g i 0 = 3
        · rw [if_pos q2]; show W 0 3 < 8; omega
        rw [if_neg q2, if_neg (by omega)] at hy ⊢
        by_cases q7 : g i 0 = 7
        · rw [if_pos q7]; show W 0 5 < 8; omega
        · rw [if_neg q7] at hy; exact absurd rfl hy) b5 (fun _ => yeN_no he _ (Nat.le_refl _)) hA
      obtain ⟨f, rfl⟩ : ∃ f', f = f' + 1 := ⟨f - 1, by omega⟩
      rw [List.length_append] at hp
      obtain ⟨W', k', a1, a2, a3⟩ := ih (i + 1) f (k + 1) _ p' (by omega) (by omega) (by omega) (xBrd_put hw ⟨by omega, g1.2⟩ hB0) c2 (by omega) (Or.inr c4)
      refine ⟨W', k', ?_, a2, by rw [xMany_s.1 (by omega)] at a3; omega⟩
      unfold yMore
      have hk4 : ztK T n p ≠ 4 := fun z => by
        have : yPiece T n W p = yNo T n p := by
          unfold yPiece
          rw [if_pos (by rw [z]; omega)]
        rw [this] at c1
        exact absurd c1 (by unfold yNo ybn; simp)
      rw [if_neg hk4, if_neg (by omega), c1]
      exact a1
/-- the whole text is read: the board, so many statements -/
theorem yx_All {T : Nat → Int} {nn : Nat} {g : Nat → Nat → Int} {w h : Int} (hw : 2 ≤ w ∧ w ≤ 6) (hh : 2 ≤ h ∧ h ≤ 6) (hn : (nn : Int) = w * h) (hn36 : nn ≤ 36) (hg : xOkB g nn) (hT : ∀ k, k < (xText g w h nn).length → T k = (xText g w h nn).getD k 0) :
    ∃ W : zPH, yAll T (xText g w h nn).length = .inl (W, 1 + xMany g 1 9 nn) ∧ xBrd W g w h nn := by
  have hr := xText_rest (h := h) nn 0 (g := g) (w := w) (fun k hk => (hg.1 k (by omega)).1)
  rw [Nat.zero_add] at hr
  have hA : xAt T (xText g w h nn).length 0 (xText g w h nn) := ⟨by omega, fun j hj => by rw [Nat.zero_add]; exact hT j hj⟩
  generalize hnl : (xText g w h nn).length = n at hA ⊢
  have e1 : xText g w h 0 = [115, 105, 122, 101] ++ ([32] ++ (48 + w) :: ([32] ++ (48 + h) :: [59])) := by
    have : xTxt 1 = [115, 105, 122, 101] ++ [32] := by decide +kernel
    simp [xText, this]
  rw [hr, e1] at hA hnl
  have hA1 : xAt T n 0 ([] ++ ([115, 105, 122, 101] ++ 32 :: ((48 + w) :: ([32] ++ (48 + h) :: (59 :: xRest g w 0 nn))))) := by simpa using hA
  obtain ⟨t1, h1⟩ := xtk_w (v := 0) (Or.inl ⟨rfl, Or.inl rfl⟩) (by decide) (by decide) (Or.inl rfl) (by decide +kernel) hA1
  obtain ⟨t2, h2⟩ := xtk_d (l := (48 + h) :: (59 :: xRest g w 0 nn)) ⟨by omega, by omega⟩ (Or.inl rfl) h1
  obtain ⟨t3, h3⟩ := xtk_d (l := xRest g w 0 nn) ⟨by omega, by omega⟩ (Or.inr rfl) h2
  obtain ⟨t4, h4, h5⟩ := xtk_c h3
  have hB0 : xBrd (zupd (zupd yW0 0 0 w) 0 1 h) g w h 0 := ⟨⟨rfl, rfl, rfl, rfl, rfl, rfl, rfl⟩, fun k hk => absurd hk (Nat.not_lt_zero _), fun q _ => rfl, fun e he => absurd he (Nat.not_lt_zero _)⟩
  obtain ⟨W', k', a1, a2, a3⟩ := yx_More hw hh hn hg nn 0 61 1 _ _ (Nat.zero_add _) (by omega) (by omega) hB0 h4 (by rw [List.length_append] at hnl; simp only [List.length_append, List.length_cons, List.length_nil] at hnl ⊢; omega) (Or.inr h5)
  refine ⟨W', ?_, a2⟩
  unfold yAll
  have es : ybn (ySize T n yW0 0) (yEx T n 3 59) = .inl (zupd (zupd yW0 0 0 w) 0 1 h, 0 + ([] : List Int).length + ([115, 105, 122, 101] : List Int).length + 2 + 2 + 1) := by
    unfold ySize
    rw [yx_Ex t1]
    simp only [ybn]
    rw [yx_Num t2 ⟨by omega, by omega⟩, yx_Num t3 ⟨by omega, by omega⟩]
    exact yx_Ex t4
  rw [es]
  simp only []
  rw [a1]
  simp only []
  rw [show (W' 0 7).toNat = 0 by rw [a2.1.2.2.2.2.2.2]; rfl]
  simp only [yEyes]
  have : k' = 1 + xMany g 1 9 nn := by simpa [xMany] using a3
  rw [this]
