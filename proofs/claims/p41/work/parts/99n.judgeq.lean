theorem xpO {a b c : va_W} : (a ++ (b ++ c)).Perm (b ++ (a ++ c)) := by
  rw [← List.append_assoc, ← List.append_assoc]
  exact List.perm_append_comm.append_right c
theorem xpP {a b c d : va_W} : (a ++ (b ++ (c ++ d))).Perm (c ++ (a ++ (b ++ d))) := (xpO.append_left a).trans xpO
theorem xpS {a b c d : va_W} {x : Nat × va_E} : (a ++ (b ++ (c ++ (x :: d)))).Perm (x :: (a ++ (b ++ (c ++ d)))) := ((((List.perm_middle.append_left b).trans List.perm_middle).append_left a).trans List.perm_middle)
theorem xpT {a b c : va_W} {x y : Nat × va_E} : (a ++ (b ++ (c ++ [x, y]))).Perm (y :: (a ++ (b ++ (c ++ [x])))) := ((((List.Perm.swap y x []).append_left c).append_left b).append_left a).trans xpS
theorem xpJ {a b c d : va_W} : ((a ++ b) ++ (c ++ d)).Perm ((a ++ c) ++ (b ++ d)) := by
  rw [List.append_assoc, List.append_assoc]
  exact xpO.append_left a
theorem xpK {a b c : va_W} : ((a ++ b) ++ c).Perm ((b ++ c) ++ a) := by
  rw [List.append_assoc]
  exact List.perm_append_comm
/-- a text is on the tape, board() reads it -/
theorem xRes {V D V' D' : zPH} {x : Int} {g : Nat → Nat → Int} {w h : Int} {n : Nat} (hw : 2 ≤ w ∧ w ≤ 6) (hh : 2 ≤ h ∧ h ≤ 6) (hn : (n : Int) = w * h) (hn36 : n ≤ 36) (hg : xOkB g n) (hT : xTape V D (xText g w h n)) (hr : yRes V D V' D' x) : x = 1 + (xMany g 1 9 n : Nat) ∧ xBrd V' g w h n ∧ D' 0 0 = 0 ∧ D' 0 1 = 0 ∧ D' 0 3 = 0 := by
  obtain ⟨hB, h3, h4⟩ := hT
  obtain ⟨W, e1, e2⟩ := yx_All hw hh hn hn36 hg h4
  unfold yRes at hr
  rw [h3, Int.toNat_natCast, e1] at hr
  obtain ⟨rfl, rfl, rfl⟩ := hr
  exact ⟨by omega, e2, rfl, rfl, rfl⟩
theorem xTxt_let (i : Nat) : ∀ x ∈ xTxt i, 0 ≤ x ∧ x < 128 := by
  intro x hx
  obtain ⟨j, hj, rfl⟩ := List.getElem_of_mem hx
  have := xTxt_at i j
  simp only [List.getD, List.getElem?_eq_getElem hj, Option.getD_some] at this
  rw [this]
  exact xBy_r i j
theorem xTxt_l2 {P : List Int → Prop} : True := trivial
def xAll (t : List Int) : Prop := ∀ x ∈ t, 0 ≤ x ∧ x < 128
theorem xAll_app {a b : List Int} (ha : xAll a) (hb : xAll b) : xAll (a ++ b) := fun x hx => (List.mem_append.mp hx).elim (ha x) (hb x)
theorem xAll_1 {c : Int} (h : 0 ≤ c ∧ c < 128) : xAll [c] := fun x hx => by rw [List.mem_singleton.mp hx]; exact h
theorem xAll_t (i : Nat) : xAll (xTxt i) := xTxt_let i
theorem xText_all {g : Nat → Nat → Int} {w h : Int} {n : Nat} (hw : 2 ≤ w ∧ w ≤ 6) (hh : 2 ≤ h ∧ h ≤ 6) (hn : (n : Int) = w * h) (hg : xOkB g n) : ∀ {i : Nat}, i ≤ n → xAll (xText g w h i)
  | 0, _ => xAll_app (xAll_app (xAll_app (xAll_app (xAll_t 1) (xAll_1 ⟨by omega, by omega⟩)) (xAll_1 (by decide))) (xAll_1 ⟨by omega, by omega⟩)) (xAll_1 (by decide))
  | i + 1, hi => by
    have ih := xText_all hw hh hn hg (show i ≤ n by omega)
    unfold xText
    split
    · exact ih
    · have hm := xMany_mono g 7 7 (show i ≤ n by omega)
      have h7 := hg.2.2.2
      have e1 : (0 : Int) ≤ (i : Int) % w ∧ (i : Int) % w < w := ⟨Int.emod_nonneg _ (by omega), Int.emod_lt_of_pos (i : Int) (show 0 < w by omega)⟩
      have e2 : (0 : Int) ≤ (i : Int) / w ∧ (i : Int) / w < h := ⟨Int.ediv_nonneg (by omega) (by omega), Int.ediv_lt_of_lt_mul (a := (i : Int)) (b := h) (c := w) (by omega) (by rw [Int.mul_comm, ← hn]; omega)⟩
      have a303 : ∀ t, xAll t → xAll (xA303 w i t) := fun t ht => xAll_app (xAll_app (xAll_app (xAll_app (xAll_app ht (xAll_t 16)) (xAll_1 ⟨by omega, by omega⟩)) (xAll_1 (by decide))) (xAll_1 ⟨by omega, by omega⟩)) (xAll_1 (by decide))
      have a208 : ∀ t, xAll t → xAll (xA208 w i (g i 0) (xMany g 7 7 i : Nat) t) := fun t ht => by
        unfold xA208
        split
        · exact a303 _ (xAll_app (xAll_app ht (xAll_t 12)) (xAll_1 ⟨by omega, by omega⟩))
        · exact a303 _ ht
      have a176 : ∀ t, xAll t → xAll (xA176 w i (g i 0) (xMany g 7 7 i : Nat) t) := fun t ht => by
        unfold xA176
        split
        · exact a208 _ (xAll_app ht (xAll_t 10))
        · split
          · exact a208 _ (xAll_app ht (xAll_t 11))
          · exact a208 _ ht
      have a150 : ∀ t, xAll t → xAll (xA150 w i (g i 0) (g i 1) (xMany g 7 7 i : Nat) t) := fun t ht => by
        unfold xA150
        split
        · exact a176 _ (xAll_app (xAll_app ht (xAll_t 9)) (xAll_t _))
        · exact a176 _ ht
      have a106 : ∀ t, xAll t → xAll (xA106 w i (g i 0) (g i 1) (xMany g 7 7 i : Nat) t) := fun t ht => by
        unfold xA106
        split
        · exact a150 _ (xAll_app (xAll_app ht (xAll_t 7)) (xAll_t _))
        · split
          · exact a150 _ (xAll_app (xAll_app ht (xAll_t 8)) (xAll_t _))
          · exact a150 _ ht
      unfold xA62
      split
      · exact a106 _ (xAll_app (xAll_app (xAll_app (xAll_app ih (xAll_t 2)) (xAll_t _)) (xAll_1 (by decide))) (xAll_t _))
      · exact a106 _ ih
theorem xAll_let {t : List Int} (h : xAll t) : xLet t := fun j hj => by
  simp only [List.getD, List.getElem?_eq_getElem hj, Option.getD_some]
  exact h _ (List.getElem_mem hj)
/-- what the law's squares are good for -/
def xGood (g : Nat → Nat → Int) (n : Nat) : Prop := xOkB g n ∧ xOkT g n ∧ xOkR g n
/-- an object has read the board of these squares -/
def xHas (V D : zPH) (g : Nat → Nat → Int) (w h : Int) (n : Nat) : Prop := xBrd V g w h n ∧ zBD V D ∧ D 0 0 = 0 ∧ D 0 1 = 0 ∧ D 0 3 = 0
section JUDGE
variable {v : xEv} {D : va_G} {cs : Nat → ClassId} {X : xX}
set_option maxHeartbeats 2000000 in
theorem q_judgeO {G : zG} {σ V Dd : zPH} {tT tU qa n : Nat} {ra : Nat → Nat} {g : Nat → Nat → Int} {w h : Int} {ls : List (Option Value)} {ws R : va_W} {cells slots : Nat} (hG : G.2.1 = D ∧ G.2.2.1 = cs) (hw : 2 ≤ w ∧ w ≤ 6) (hh : 2 ≤ h ∧ h ≤ 6) (hn : (n : Int) = w * h) (hn36 : n ≤ 36) (hg : xGood g n) (hB : zBD V Dd) (h0 : Dd 0 3 = 0) (hc : zCI σ V Dd tT tU)
    (ho : ls[1]? = some (some (zr G 0))) (h3 : ls[3]? = some (some (iZ w))) (h4 : ls[4]? = some (some (iZ h))) (h5 : ls[5]? = some (some (.ref qa))) (hp : ws.Perm (zws G σ ++ (xGr cs qa n ra g ++ R))) (hcm : cells + 68 ≤ 12000 ∧ slots + 6280 ≤ 1000000)
    (k : ∀ σ' V' D' t' u', xHas V' D' g w h n → zCI σ' V' D' t' u' → QW v D cs zm_W_law 44 12000 1000000 X 82 ls [] (xGr cs qa n ra g ++ (zws G σ' ++ R)) (cells + 68) (slots + 6280)) : QW v D cs zm_W_law 44 12000 1000000 X 45 ls [] ws cells slots := by
  refine QW_perm hp ?_
  refine QW_aload_n zd_W_law_45 ho ?_
  refine QW_aload zd_W_law_46 h5 ?_
  refine QW_iload_n zd_W_law_48 h3 ?_
  refine QW_iload zd_W_law_49 h4 ?_
  refine QW_ways zd_W_law_51 zfl_W_75 ?_
  refine QW_callS (wc := xGr cs qa n ra g) (wr := zws G σ ++ R) (as := [.ref qa, iZ w, iZ h, .ref (v.2.2.1 0)]) (mc' := 12) (ms' := 6000) (X' := fun u ws => ∃ s wS, u = some (.ref s) ∧ xStr cs s (xText g w h n) wS ∧ ws = wS ++ xGr cs qa n ra g) zd_W_law_54 zl_W_121 zk_W_text zv_W_text (fr' := 13) (by decide) rfl rfl (Nat.le_of_ble_eq_true rfl) xpO ⟨by omega, by omega⟩ (q_text hw hh hn hg.2.1 (fun s wS hs => ⟨s, wS, rfl, hs, rfl⟩)) (fun u ws hu => ?_)
  obtain ⟨s, wS, rfl, hS, rfl⟩ := hu
  refine QW_callS (wc := wS ++ zws G σ) (wr := xGr cs qa n ra g ++ R) (as := [zr G 0, .ref s]) (mc' := 56) (ms' := 280) (X' := fun u ws => ∃ σ' D', u = some (iZ 1) ∧ xTape V D' (xText g w h n) ∧ zCI σ' V D' tT tU ∧ ws = wS ++ zws G σ') zd_W_law_57 zl_W_125 zk_W_feed zv_W_feed (fr' := 4) (by decide) rfl rfl (Nat.le_of_ble_eq_true rfl) xpJ ⟨by omega, by omega⟩ (q_feed hG hS (xAll_let (xText_all hw hh hn hg.1 (Nat.le_refl n))) (by have := (xText_len g w h n).2; omega) hB h0 hc (fun σ' D' h1 h2 => ⟨σ', D', rfl, h1, h2, rfl⟩)) (fun u ws hu => ?_)
  obtain ⟨σ1, D1, rfl, hT, hc1, rfl⟩ := hu
  refine QW_drop (wa := zws G σ1 ++ (xGr cs qa n ra g ++ R)) (wb := wS) xpK ?_
  refine QW_if_eq zd_W_law_60 (by decide) (fun hz => absurd hz (by decide)) (fun hz => ?_)
  refine QW_aload_n zd_W_law_63 ho ?_
  refine QW_ms (wr := xGr cs qa n ra g ++ R) (np := 0) (as := []) hG zd_W_law_64 zl_W_128 zk_B_board zv_B_board (fr' := 43) (by decide) rfl rfl rfl rfl rfl (Nat.le_of_ble_eq_true rfl) (List.Perm.refl _) ⟨by omega, by omega⟩ (Y := fun u σ' => ∃ V' D' x t' u', u = some (iZ x) ∧ yRes V D1 V' D' x ∧ zCI σ' V' D' t' u') (s_B_board hT.1 hc1 (fun σ' V' D' x t' u' h1 h2 _ => ⟨V', D', x, t', u', rfl, h1, h2⟩)) (fun u σ2 hu => ?_)
  obtain ⟨V', D2, x, t', u', rfl, hr, hc2⟩ := hu
  obtain ⟨rfl, b1, b2, b3, b4⟩ := xRes hw hh hn hn36 hg.1 hT hr
  have hBD := (yRes_D hT.1 hr).1
  refine QW_iconst zd_W_law_67 ?_
  refine QW_aload zd_W_law_68 h5 ?_
  refine QW_iconst zd_W_law_70 ?_
  refine QW_bipush zd_W_law_71 (by decide) ?_
  refine QW_callS (wc := xGr cs qa n ra g) (wr := zws G σ2 ++ R) (as := [.ref qa, iZ 1, iZ 9]) (mc' := 0) (ms' := 0) (X' := fun u ws => u = some (iZ (xMany g 1 9 n : Nat)) ∧ ws = xGr cs qa n ra g) zd_W_law_73 zl_W_112 zk_W_many zv_W_many (fr' := 0) (by decide) rfl rfl (Nat.le_of_ble_eq_true rfl) xpO ⟨by omega, by omega⟩ (q_many (by omega) hg.2.2 (by decide) (by decide) ⟨rfl, rfl⟩) (fun u ws hu => ?_)
  obtain ⟨rfl, rfl⟩ := hu
  have hm9 := xMany_le g 1 9 n
  refine QW_iadd zd_W_law_76 ?_
  refine QW_icmp_eq zd_W_law_77 ⟨⟨by omega, by omega⟩, by omega, by omega⟩ (fun hz => ?_) (fun hz => absurd rfl hz)
  exact k σ2 V' D2 t' u' ⟨b1, hBD, b2, b3, b4⟩ hc2
set_option maxHeartbeats 2000000 in
theorem q_judgeA {G : zG} {σ V Dd : zPH} {tT tU qa n : Nat} {ra : Nat → Nat} {g : Nat → Nat → Int} {w h : Int} {ls : List (Option Value)} {ws R : va_W} {cells slots : Nat} (hG : G.2.1 = D ∧ G.2.2.1 = cs) (hw : 2 ≤ w ∧ w ≤ 6) (hh : 2 ≤ h ∧ h ≤ 6) (hn : (n : Int) = w * h) (hn36 : n ≤ 36) (hg : xGood g n) (hB : zBD V Dd) (h0 : Dd 0 3 = 0) (hc : zCI σ V Dd tT tU)
    (ho : ls[2]? = some (some (zr G 0))) (h3 : ls[3]? = some (some (iZ w))) (h4 : ls[4]? = some (some (iZ h))) (h5 : ls[5]? = some (some (.ref qa))) (hp : ws.Perm (zws G σ ++ (xGr cs qa n ra g ++ R))) (hcm : cells + 68 ≤ 12000 ∧ slots + 6280 ≤ 1000000)
    (k : ∀ σ' V' D' t' u', xHas V' D' g w h n → zCI σ' V' D' t' u' → QW v D cs zm_W_law 44 12000 1000000 X 281 ls [] (xGr cs qa n ra g ++ (zws G σ' ++ R)) (cells + 68) (slots + 6280)) : QW v D cs zm_W_law 44 12000 1000000 X 244 ls [] ws cells slots := by
  refine QW_perm hp ?_
  refine QW_aload_n zd_W_law_244 ho ?_
  refine QW_aload zd_W_law_245 h5 ?_
  refine QW_iload_n zd_W_law_247 h3 ?_
  refine QW_iload zd_W_law_248 h4 ?_
  refine QW_ways zd_W_law_250 zfl_W_75 ?_
  refine QW_callS (wc := xGr cs qa n ra g) (wr := zws G σ ++ R) (as := [.ref qa, iZ w, iZ h, .ref (v.2.2.1 0)]) (mc' := 12) (ms' := 6000) (X' := fun u ws => ∃ s wS, u = some (.ref s) ∧ xStr cs s (xText g w h n) wS ∧ ws = wS ++ xGr cs qa n ra g) zd_W_law_253 zl_W_121 zk_W_text zv_W_text (fr' := 13) (by decide) rfl rfl (Nat.le_of_ble_eq_true rfl) xpO ⟨by omega, by omega⟩ (q_text hw hh hn hg.2.1 (fun s wS hs => ⟨s, wS, rfl, hs, rfl⟩)) (fun u ws hu => ?_)
  obtain ⟨s, wS, rfl, hS, rfl⟩ := hu
  refine QW_callS (wc := wS ++ zws G σ) (wr := xGr cs qa n ra g ++ R) (as := [zr G 0, .ref s]) (mc' := 56) (ms' := 280) (X' := fun u ws => ∃ σ' D', u = some (iZ 1) ∧ xTape V D' (xText g w h n) ∧ zCI σ' V D' tT tU ∧ ws = wS ++ zws G σ') zd_W_law_256 zl_W_125 zk_W_feed zv_W_feed (fr' := 4) (by decide) rfl rfl (Nat.le_of_ble_eq_true rfl) xpJ ⟨by omega, by omega⟩ (q_feed hG hS (xAll_let (xText_all hw hh hn hg.1 (Nat.le_refl n))) (by have := (xText_len g w h n).2; omega) hB h0 hc (fun σ' D' h1 h2 => ⟨σ', D', rfl, h1, h2, rfl⟩)) (fun u ws hu => ?_)
  obtain ⟨σ1, D1, rfl, hT, hc1, rfl⟩ := hu
  refine QW_drop (wa := zws G σ1 ++ (xGr cs qa n ra g ++ R)) (wb := wS) xpK ?_
  refine QW_if_eq zd_W_law_259 (by decide) (fun hz => absurd hz (by decide)) (fun hz => ?_)
  refine QW_aload_n zd_W_law_262 ho ?_
  refine QW_ms (wr := xGr cs qa n ra g ++ R) (np := 0) (as := []) hG zd_W_law_263 zl_W_128 zk_B_board zv_B_board (fr' := 43) (by decide) rfl rfl rfl rfl rfl (Nat.le_of_ble_eq_true rfl) (List.Perm.refl _) ⟨by omega, by omega⟩ (Y := fun u σ' => ∃ V' D' x t' u', u = some (iZ x) ∧ yRes V D1 V' D' x ∧ zCI σ' V' D' t' u') (s_B_board hT.1 hc1 (fun σ' V' D' x t' u' h1 h2 _ => ⟨V', D', x, t', u', rfl, h1, h2⟩)) (fun u σ2 hu => ?_)
  obtain ⟨V', D2, x, t', u', rfl, hr, hc2⟩ := hu
  obtain ⟨rfl, b1, b2, b3, b4⟩ := xRes hw hh hn hn36 hg.1 hT hr
  have hBD := (yRes_D hT.1 hr).1
  refine QW_iconst zd_W_law_266 ?_
  refine QW_aload zd_W_law_267 h5 ?_
  refine QW_iconst zd_W_law_269 ?_
  refine QW_bipush zd_W_law_270 (by decide) ?_
  refine QW_callS (wc := xGr cs qa n ra g) (wr := zws G σ2 ++ R) (as := [.ref qa, iZ 1, iZ 9]) (mc' := 0) (ms' := 0) (X' := fun u ws => u = some (iZ (xMany g 1 9 n : Nat)) ∧ ws = xGr cs qa n ra g) zd_W_law_272 zl_W_112 zk_W_many zv_W_many (fr' := 0) (by decide) rfl rfl (Nat.le_of_ble_eq_true rfl) xpO ⟨by omega, by omega⟩ (q_many (by omega) hg.2.2 (by decide) (by decide) ⟨rfl, rfl⟩) (fun u ws hu => ?_)
  obtain ⟨rfl, rfl⟩ := hu
  have hm9 := xMany_le g 1 9 n
  refine QW_iadd zd_W_law_275 ?_
  refine QW_icmp_eq zd_W_law_276 ⟨⟨by omega, by omega⟩, by omega, by omega⟩ (fun hz => ?_) (fun hz => absurd rfl hz)
  exact k σ2 V' D2 t' u' ⟨b1, hBD, b2, b3, b4⟩ hc2
set_option maxHeartbeats 2000000 in
theorem q_judgeB {G : zG} {σ V Dd : zPH} {tT tU qa n : Nat} {ra : Nat → Nat} {g : Nat → Nat → Int} {w h : Int} {ls : List (Option Value)} {ws R : va_W} {cells slots : Nat} (hG : G.2.1 = D ∧ G.2.2.1 = cs) (hw : 2 ≤ w ∧ w ≤ 6) (hh : 2 ≤ h ∧ h ≤ 6) (hn : (n : Int) = w * h) (hn36 : n ≤ 36) (hg : xGood g n) (hB : zBD V Dd) (h0 : Dd 0 3 = 0) (hc : zCI σ V Dd tT tU)
    (ho : ls[2]? = some (some (zr G 0))) (h3 : ls[3]? = some (some (iZ w))) (h4 : ls[4]? = some (some (iZ h))) (h5 : ls[5]? = some (some (.ref qa))) (hp : ws.Perm (zws G σ ++ (xGr cs qa n ra g ++ R))) (hcm : cells + 68 ≤ 12000 ∧ slots + 6280 ≤ 1000000)
    (k : ∀ σ' V' D' t' u', xHas V' D' g w h n → zCI σ' V' D' t' u' → QW v D cs zm_W_law 44 12000 1000000 X 397 ls [] (xGr cs qa n ra g ++ (zws G σ' ++ R)) (cells + 68) (slots + 6280)) : QW v D cs zm_W_law 44 12000 1000000 X 360 ls [] ws cells slots := by
  refine QW_perm hp ?_
  refine QW_aload_n zd_W_law_360 ho ?_
  refine QW_aload zd_W_law_361 h5 ?_
  refine QW_iload_n zd_W_law_363 h3 ?_
  refine QW_iload zd_W_law_364 h4 ?_
  refine QW_ways zd_W_law_366 zfl_W_75 ?_
  refine QW_callS (wc := xGr cs qa n ra g) (wr := zws G σ ++ R) (as := [.ref qa, iZ w, iZ h, .ref (v.2.2.1 0)]) (mc' := 12) (ms' := 6000) (X' := fun u ws => ∃ s wS, u = some (.ref s) ∧ xStr cs s (xText g w h n) wS ∧ ws = wS ++ xGr cs qa n ra g) zd_W_law_369 zl_W_121 zk_W_text zv_W_text (fr' := 13) (by decide) rfl rfl (Nat.le_of_ble_eq_true rfl) xpO ⟨by omega, by omega⟩ (q_text hw hh hn hg.2.1 (fun s wS hs => ⟨s, wS, rfl, hs, rfl⟩)) (fun u ws hu => ?_)
  obtain ⟨s, wS, rfl, hS, rfl⟩ := hu
  refine QW_callS (wc := wS ++ zws G σ) (wr := xGr cs qa n ra g ++ R) (as := [zr G 0, .ref s]) (mc' := 56) (ms' := 280) (X' := fun u ws => ∃ σ' D', u = some (iZ 1) ∧ xTape V D' (xText g w h n) ∧ zCI σ' V D' tT tU ∧ ws = wS ++ zws G σ') zd_W_law_372 zl_W_125 zk_W_feed zv_W_feed (fr' := 4) (by decide) rfl rfl (Nat.le_of_ble_eq_true rfl) xpJ ⟨by omega, by omega⟩ (q_feed hG hS (xAll_let (xText_all hw hh hn hg.1 (Nat.le_refl n))) (by have := (xText_len g w h n).2; omega) hB h0 hc (fun σ' D' h1 h2 => ⟨σ', D', rfl, h1, h2, rfl⟩)) (fun u ws hu => ?_)
  obtain ⟨σ1, D1, rfl, hT, hc1, rfl⟩ := hu
  refine QW_drop (wa := zws G σ1 ++ (xGr cs qa n ra g ++ R)) (wb := wS) xpK ?_
  refine QW_if_eq zd_W_law_375 (by decide) (fun hz => absurd hz (by decide)) (fun hz => ?_)
  refine QW_aload_n zd_W_law_378 ho ?_
  refine QW_ms (wr := xGr cs qa n ra g ++ R) (np := 0) (as := []) hG zd_W_law_379 zl_W_128 zk_B_board zv_B_board (fr' := 43) (by decide) rfl rfl rfl rfl rfl (Nat.le_of_ble_eq_true rfl) (List.Perm.refl _) ⟨by omega, by omega⟩ (Y := fun u σ' => ∃ V' D' x t' u', u = some (iZ x) ∧ yRes V D1 V' D' x ∧ zCI σ' V' D' t' u') (s_B_board hT.1 hc1 (fun σ' V' D' x t' u' h1 h2 _ => ⟨V', D', x, t', u', rfl, h1, h2⟩)) (fun u σ2 hu => ?_)
  obtain ⟨V', D2, x, t', u', rfl, hr, hc2⟩ := hu
  obtain ⟨rfl, b1, b2, b3, b4⟩ := xRes hw hh hn hn36 hg.1 hT hr
  have hBD := (yRes_D hT.1 hr).1
  refine QW_iconst zd_W_law_382 ?_
  refine QW_aload zd_W_law_383 h5 ?_
  refine QW_iconst zd_W_law_385 ?_
  refine QW_bipush zd_W_law_386 (by decide) ?_
  refine QW_callS (wc := xGr cs qa n ra g) (wr := zws G σ2 ++ R) (as := [.ref qa, iZ 1, iZ 9]) (mc' := 0) (ms' := 0) (X' := fun u ws => u = some (iZ (xMany g 1 9 n : Nat)) ∧ ws = xGr cs qa n ra g) zd_W_law_388 zl_W_112 zk_W_many zv_W_many (fr' := 0) (by decide) rfl rfl (Nat.le_of_ble_eq_true rfl) xpO ⟨by omega, by omega⟩ (q_many (by omega) hg.2.2 (by decide) (by decide) ⟨rfl, rfl⟩) (fun u ws hu => ?_)
  obtain ⟨rfl, rfl⟩ := hu
  have hm9 := xMany_le g 1 9 n
  refine QW_iadd zd_W_law_391 ?_
  refine QW_icmp_eq zd_W_law_392 ⟨⟨by omega, by omega⟩, by omega, by omega⟩ (fun hz => ?_) (fun hz => absurd rfl hz)
  exact k σ2 V' D2 t' u' ⟨b1, hBD, b2, b3, b4⟩ hc2
end JUDGE
