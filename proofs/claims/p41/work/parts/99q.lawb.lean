section LAWB
variable {v : xEv} {D : va_G} {cs : Nat → ClassId} {X : xX}
set_option maxHeartbeats 4000000 in
/-- the sorts are kept; then square after square -/
theorem q_law2 {Go Gp : zG} {qa qs qt n : Nat} {ra : Nat → Nat} {w h : Int} (hGo : Go.2.1 = D ∧ Go.2.2.1 = cs) (hGp : Gp.2.1 = D ∧ Gp.2.2.1 = cs) (hw : 2 ≤ w ∧ w ≤ 6) (hh : 2 ≤ h ∧ h ≤ 6) (hn : (n : Int) = w * h) (hn36 : n ≤ 36) {Vo Do : zPH} {to uo : Nat} {g : Nat → Nat → Int} (hg : xGood g n) (hHo : xHas Vo Do g w h n) (k : ∀ W : va_W, X (some (iZ 1)) W) {σo : zPH} (hco : zCI σo Vo Do to uo) : QW v D cs zm_W_law 44 12000 1000000 X 100 [some (.ref (v.2.2.1 3)), some (zr Go 0), some (zr Gp 0), some (iZ w), some (iZ h), some (.ref qa), some (.ref qs), some (.ref qt), none, none, none, none, none] [] (xGr cs qa n ra g ++ (zws Go σo ++ (zws Gp zs0 ++ [(qs, Sum.inl (cs 0, zarr 0 (4 * n) (fun _ => 0))), (qt, Sum.inl (cs 0, zarr 0 n (fun _ => 0)))]))) 400 50000 := by
  have loop : ∀ d i : Nat, i + d = n → ∀ f : Nat → Int, (∀ j, j < i → f j = g j 0) → QW v D cs zm_W_law 44 12000 1000000 X 103 [some (.ref (v.2.2.1 3)), some (zr Go 0), some (zr Gp 0), some (iZ w), some (iZ h), some (.ref qa), some (.ref qs), some (.ref qt), some (iZ (i : Int)), none, none, none, none] [] (xGr cs qa n ra g ++ (zws Go σo ++ (zws Gp zs0 ++ [(qs, Sum.inl (cs 0, zarr 0 (4 * n) (fun _ => 0))), (qt, Sum.inl (cs 0, zarr 0 n f))]))) 400 50000 := by
    intro d
    induction d with
    | zero =>
      intro i hi f hf
      obtain rfl : i = n := hi
      refine QW_iload zd_W_law_103 rfl ?_
      refine QW_iload_n zd_W_law_105 rfl ?_
      refine QW_iload zd_W_law_106 rfl ?_
      refine QW_imul zd_W_law_108 ?_
      refine QW_z hn.symm ?_
      refine QW_icmp_ge zd_W_law_109 ⟨⟨by omega, by omega⟩, by omega, by omega⟩ (fun hz => ?_) (fun hz => by omega)
      refine QW_iconst zd_W_law_130 ?_
      refine QW_istore zd_W_law_131 rfl (by decide) rfl ?_
      exact q_squares2 hGo hGp hw hh hn hn36 hg hHo hf k i 0 (Nat.zero_add i) g σo zs0 zV0 zD0 32 45 (fun _ => 0) none none none none (fun j hj => ⟨rfl, rfl⟩) hco ⟨zBD0, zCI0, rfl⟩ (fun t ht => (xBi_0 (fun b _ hb => by obtain ⟨k, ⟨h1, -⟩, -⟩ := hb; exact absurd h1 (Nat.not_lt_zero _))).symm)
    | succ d ih =>
      intro i hi f hf
      have hin : i < n := by omega
      refine QW_iload zd_W_law_103 rfl ?_
      refine QW_iload_n zd_W_law_105 rfl ?_
      refine QW_iload zd_W_law_106 rfl ?_
      refine QW_imul zd_W_law_108 ?_
      refine QW_z hn.symm ?_
      refine QW_icmp_ge zd_W_law_109 ⟨⟨by omega, by omega⟩, by omega, by omega⟩ (fun hz => by omega) (fun hz => ?_)
      refine QW_aload zd_W_law_112 rfl ?_
      refine QW_iload zd_W_law_114 rfl ?_
      refine QW_aload zd_W_law_116 rfl ?_
      refine QW_iload zd_W_law_118 rfl ?_
      refine QW_gref zd_W_law_120 hin (by omega) ?_
      refine QW_iconst zd_W_law_121 ?_
      refine QW_gget zd_W_law_122 hin ⟨by decide, by decide⟩ ?_
      refine QW_z (show _ = g i 0 from rfl) ?_
      refine QW_iast (f := f) zd_W_law_123 xpT ⟨by omega, by omega⟩ (by omega) ?_
      refine QW_perm (ws' := xGr cs qa n ra g ++ (zws Go σo ++ (zws Gp zs0 ++ [(qs, Sum.inl (cs 0, zarr 0 (4 * n) (fun _ => 0))), (qt, Sum.inl (cs 0, zarr 0 n (zaU f (i : Int).toNat (g i 0))))]))) xpT.symm ?_
      refine QW_iinc zd_W_law_124 rfl rfl (by decide) rfl ?_
      refine QW_goto zd_W_law_127 ?_
      have := ih (i + 1) (by omega) (zaU f (i : Int).toNat (g i 0)) (fun j hj => ?_)
      · rwa [Int.natCast_add] at this
      · rw [Int.toNat_natCast]
        by_cases q : j = i
        · subst q; exact zaU_s
        · rw [zaU_n q]; exact hf j (by omega)
  refine QW_iconst zd_W_law_100 ?_
  refine QW_istore zd_W_law_101 rfl (by decide) rfl ?_
  exact loop n 0 (Nat.zero_add n) _ (fun j hj => absurd hj (Nat.not_lt_zero _))
set_option maxHeartbeats 4000000 in
theorem q_law (k : ∀ W : va_W, X (some (iZ 1)) W) : QW v D cs zm_W_law 44 12000 1000000 X 0 [some (.ref (v.2.2.1 3)), none, none, none, none, none, none, none, none, none, none, none, none] [] [] 0 0 := by
  refine QW_newN (ci' := 6) (f0 := zf0_B) zd_W_law_0 zd_W_law_3 zd_W_law_4 rfl zwd_20 zwd_21 zwd_1 zo_B zinit_B zk_B_init rfl zl_W_116 rfl (zin1 23 (by decide +kernel) rfl) (by decide) ⟨by decide, by decide⟩ (Nat.le_of_ble_eq_true rfl) (fun q1 w1 h1 => ?_)
  refine QW_astore_n zd_W_law_7 rfl (by decide) rfl ?_
  obtain ⟨ad1, rfl, p1⟩ := zst_p (D := D) h1
  refine QW_newN (ci' := 6) (f0 := zf0_B) zd_W_law_8 zd_W_law_11 zd_W_law_12 rfl zwd_20 zwd_21 zwd_1 zo_B zinit_B zk_B_init rfl zl_W_116 rfl (zin1 23 (by decide +kernel) rfl) (by decide) ⟨by decide, by decide⟩ (Nat.le_of_ble_eq_true rfl) (fun q2 w2 h2 => ?_)
  refine QW_astore_n zd_W_law_15 rfl (by decide) rfl ?_
  obtain ⟨ad2, rfl, p2⟩ := zst_p (D := D) h2
  refine QW_perm (ws' := zws (ad1, D, cs, 0) zs0 ++ zws (ad2, D, cs, 0) zs0) ((p2.append (p1.append_right [])).trans (by rw [List.append_nil]; exact List.perm_append_comm)) ?_
  refine QW_iconst zd_W_law_16 ?_
  refine QW_aload_n zd_W_law_17 rfl ?_
  refine QW_iconst zd_W_law_18 ?_
  refine QW_iconst zd_W_law_19 ?_
  refine QW_callS (wc := []) (wr := zws (ad1, D, cs, 0) zs0 ++ zws (ad2, D, cs, 0) zs0) (as := [.ref (v.2.2.1 3), iZ 0, iZ 5]) (mc' := 0) (ms' := 0) (X' := fun u w => ∃ r, (0 ≤ r ∧ r < 5) ∧ u = some (iZ r) ∧ w = []) zd_W_law_20 zl_W_41 zk_W_pick_ zv_W_pick_ (fr' := 1) (by decide) rfl rfl (Nat.le_of_ble_eq_true rfl) (List.Perm.refl _) ⟨by omega, by omega⟩ (q_pickn (by decide) (by decide) (fun r h1 h2 => ⟨r, ⟨h1, h2⟩, rfl, rfl⟩)) (fun u w hu => ?_)
  obtain ⟨r1, hr1, rfl, rfl⟩ := hu
  refine QW_perm (ws' := zws (ad1, D, cs, 0) zs0 ++ zws (ad2, D, cs, 0) zs0) (List.Perm.refl _) ?_
  refine QW_iadd zd_W_law_23 ?_
  refine QW_istore_n zd_W_law_24 rfl (by decide) rfl ?_
  refine QW_iconst zd_W_law_25 ?_
  refine QW_aload_n zd_W_law_26 rfl ?_
  refine QW_iconst zd_W_law_27 ?_
  refine QW_iconst zd_W_law_28 ?_
  refine QW_callS (wc := []) (wr := zws (ad1, D, cs, 0) zs0 ++ zws (ad2, D, cs, 0) zs0) (as := [.ref (v.2.2.1 3), iZ 1, iZ 5]) (mc' := 0) (ms' := 0) (X' := fun u w => ∃ r, (0 ≤ r ∧ r < 5) ∧ u = some (iZ r) ∧ w = []) zd_W_law_29 zl_W_41 zk_W_pick_ zv_W_pick_ (fr' := 1) (by decide) rfl rfl (Nat.le_of_ble_eq_true rfl) (List.Perm.refl _) ⟨by omega, by omega⟩ (q_pickn (by decide) (by decide) (fun r h1 h2 => ⟨r, ⟨h1, h2⟩, rfl, rfl⟩)) (fun u w hu => ?_)
  obtain ⟨r2, hr2, rfl, rfl⟩ := hu
  refine QW_perm (ws' := zws (ad1, D, cs, 0) zs0 ++ zws (ad2, D, cs, 0) zs0) (List.Perm.refl _) ?_
  refine QW_iadd zd_W_law_32 ?_
  refine QW_istore zd_W_law_33 rfl (by decide) rfl ?_
  have hw : 2 ≤ 2 + r1 ∧ 2 + r1 ≤ 6 := by omega
  have hh : 2 ≤ 2 + r2 ∧ 2 + r2 ≤ 6 := by omega
  generalize 2 + r1 = w at hw ⊢
  generalize 2 + r2 = h at hh ⊢
  have hmul : 0 ≤ w * h := Int.mul_nonneg (by omega) (by omega)
  obtain ⟨n, hn⟩ := Int.eq_ofNat_of_zero_le hmul
  have hn : (n : Int) = w * h := hn.symm
  have hn36 : n ≤ 36 := by
    have : w * h ≤ 6 * 6 := Int.mul_le_mul hw.2 hh.2 (by omega) (by omega)
    omega
  refine QW_aload_n zd_W_law_35 rfl ?_
  refine QW_iload_n zd_W_law_36 rfl ?_
  refine QW_iload zd_W_law_37 rfl ?_
  refine QW_iconst zd_W_law_39 ?_
  refine QW_callS (wc := []) (wr := zws (ad1, D, cs, 0) zs0 ++ zws (ad2, D, cs, 0) zs0) (as := [.ref (v.2.2.1 3), iZ w, iZ h, iZ 0]) (mc' := 40) (ms' := 160) (X' := fun u ws => ∃ qa ra g, u = some (.ref qa) ∧ xSqs g n ∧ ws = xGr cs qa n ra g) zd_W_law_40 zl_W_117 zk_W_squares zv_W_squares (fr' := 2) (by decide) rfl rfl (Nat.le_of_ble_eq_true rfl) (List.Perm.refl _) ⟨by decide, by decide⟩ (q_squares hw hh hn (fun qa ra g hg => ⟨qa, ra, g, rfl, hg, rfl⟩)) (fun u ws hu => ?_)
  obtain ⟨qa, ra, g, rfl, hg, rfl⟩ := hu
  have hg := xSqs_good hg
  refine QW_astore zd_W_law_43 rfl (by decide) rfl ?_
  refine q_judgeO (G := (ad1, D, cs, 0)) (R := zws (ad2, D, cs, 0) zs0) ⟨rfl, rfl⟩ hw hh hn hn36 hg zBD0 rfl zCI0 rfl rfl rfl rfl xpO ⟨by decide, by decide⟩ (fun σ1 V1 D1 t1 u1 hH1 hc1 => ?_)
  refine QW_iconst zd_W_law_82 ?_
  refine QW_iload_n zd_W_law_83 rfl ?_
  refine QW_imul zd_W_law_84 ?_
  refine QW_iload zd_W_law_85 rfl ?_
  refine QW_imul zd_W_law_87 ?_
  refine QW_z (show _ = ((4 * n : Nat) : Int) by rw [Int.mul_assoc, ← hn]; omega) ?_
  refine QW_newa (i := 0) (N := 4 * n) zd_W_law_88 (by decide) rfl (zin1 64 (by decide +kernel) rfl) rfl (by omega) ⟨by omega, by omega⟩ (fun qs => ?_)
  refine QW_astore zd_W_law_90 rfl (by decide) rfl ?_
  refine QW_iload_n zd_W_law_92 rfl ?_
  refine QW_iload zd_W_law_93 rfl ?_
  refine QW_imul zd_W_law_95 ?_
  refine QW_z hn.symm ?_
  refine QW_newa (i := 0) (N := n) zd_W_law_96 (by decide) rfl (zin1 64 (by decide +kernel) rfl) rfl (by omega) ⟨by omega, by omega⟩ (fun qt => ?_)
  refine QW_astore zd_W_law_98 rfl (by decide) rfl ?_
  refine QW_perm (ws' := xGr cs qa n ra g ++ (zws (ad1, D, cs, 0) σ1 ++ (zws (ad2, D, cs, 0) zs0 ++ [(qs, Sum.inl (cs 0, zarr 0 (4 * n) (fun _ => 0))), (qt, Sum.inl (cs 0, zarr 0 n (fun _ => 0)))]))) (by simp only [List.append_assoc, List.singleton_append]; exact List.Perm.refl _) ?_
  refine QW_widen (c' := 400) (s' := 50000) (by omega) (by omega) ?_
  exact q_law2 (Go := (ad1, D, cs, 0)) (Gp := (ad2, D, cs, 0)) ⟨rfl, rfl⟩ ⟨rfl, rfl⟩ hw hh hn hn36 hg hH1 k hc1
end LAWB
