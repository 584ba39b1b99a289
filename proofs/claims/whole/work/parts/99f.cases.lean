theorem zcase_19 {G : zG} {p : Program} {l : Launch} {e : Env} {s : State} {m : MethodId} {below : List Frame} {meth : Method} {c : Code} {b L : Nat} {xs : Nat → Int32} {Z : State → Prop} {i : Int} {σ : zPH} (C : zLC G p s m c b L xs) (hi : 0 ≤ i ∧ i + 6 ≤ L) (hI : zInv σ) (k : ∀ σ', zInv σ' → LW G p l e s m below meth c b Z i 1206 [] σ') : LW G p l e s m below meth c b Z i 707 [] σ := by
  obtain ⟨V, D, t, u, hB, hC, hM⟩ := hI
  refine LW_x C zd_W_law_707 ?_
  refine LW_call C (fr' := 7) (q := 0) (as := []) (st := []) zd_W_law_708 zl_W_96 zk_B_met zv_B_met (Nat.le_of_ble_eq_true rfl) (zs_0 _) rfl rfl rfl rfl (Nat.le_of_ble_eq_true rfl) ?_
  refine s_B_met hB hC  (fun σ1 x1 a1 c1 f1 => ?_)
  refine LW_v ?_
  refine LW_m C zd_W_law_711 ?_
  refine LW_call C (fr' := 9) (q := 58) (as := []) (st := [iZ x1]) zd_W_law_712 zl_W_99 zk_M_met zv_M_met (Nat.le_of_ble_eq_true rfl) (zs_58 _) rfl rfl rfl rfl (Nat.le_of_ble_eq_true rfl) ?_
  refine s_M_met hB (zMI_B f1 hM)  (fun σ2 x2 a2 m2 f2 => ?_)
  refine LW_v ?_
  obtain rfl := zMet_u a1 a2
  refine LW_cmp C zd_W_law_715 ?_
  exact k _ ⟨V, D, t, u, hB, zCI_A f2 c1, m2⟩
theorem zcase_20 {G : zG} {p : Program} {l : Launch} {e : Env} {s : State} {m : MethodId} {below : List Frame} {meth : Method} {c : Code} {b L : Nat} {xs : Nat → Int32} {Z : State → Prop} {i : Int} {σ : zPH} (C : zLC G p s m c b L xs) (hi : 0 ≤ i ∧ i + 6 ≤ L) (hI : zInv σ) (k : ∀ σ', zInv σ' → LW G p l e s m below meth c b Z i 1206 [] σ') : LW G p l e s m below meth c b Z i 720 [] σ := by
  obtain ⟨V, D, t, u, hB, hC, hM⟩ := hI
  refine LW_x C zd_W_law_720 ?_
  refine LW_arg C (j := 1) hi (by decide) zd_W_law_721 zd_W_law_722 zd_W_law_723 zd_W_law_724 zd_W_law_725 ?_
  refine LW_ne0 C (zxI _) zd_W_law_726 zd_W_law_729 zd_W_law_730 zd_W_law_733 (fun w hw ew => ?_)
  refine LW_call C (fr' := 7) (q := 0) (as := [iZ w]) (st := []) zd_W_law_734 zl_W_100 zk_B_fewest zv_B_fewest (Nat.le_of_ble_eq_true rfl) (zs_0 _) rfl rfl rfl rfl (Nat.le_of_ble_eq_true rfl) ?_
  refine s_B_fewest hB hC (hw) (fun σ1 x1 a1 c1 f1 => ?_)
  refine LW_v ?_
  refine LW_m C zd_W_law_737 ?_
  refine LW_arg C (j := 1) hi (by decide) zd_W_law_738 zd_W_law_739 zd_W_law_740 zd_W_law_741 zd_W_law_742 ?_
  refine LW_ne0 C (zxI _) zd_W_law_743 zd_W_law_746 zd_W_law_747 zd_W_law_750 (fun w2 hw2 ew2 => ?_)
  rw [← ew] at ew2
  subst ew2
  refine LW_call C (fr' := 9) (q := 58) (as := [iZ w2]) (st := [iZ x1]) zd_W_law_751 zl_W_104 zk_M_fewest zv_M_fewest (Nat.le_of_ble_eq_true rfl) (zs_58 _) rfl rfl rfl rfl (Nat.le_of_ble_eq_true rfl) ?_
  refine s_M_fewest hB (zMI_B f1 hM) (hw2) (fun σ2 x2 a2 m2 f2 => ?_)
  refine LW_v ?_
  obtain rfl := zFew_u a1 a2
  refine LW_cmp C zd_W_law_754 ?_
  exact k _ ⟨V, D, t, u, hB, zCI_A f2 c1, m2⟩
theorem zcase_21 {G : zG} {p : Program} {l : Launch} {e : Env} {s : State} {m : MethodId} {below : List Frame} {meth : Method} {c : Code} {b L : Nat} {xs : Nat → Int32} {Z : State → Prop} {i : Int} {σ : zPH} (C : zLC G p s m c b L xs) (hi : 0 ≤ i ∧ i + 6 ≤ L) (hI : zInv σ) (k : ∀ σ', zInv σ' → LW G p l e s m below meth c b Z i 1206 [] σ') : LW G p l e s m below meth c b Z i 759 [] σ := by
  obtain ⟨V, D, t, u, hB, hC, hM⟩ := hI
  refine LW_x C zd_W_law_759 ?_
  refine LW_arg C (j := 1) hi (by decide) zd_W_law_760 zd_W_law_761 zd_W_law_762 zd_W_law_763 zd_W_law_764 ?_
  refine LW_arg C (j := 2) hi (by decide) zd_W_law_765 zd_W_law_766 zd_W_law_767 zd_W_law_768 zd_W_law_769 ?_
  refine LW_call C (fr' := 6) (q := 0) (as := [iZ (xs (i + 1).toNat).toInt, iZ (xs (i + 2).toNat).toInt]) (st := []) zd_W_law_770 zl_W_105 zk_B_needed zv_B_needed (Nat.le_of_ble_eq_true rfl) (zs_0 _) rfl rfl rfl rfl (Nat.le_of_ble_eq_true rfl) ?_
  refine s_B_needed hB hC (zxI _) (zxI _) (fun σ1 x1 a1 c1 f1 => ?_)
  refine LW_v ?_
  refine LW_m C zd_W_law_773 ?_
  refine LW_arg C (j := 1) hi (by decide) zd_W_law_774 zd_W_law_775 zd_W_law_776 zd_W_law_777 zd_W_law_778 ?_
  refine LW_arg C (j := 2) hi (by decide) zd_W_law_779 zd_W_law_780 zd_W_law_781 zd_W_law_782 zd_W_law_783 ?_
  refine LW_call C (fr' := 8) (q := 58) (as := [iZ (xs (i + 1).toNat).toInt, iZ (xs (i + 2).toNat).toInt]) (st := [iZ x1]) zd_W_law_784 zl_W_108 zk_M_needed zv_M_needed (Nat.le_of_ble_eq_true rfl) (zs_58 _) rfl rfl rfl rfl (Nat.le_of_ble_eq_true rfl) ?_
  refine s_M_needed hB (zMI_B f1 hM) (zxI _) (zxI _) (fun σ2 x2 a2 m2 f2 => ?_)
  refine LW_v ?_
  obtain rfl := zNed_u a1 a2
  refine LW_cmp C zd_W_law_787 ?_
  exact k _ ⟨V, D, t, u, hB, zCI_A f2 c1, m2⟩
theorem zcase_22 {G : zG} {p : Program} {l : Launch} {e : Env} {s : State} {m : MethodId} {below : List Frame} {meth : Method} {c : Code} {b L : Nat} {xs : Nat → Int32} {Z : State → Prop} {i : Int} {σ : zPH} (C : zLC G p s m c b L xs) (hi : 0 ≤ i ∧ i + 6 ≤ L) (hI : zInv σ) (k : ∀ σ', zInv σ' → LW G p l e s m below meth c b Z i 1206 [] σ') : LW G p l e s m below meth c b Z i 792 [] σ := by
  obtain ⟨V, D, t, u, hB, hC, hM⟩ := hI
  refine LW_x C zd_W_law_792 ?_
  refine LW_arg C (j := 1) hi (by decide) zd_W_law_793 zd_W_law_794 zd_W_law_795 zd_W_law_796 zd_W_law_797 ?_
  refine LW_arg C (j := 2) hi (by decide) zd_W_law_798 zd_W_law_799 zd_W_law_800 zd_W_law_801 zd_W_law_802 ?_
  refine LW_call C (fr' := 7) (q := 0) (as := [iZ (xs (i + 1).toNat).toInt, iZ (xs (i + 2).toNat).toInt]) (st := []) zd_W_law_803 zl_W_109 zk_B_shadow zv_B_shadow (Nat.le_of_ble_eq_true rfl) (zs_0 _) rfl rfl rfl rfl (Nat.le_of_ble_eq_true rfl) ?_
  refine s_B_shadow hB hC (zxI _) (zxI _) (fun σ1 x1 a1 c1 f1 => ?_)
  refine LW_v ?_
  refine LW_m C zd_W_law_806 ?_
  refine LW_arg C (j := 1) hi (by decide) zd_W_law_807 zd_W_law_808 zd_W_law_809 zd_W_law_810 zd_W_law_811 ?_
  refine LW_arg C (j := 2) hi (by decide) zd_W_law_812 zd_W_law_813 zd_W_law_814 zd_W_law_815 zd_W_law_816 ?_
  refine LW_call C (fr' := 9) (q := 58) (as := [iZ (xs (i + 1).toNat).toInt, iZ (xs (i + 2).toNat).toInt]) (st := [iZ x1]) zd_W_law_817 zl_W_112 zk_M_shadow zv_M_shadow (Nat.le_of_ble_eq_true rfl) (zs_58 _) rfl rfl rfl rfl (Nat.le_of_ble_eq_true rfl) ?_
  refine s_M_shadow hB (zMI_B f1 hM) (zxI _) (zxI _) (fun σ2 x2 a2 m2 f2 => ?_)
  refine LW_v ?_
  obtain rfl := zSha_u a1 a2
  refine LW_cmp C zd_W_law_820 ?_
  exact k _ ⟨V, D, t, u, hB, zCI_A f2 c1, m2⟩
theorem zcase_23 {G : zG} {p : Program} {l : Launch} {e : Env} {s : State} {m : MethodId} {below : List Frame} {meth : Method} {c : Code} {b L : Nat} {xs : Nat → Int32} {Z : State → Prop} {i : Int} {σ : zPH} (C : zLC G p s m c b L xs) (hi : 0 ≤ i ∧ i + 6 ≤ L) (hI : zInv σ) (k : ∀ σ', zInv σ' → LW G p l e s m below meth c b Z i 1206 [] σ') : LW G p l e s m below meth c b Z i 825 [] σ := by
  obtain ⟨V, D, t, u, hB, hC, hM⟩ := hI
  refine LW_x C zd_W_law_825 ?_
  refine LW_arg C (j := 1) hi (by decide) zd_W_law_826 zd_W_law_827 zd_W_law_828 zd_W_law_829 zd_W_law_830 ?_
  refine LW_call C (fr' := 7) (q := 0) (as := [iZ (xs (i + 1).toNat).toInt]) (st := []) zd_W_law_831 zl_W_113 zk_B_darkest zv_B_darkest (Nat.le_of_ble_eq_true rfl) (zs_0 _) rfl rfl rfl rfl (Nat.le_of_ble_eq_true rfl) ?_
  refine s_B_darkest hB hC (zxI _) (fun σ1 x1 a1 c1 f1 => ?_)
  refine LW_v ?_
  refine LW_m C zd_W_law_834 ?_
  refine LW_arg C (j := 1) hi (by decide) zd_W_law_835 zd_W_law_836 zd_W_law_837 zd_W_law_838 zd_W_law_839 ?_
  refine LW_call C (fr' := 9) (q := 58) (as := [iZ (xs (i + 1).toNat).toInt]) (st := [iZ x1]) zd_W_law_840 zl_W_116 zk_M_darkest zv_M_darkest (Nat.le_of_ble_eq_true rfl) (zs_58 _) rfl rfl rfl rfl (Nat.le_of_ble_eq_true rfl) ?_
  refine s_M_darkest hB (zMI_B f1 hM) (zxI _) (fun σ2 x2 a2 m2 f2 => ?_)
  refine LW_v ?_
  obtain rfl := zDrk_u a1 a2
  refine LW_cmp C zd_W_law_843 ?_
  exact k _ ⟨V, D, t, u, hB, zCI_A f2 c1, m2⟩
theorem zcase_24 {G : zG} {p : Program} {l : Launch} {e : Env} {s : State} {m : MethodId} {below : List Frame} {meth : Method} {c : Code} {b L : Nat} {xs : Nat → Int32} {Z : State → Prop} {i : Int} {σ : zPH} (C : zLC G p s m c b L xs) (hi : 0 ≤ i ∧ i + 6 ≤ L) (hI : zInv σ) (k : ∀ σ', zInv σ' → LW G p l e s m below meth c b Z i 1206 [] σ') : LW G p l e s m below meth c b Z i 848 [] σ := by
  obtain ⟨V, D, t, u, hB, hC, hM⟩ := hI
  refine LW_x C zd_W_law_848 ?_
  refine LW_arg C (j := 1) hi (by decide) zd_W_law_849 zd_W_law_850 zd_W_law_851 zd_W_law_852 zd_W_law_853 ?_
  refine LW_call C (fr' := 7) (q := 0) (as := [iZ (xs (i + 1).toNat).toInt]) (st := []) zd_W_law_854 zl_W_117 zk_B_more zv_B_more (Nat.le_of_ble_eq_true rfl) (zs_0 _) rfl rfl rfl rfl (Nat.le_of_ble_eq_true rfl) ?_
  refine s_B_more hB hC (zxI _) (fun σ1 x1 a1 c1 f1 => ?_)
  refine LW_v ?_
  refine LW_m C zd_W_law_857 ?_
  refine LW_arg C (j := 1) hi (by decide) zd_W_law_858 zd_W_law_859 zd_W_law_860 zd_W_law_861 zd_W_law_862 ?_
  refine LW_call C (fr' := 9) (q := 58) (as := [iZ (xs (i + 1).toNat).toInt]) (st := [iZ x1]) zd_W_law_863 zl_W_120 zk_M_more zv_M_more (Nat.le_of_ble_eq_true rfl) (zs_58 _) rfl rfl rfl rfl (Nat.le_of_ble_eq_true rfl) ?_
  refine s_M_more hB (zMI_B f1 hM) (zxI _) (fun σ2 x2 a2 m2 f2 => ?_)
  refine LW_v ?_
  obtain rfl := zMor_u a1 a2
  refine LW_cmp C zd_W_law_866 ?_
  exact k _ ⟨V, D, t, u, hB, zCI_A f2 c1, m2⟩
theorem zcase_25 {G : zG} {p : Program} {l : Launch} {e : Env} {s : State} {m : MethodId} {below : List Frame} {meth : Method} {c : Code} {b L : Nat} {xs : Nat → Int32} {Z : State → Prop} {i : Int} {σ : zPH} (C : zLC G p s m c b L xs) (hi : 0 ≤ i ∧ i + 6 ≤ L) (hI : zInv σ) (k : ∀ σ', zInv σ' → LW G p l e s m below meth c b Z i 1206 [] σ') : LW G p l e s m below meth c b Z i 871 [] σ := by
  obtain ⟨V, D, t, u, hB, hC, hM⟩ := hI
  refine LW_x C zd_W_law_871 ?_
  refine LW_arg C (j := 1) hi (by decide) zd_W_law_872 zd_W_law_873 zd_W_law_874 zd_W_law_875 zd_W_law_876 ?_
  refine LW_call C (fr' := 7) (q := 0) (as := [iZ (xs (i + 1).toNat).toInt]) (st := []) zd_W_law_877 zl_W_121 zk_B_solutions zv_B_solutions (Nat.le_of_ble_eq_true rfl) (zs_0 _) rfl rfl rfl rfl (Nat.le_of_ble_eq_true rfl) ?_
  refine s_B_solutions hB hC (zxI _) (fun σ1 x1 a1 c1 f1 => ?_)
  refine LW_v ?_
  refine LW_m C zd_W_law_880 ?_
  refine LW_arg C (j := 1) hi (by decide) zd_W_law_881 zd_W_law_882 zd_W_law_883 zd_W_law_884 zd_W_law_885 ?_
  refine LW_call C (fr' := 10) (q := 58) (as := [iZ (xs (i + 1).toNat).toInt]) (st := [iZ x1]) zd_W_law_886 zl_W_124 zk_M_solutions zv_M_solutions (Nat.le_of_ble_eq_true rfl) (zs_58 _) rfl rfl rfl rfl (Nat.le_of_ble_eq_true rfl) ?_
  refine s_M_solutions hB (zMI_B f1 hM) (zxI _) (fun σ2 x2 a2 m2 f2 => ?_)
  refine LW_v ?_
  obtain rfl := zSol_u a1 a2
  refine LW_cmp C zd_W_law_889 ?_
  exact k _ ⟨V, D, t, u, hB, zCI_A f2 c1, m2⟩
theorem zcase_26 {G : zG} {p : Program} {l : Launch} {e : Env} {s : State} {m : MethodId} {below : List Frame} {meth : Method} {c : Code} {b L : Nat} {xs : Nat → Int32} {Z : State → Prop} {i : Int} {σ : zPH} (C : zLC G p s m c b L xs) (hi : 0 ≤ i ∧ i + 6 ≤ L) (hI : zInv σ) (k : ∀ σ', zInv σ' → LW G p l e s m below meth c b Z i 1206 [] σ') : LW G p l e s m below meth c b Z i 894 [] σ := by
  obtain ⟨V, D, t, u, hB, hC, hM⟩ := hI
  refine LW_x C zd_W_law_894 ?_
  refine LW_call C (fr' := 7) (q := 0) (as := []) (st := []) zd_W_law_895 zl_W_125 zk_B_near zv_B_near (Nat.le_of_ble_eq_true rfl) (zs_0 _) rfl rfl rfl rfl (Nat.le_of_ble_eq_true rfl) ?_
  refine s_B_near hB hC  (fun σ1 x1 a1 c1 f1 => ?_)
  refine LW_v ?_
  refine LW_m C zd_W_law_898 ?_
  refine LW_call C (fr' := 9) (q := 58) (as := []) (st := [iZ x1]) zd_W_law_899 zl_W_128 zk_M_near zv_M_near (Nat.le_of_ble_eq_true rfl) (zs_58 _) rfl rfl rfl rfl (Nat.le_of_ble_eq_true rfl) ?_
  refine s_M_near hB (zMI_B f1 hM)  (fun σ2 x2 a2 m2 f2 => ?_)
  refine LW_v ?_
  obtain rfl := zNea_u a1 a2
  refine LW_cmp C zd_W_law_902 ?_
  exact k _ ⟨V, D, t, u, hB, zCI_A f2 c1, m2⟩
theorem zcase_27 {G : zG} {p : Program} {l : Launch} {e : Env} {s : State} {m : MethodId} {below : List Frame} {meth : Method} {c : Code} {b L : Nat} {xs : Nat → Int32} {Z : State → Prop} {i : Int} {σ : zPH} (C : zLC G p s m c b L xs) (hi : 0 ≤ i ∧ i + 6 ≤ L) (hI : zInv σ) (k : ∀ σ', zInv σ' → LW G p l e s m below meth c b Z i 1206 [] σ') : LW G p l e s m below meth c b Z i 907 [] σ := by
  obtain ⟨V, D, t, u, hB, hC, hM⟩ := hI
  refine LW_x C zd_W_law_907 ?_
  refine LW_arg C (j := 1) hi (by decide) zd_W_law_908 zd_W_law_909 zd_W_law_910 zd_W_law_911 zd_W_law_912 ?_
  refine LW_arg C (j := 2) hi (by decide) zd_W_law_913 zd_W_law_914 zd_W_law_915 zd_W_law_916 zd_W_law_917 ?_
  refine LW_call C (fr' := 7) (q := 0) (as := [iZ (xs (i + 1).toNat).toInt, iZ (xs (i + 2).toNat).toInt]) (st := []) zd_W_law_918 zl_W_129 zk_B_tint zv_B_tint (Nat.le_of_ble_eq_true rfl) (zs_0 _) rfl rfl rfl rfl (Nat.le_of_ble_eq_true rfl) ?_
  refine s_B_tint hB hC (zxI _) (zxI _) (fun σ1 x1 a1 c1 f1 => ?_)
  refine LW_v ?_
  refine LW_m C zd_W_law_921 ?_
  refine LW_arg C (j := 1) hi (by decide) zd_W_law_922 zd_W_law_923 zd_W_law_924 zd_W_law_925 zd_W_law_926 ?_
  refine LW_arg C (j := 2) hi (by decide) zd_W_law_927 zd_W_law_928 zd_W_law_929 zd_W_law_930 zd_W_law_931 ?_
  refine LW_call C (fr' := 9) (q := 58) (as := [iZ (xs (i + 1).toNat).toInt, iZ (xs (i + 2).toNat).toInt]) (st := [iZ x1]) zd_W_law_932 zl_W_132 zk_M_tint zv_M_tint (Nat.le_of_ble_eq_true rfl) (zs_58 _) rfl rfl rfl rfl (Nat.le_of_ble_eq_true rfl) ?_
  refine s_M_tint hB (zMI_B f1 hM) (zxI _) (zxI _) (fun σ2 x2 a2 m2 f2 => ?_)
  refine LW_v ?_
  obtain rfl := zTnt_u a1 a2
  refine LW_cmp C zd_W_law_935 ?_
  exact k _ ⟨V, D, t, u, hB, zCI_A f2 c1, m2⟩
theorem zcase_28 {G : zG} {p : Program} {l : Launch} {e : Env} {s : State} {m : MethodId} {below : List Frame} {meth : Method} {c : Code} {b L : Nat} {xs : Nat → Int32} {Z : State → Prop} {i : Int} {σ : zPH} (C : zLC G p s m c b L xs) (hi : 0 ≤ i ∧ i + 6 ≤ L) (hI : zInv σ) (k : ∀ σ', zInv σ' → LW G p l e s m below meth c b Z i 1206 [] σ') : LW G p l e s m below meth c b Z i 940 [] σ := by
  obtain ⟨V, D, t, u, hB, hC, hM⟩ := hI
  refine LW_x C zd_W_law_940 ?_
  refine LW_arg C (j := 1) hi (by decide) zd_W_law_941 zd_W_law_942 zd_W_law_943 zd_W_law_944 zd_W_law_945 ?_
  refine LW_arg C (j := 2) hi (by decide) zd_W_law_946 zd_W_law_947 zd_W_law_948 zd_W_law_949 zd_W_law_950 ?_
  refine LW_arg C (j := 3) hi (by decide) zd_W_law_951 zd_W_law_952 zd_W_law_953 zd_W_law_954 zd_W_law_955 ?_
  refine LW_arg C (j := 4) hi (by decide) zd_W_law_956 zd_W_law_957 zd_W_law_958 zd_W_law_959 zd_W_law_960 ?_
  refine LW_call C (fr' := 7) (q := 0) (as := [iZ (xs (i + 1).toNat).toInt, iZ (xs (i + 2).toNat).toInt, iZ (xs (i + 3).toNat).toInt, iZ (xs (i + 4).toNat).toInt]) (st := []) zd_W_law_961 zl_W_133 zk_B_swapped zv_B_swapped (Nat.le_of_ble_eq_true rfl) (zs_0 _) rfl rfl rfl rfl (Nat.le_of_ble_eq_true rfl) ?_
  refine s_B_swapped hB hC (zxI _) (zxI _) (zxI _) (zxI _) (fun σ1 x1 a1 c1 f1 => ?_)
  refine LW_v ?_
  refine LW_m C zd_W_law_964 ?_
  refine LW_arg C (j := 1) hi (by decide) zd_W_law_965 zd_W_law_966 zd_W_law_967 zd_W_law_968 zd_W_law_969 ?_
  refine LW_arg C (j := 2) hi (by decide) zd_W_law_970 zd_W_law_971 zd_W_law_972 zd_W_law_973 zd_W_law_974 ?_
  refine LW_arg C (j := 3) hi (by decide) zd_W_law_975 zd_W_law_976 zd_W_law_977 zd_W_law_978 zd_W_law_979 ?_
  refine LW_arg C (j := 4) hi (by decide) zd_W_law_980 zd_W_law_981 zd_W_law_982 zd_W_law_983 zd_W_law_984 ?_
  refine LW_call C (fr' := 9) (q := 58) (as := [iZ (xs (i + 1).toNat).toInt, iZ (xs (i + 2).toNat).toInt, iZ (xs (i + 3).toNat).toInt, iZ (xs (i + 4).toNat).toInt]) (st := [iZ x1]) zd_W_law_985 zl_W_137 zk_M_swapped zv_M_swapped (Nat.le_of_ble_eq_true rfl) (zs_58 _) rfl rfl rfl rfl (Nat.le_of_ble_eq_true rfl) ?_
  refine s_M_swapped hB (zMI_B f1 hM) (zxI _) (zxI _) (zxI _) (zxI _) (fun σ2 x2 a2 m2 f2 => ?_)
  refine LW_v ?_
  obtain rfl := zSwd_u a1 a2
  refine LW_cmp C zd_W_law_988 ?_
  exact k _ ⟨V, D, t, u, hB, zCI_A f2 c1, m2⟩
theorem zcase_29 {G : zG} {p : Program} {l : Launch} {e : Env} {s : State} {m : MethodId} {below : List Frame} {meth : Method} {c : Code} {b L : Nat} {xs : Nat → Int32} {Z : State → Prop} {i : Int} {σ : zPH} (C : zLC G p s m c b L xs) (hi : 0 ≤ i ∧ i + 6 ≤ L) (hI : zInv σ) (k : ∀ σ', zInv σ' → LW G p l e s m below meth c b Z i 1206 [] σ') : LW G p l e s m below meth c b Z i 993 [] σ := by
  obtain ⟨V, D, t, u, hB, hC, hM⟩ := hI
  refine LW_x C zd_W_law_993 ?_
  refine LW_arg C (j := 1) hi (by decide) zd_W_law_994 zd_W_law_995 zd_W_law_996 zd_W_law_997 zd_W_law_998 ?_
  refine LW_arg C (j := 2) hi (by decide) zd_W_law_999 zd_W_law_1000 zd_W_law_1001 zd_W_law_1002 zd_W_law_1003 ?_
  refine LW_arg C (j := 3) hi (by decide) zd_W_law_1004 zd_W_law_1005 zd_W_law_1006 zd_W_law_1007 zd_W_law_1008 ?_
  refine LW_call C (fr' := 5) (q := 0) (as := [iZ (xs (i + 1).toNat).toInt, iZ (xs (i + 2).toNat).toInt, iZ (xs (i + 3).toNat).toInt]) (st := []) zd_W_law_1009 zl_W_138 zk_B_reach zv_B_reach (Nat.le_of_ble_eq_true rfl) (zs_0 _) rfl rfl rfl rfl (Nat.le_of_ble_eq_true rfl) ?_
  refine s_B_reach hB hC (zxI _) (zxI _) (zxI _) (fun σ1 x1 a1 c1 f1 => ?_) (zMI_no hM)
  refine LW_v ?_
  refine LW_m C zd_W_law_1012 ?_
  refine LW_arg C (j := 1) hi (by decide) zd_W_law_1013 zd_W_law_1014 zd_W_law_1015 zd_W_law_1016 zd_W_law_1017 ?_
  refine LW_arg C (j := 2) hi (by decide) zd_W_law_1018 zd_W_law_1019 zd_W_law_1020 zd_W_law_1021 zd_W_law_1022 ?_
  refine LW_arg C (j := 3) hi (by decide) zd_W_law_1023 zd_W_law_1024 zd_W_law_1025 zd_W_law_1026 zd_W_law_1027 ?_
  refine LW_call C (fr' := 4) (q := 58) (as := [iZ (xs (i + 1).toNat).toInt, iZ (xs (i + 2).toNat).toInt, iZ (xs (i + 3).toNat).toInt]) (st := [iZ x1]) zd_W_law_1028 zl_W_141 zk_M_reach zv_M_reach (Nat.le_of_ble_eq_true rfl) (zs_58 _) rfl rfl rfl rfl (Nat.le_of_ble_eq_true rfl) ?_
  refine s_M_reach hB (zMI_B f1 hM) (zxI _) (zxI _) (zxI _) (fun σ2 x2 a2 m2 f2 => ?_)
  refine LW_v ?_
  obtain rfl := zRea_u a1 a2
  refine LW_cmp C zd_W_law_1031 ?_
  exact k _ ⟨V, D, t, u, hB, zCI_A f2 c1, m2⟩
theorem zcase_30 {G : zG} {p : Program} {l : Launch} {e : Env} {s : State} {m : MethodId} {below : List Frame} {meth : Method} {c : Code} {b L : Nat} {xs : Nat → Int32} {Z : State → Prop} {i : Int} {σ : zPH} (C : zLC G p s m c b L xs) (hi : 0 ≤ i ∧ i + 6 ≤ L) (hI : zInv σ) (k : ∀ σ', zInv σ' → LW G p l e s m below meth c b Z i 1206 [] σ') : LW G p l e s m below meth c b Z i 1036 [] σ := by
  obtain ⟨V, D, t, u, hB, hC, hM⟩ := hI
  refine LW_x C zd_W_law_1036 ?_
  refine LW_arg C (j := 1) hi (by decide) zd_W_law_1037 zd_W_law_1038 zd_W_law_1039 zd_W_law_1040 zd_W_law_1041 ?_
  refine LW_call C (fr' := 5) (q := 0) (as := [iZ (xs (i + 1).toNat).toInt]) (st := []) zd_W_law_1042 zl_W_142 zk_B_behind zv_B_behind (Nat.le_of_ble_eq_true rfl) (zs_0 _) rfl rfl rfl rfl (Nat.le_of_ble_eq_true rfl) ?_
  refine s_B_behind hB hC (zxI _) (fun σ1 x1 a1 c1 f1 => ?_)
  refine LW_v ?_
  refine LW_m C zd_W_law_1045 ?_
  refine LW_arg C (j := 1) hi (by decide) zd_W_law_1046 zd_W_law_1047 zd_W_law_1048 zd_W_law_1049 zd_W_law_1050 ?_
  refine LW_call C (fr' := 5) (q := 58) (as := [iZ (xs (i + 1).toNat).toInt]) (st := [iZ x1]) zd_W_law_1051 zl_W_145 zk_M_behind zv_M_behind (Nat.le_of_ble_eq_true rfl) (zs_58 _) rfl rfl rfl rfl (Nat.le_of_ble_eq_true rfl) ?_
  refine s_M_behind hB (zMI_B f1 hM) (zxI _) (fun σ2 x2 a2 m2 f2 => ?_)
  refine LW_v ?_
  obtain rfl := zBeh_u a1 a2
  refine LW_cmp C zd_W_law_1054 ?_
  exact k _ ⟨V, D, t, u, hB, zCI_A f2 c1, m2⟩
theorem zcase_31 {G : zG} {p : Program} {l : Launch} {e : Env} {s : State} {m : MethodId} {below : List Frame} {meth : Method} {c : Code} {b L : Nat} {xs : Nat → Int32} {Z : State → Prop} {i : Int} {σ : zPH} (C : zLC G p s m c b L xs) (hi : 0 ≤ i ∧ i + 6 ≤ L) (hI : zInv σ) (k : ∀ σ', zInv σ' → LW G p l e s m below meth c b Z i 1206 [] σ') : LW G p l e s m below meth c b Z i 1059 [] σ := by
  obtain ⟨V, D, t, u, hB, hC, hM⟩ := hI
  refine LW_x C zd_W_law_1059 ?_
  refine LW_arg C (j := 1) hi (by decide) zd_W_law_1060 zd_W_law_1061 zd_W_law_1062 zd_W_law_1063 zd_W_law_1064 ?_
  refine LW_call C (fr' := 5) (q := 0) (as := [iZ (xs (i + 1).toNat).toInt]) (st := []) zd_W_law_1065 zl_W_146 zk_B_rings zv_B_rings (Nat.le_of_ble_eq_true rfl) (zs_0 _) rfl rfl rfl rfl (Nat.le_of_ble_eq_true rfl) ?_
  refine s_B_rings hB hC (zxI _) (fun σ1 x1 a1 c1 f1 => ?_)
  refine LW_v ?_
  refine LW_m C zd_W_law_1068 ?_
  refine LW_arg C (j := 1) hi (by decide) zd_W_law_1069 zd_W_law_1070 zd_W_law_1071 zd_W_law_1072 zd_W_law_1073 ?_
  refine LW_call C (fr' := 5) (q := 58) (as := [iZ (xs (i + 1).toNat).toInt]) (st := [iZ x1]) zd_W_law_1074 zl_W_149 zk_M_rings zv_M_rings (Nat.le_of_ble_eq_true rfl) (zs_58 _) rfl rfl rfl rfl (Nat.le_of_ble_eq_true rfl) ?_
  refine s_M_rings hB (zMI_B f1 hM) (zxI _) (fun σ2 x2 a2 m2 f2 => ?_)
  refine LW_v ?_
  obtain rfl := zRgs_u a1 a2
  refine LW_cmp C zd_W_law_1077 ?_
  exact k _ ⟨V, D, t, u, hB, zCI_A f2 c1, m2⟩
theorem zcase_32 {G : zG} {p : Program} {l : Launch} {e : Env} {s : State} {m : MethodId} {below : List Frame} {meth : Method} {c : Code} {b L : Nat} {xs : Nat → Int32} {Z : State → Prop} {i : Int} {σ : zPH} (C : zLC G p s m c b L xs) (hi : 0 ≤ i ∧ i + 6 ≤ L) (hI : zInv σ) (k : ∀ σ', zInv σ' → LW G p l e s m below meth c b Z i 1206 [] σ') : LW G p l e s m below meth c b Z i 1082 [] σ := by
  obtain ⟨V, D, t, u, hB, hC, hM⟩ := hI
  refine LW_x C zd_W_law_1082 ?_
  refine LW_arg C (j := 1) hi (by decide) zd_W_law_1083 zd_W_law_1084 zd_W_law_1085 zd_W_law_1086 zd_W_law_1087 ?_
  refine LW_ne0 C (zxI _) zd_W_law_1088 zd_W_law_1091 zd_W_law_1092 zd_W_law_1095 (fun w hw ew => ?_)
  refine LW_call C (fr' := 7) (q := 0) (as := [iZ w]) (st := []) zd_W_law_1096 zl_W_150 zk_B_steady zv_B_steady (Nat.le_of_ble_eq_true rfl) (zs_0 _) rfl rfl rfl rfl (Nat.le_of_ble_eq_true rfl) ?_
  refine s_B_steady hB hC (hw) (fun σ1 x1 a1 c1 f1 => ?_)
  refine LW_v ?_
  refine LW_m C zd_W_law_1099 ?_
  refine LW_arg C (j := 1) hi (by decide) zd_W_law_1100 zd_W_law_1101 zd_W_law_1102 zd_W_law_1103 zd_W_law_1104 ?_
  refine LW_ne0 C (zxI _) zd_W_law_1105 zd_W_law_1108 zd_W_law_1109 zd_W_law_1112 (fun w2 hw2 ew2 => ?_)
  rw [← ew] at ew2
  subst ew2
  refine LW_call C (fr' := 7) (q := 58) (as := [iZ w2]) (st := [iZ x1]) zd_W_law_1113 zl_W_153 zk_M_steady zv_M_steady (Nat.le_of_ble_eq_true rfl) (zs_58 _) rfl rfl rfl rfl (Nat.le_of_ble_eq_true rfl) ?_
  refine s_M_steady hB (zMI_B f1 hM) (hw2) (fun σ2 x2 a2 m2 f2 => ?_)
  refine LW_v ?_
  obtain rfl := zStd_u a1 a2
  refine LW_cmp C zd_W_law_1116 ?_
  exact k _ ⟨V, D, t, u, hB, zCI_A f2 c1, m2⟩
theorem zcase_33 {G : zG} {p : Program} {l : Launch} {e : Env} {s : State} {m : MethodId} {below : List Frame} {meth : Method} {c : Code} {b L : Nat} {xs : Nat → Int32} {Z : State → Prop} {i : Int} {σ : zPH} (C : zLC G p s m c b L xs) (hi : 0 ≤ i ∧ i + 6 ≤ L) (hI : zInv σ) (k : ∀ σ', zInv σ' → LW G p l e s m below meth c b Z i 1206 [] σ') : LW G p l e s m below meth c b Z i 1121 [] σ := by
  obtain ⟨V, D, t, u, hB, hC, hM⟩ := hI
  refine LW_x C zd_W_law_1121 ?_
  refine LW_arg C (j := 1) hi (by decide) zd_W_law_1122 zd_W_law_1123 zd_W_law_1124 zd_W_law_1125 zd_W_law_1126 ?_
  refine LW_call C (fr' := 7) (q := 0) (as := [iZ (xs (i + 1).toNat).toInt]) (st := []) zd_W_law_1127 zl_W_154 zk_B_slow zv_B_slow (Nat.le_of_ble_eq_true rfl) (zs_0 _) rfl rfl rfl rfl (Nat.le_of_ble_eq_true rfl) ?_
  refine s_B_slow hB hC (zxI _) (fun σ1 x1 a1 c1 f1 => ?_)
  refine LW_v ?_
  refine LW_m C zd_W_law_1130 ?_
  refine LW_arg C (j := 1) hi (by decide) zd_W_law_1131 zd_W_law_1132 zd_W_law_1133 zd_W_law_1134 zd_W_law_1135 ?_
  refine LW_call C (fr' := 7) (q := 58) (as := [iZ (xs (i + 1).toNat).toInt]) (st := [iZ x1]) zd_W_law_1136 zl_W_157 zk_M_slow zv_M_slow (Nat.le_of_ble_eq_true rfl) (zs_58 _) rfl rfl rfl rfl (Nat.le_of_ble_eq_true rfl) ?_
  refine s_M_slow hB (zMI_B f1 hM) (zxI _) (fun σ2 x2 a2 m2 f2 => ?_)
  refine LW_v ?_
  obtain rfl := zSlw_u a1 a2
  refine LW_cmp C zd_W_law_1139 ?_
  exact k _ ⟨V, D, t, u, hB, zCI_A f2 c1, m2⟩
theorem zcase_34 {G : zG} {p : Program} {l : Launch} {e : Env} {s : State} {m : MethodId} {below : List Frame} {meth : Method} {c : Code} {b L : Nat} {xs : Nat → Int32} {Z : State → Prop} {i : Int} {σ : zPH} (C : zLC G p s m c b L xs) (hi : 0 ≤ i ∧ i + 6 ≤ L) (hI : zInv σ) (k : ∀ σ', zInv σ' → LW G p l e s m below meth c b Z i 1206 [] σ') : LW G p l e s m below meth c b Z i 1144 [] σ := by
  obtain ⟨V, D, t, u, hB, hC, hM⟩ := hI
  refine LW_x C zd_W_law_1144 ?_
  refine LW_call C (fr' := 0) (q := 0) (as := []) (st := []) zd_W_law_1145 zl_W_158 zk_B_back zv_B_back (Nat.le_of_ble_eq_true rfl) (zs_0 _) rfl rfl rfl rfl (Nat.le_of_ble_eq_true rfl) ?_
  refine s_B_back hB hC  (fun σ1 x1 D1 a1 c1 f1 => ?_)
  refine LW_v ?_
  refine LW_m C zd_W_law_1148 ?_
  refine LW_call C (fr' := 0) (q := 58) (as := []) (st := [iZ x1]) zd_W_law_1149 zl_W_161 zk_M_back zv_M_back (Nat.le_of_ble_eq_true rfl) (zs_58 _) rfl rfl rfl rfl (Nat.le_of_ble_eq_true rfl) ?_
  refine s_M_back hB (zMI_B f1 hM)  (fun σ2 x2 D2 a2 m2 f2 => ?_)
  refine LW_v ?_
  obtain ⟨rfl, rfl⟩ := zBck_u a1 a2
  refine LW_cmp C zd_W_law_1152 ?_
  exact k _ ⟨V, D1, t, u, zBck_D hB a1, zCI_A f2 c1, m2⟩
theorem zcase_35 {G : zG} {p : Program} {l : Launch} {e : Env} {s : State} {m : MethodId} {below : List Frame} {meth : Method} {c : Code} {b L : Nat} {xs : Nat → Int32} {Z : State → Prop} {i : Int} {σ : zPH} (C : zLC G p s m c b L xs) (hi : 0 ≤ i ∧ i + 6 ≤ L) (hI : zInv σ) (k : ∀ σ', zInv σ' → LW G p l e s m below meth c b Z i 1206 [] σ') : LW G p l e s m below meth c b Z i 1157 [] σ := by
  obtain ⟨V, D, t, u, hB, hC, hM⟩ := hI
  refine LW_x C zd_W_law_1157 ?_
  refine LW_call C (fr' := 1) (q := 0) (as := []) (st := []) zd_W_law_1158 zl_W_162 zk_B_image zv_B_image (Nat.le_of_ble_eq_true rfl) (zs_0 _) rfl rfl rfl rfl (Nat.le_of_ble_eq_true rfl) ?_
  refine s_B_image hB hC  (fun σ1 x1 D1 a1 c1 f1 => ?_)
  refine LW_v ?_
  refine LW_m C zd_W_law_1161 ?_
  refine LW_call C (fr' := 1) (q := 58) (as := []) (st := [iZ x1]) zd_W_law_1162 zl_W_165 zk_M_image zv_M_image (Nat.le_of_ble_eq_true rfl) (zs_58 _) rfl rfl rfl rfl (Nat.le_of_ble_eq_true rfl) ?_
  refine s_M_image hB (zMI_B f1 hM)  (fun σ2 x2 D2 a2 m2 f2 => ?_)
  refine LW_v ?_
  obtain ⟨rfl, rfl⟩ := zIma_u a1 a2
  refine LW_cmp C zd_W_law_1165 ?_
  exact k _ ⟨V, D1, t, u, zIma_D hB a1, zCI_A f2 c1, m2⟩
theorem zcase_36 {G : zG} {p : Program} {l : Launch} {e : Env} {s : State} {m : MethodId} {below : List Frame} {meth : Method} {c : Code} {b L : Nat} {xs : Nat → Int32} {Z : State → Prop} {i : Int} {σ : zPH} (C : zLC G p s m c b L xs) (hi : 0 ≤ i ∧ i + 6 ≤ L) (hI : zInv σ) (k : ∀ σ', zInv σ' → LW G p l e s m below meth c b Z i 1206 [] σ') : LW G p l e s m below meth c b Z i 1170 [] σ := by
  obtain ⟨V, D, t, u, hB, hC, hM⟩ := hI
  refine LW_x C zd_W_law_1170 ?_
  refine LW_arg C (j := 1) hi (by decide) zd_W_law_1171 zd_W_law_1172 zd_W_law_1173 zd_W_law_1174 zd_W_law_1175 ?_
  refine LW_call C (fr' := 0) (q := 0) (as := [iZ (xs (i + 1).toNat).toInt]) (st := []) zd_W_law_1176 zl_W_166 zk_B_octet zv_B_octet (Nat.le_of_ble_eq_true rfl) (zs_0 _) rfl rfl rfl rfl (Nat.le_of_ble_eq_true rfl) ?_
  refine s_B_octet hB hC (zxI _) (fun x1 a1 => ?_)
  have f1 : zfB σ σ := zfB.rf
  have c1 := hC
  refine LW_v ?_
  refine LW_m C zd_W_law_1179 ?_
  refine LW_arg C (j := 1) hi (by decide) zd_W_law_1180 zd_W_law_1181 zd_W_law_1182 zd_W_law_1183 zd_W_law_1184 ?_
  refine LW_call C (fr' := 0) (q := 58) (as := [iZ (xs (i + 1).toNat).toInt]) (st := [iZ x1]) zd_W_law_1185 zl_W_169 zk_M_octet zv_M_octet (Nat.le_of_ble_eq_true rfl) (zs_58 _) rfl rfl rfl rfl (Nat.le_of_ble_eq_true rfl) ?_
  refine s_M_octet hB (zMI_B f1 hM) (zxI _) (fun x2 a2 => ?_)
  have f2 : zfA σ σ := zfA.rf
  have m2 := zMI_B f1 hM
  refine LW_v ?_
  obtain rfl := zOct_u a1 a2
  refine LW_cmp C zd_W_law_1188 ?_
  exact k _ ⟨V, D, t, u, hB, zCI_A f2 c1, m2⟩
theorem zcase_37 {G : zG} {p : Program} {l : Launch} {e : Env} {s : State} {m : MethodId} {below : List Frame} {meth : Method} {c : Code} {b L : Nat} {xs : Nat → Int32} {Z : State → Prop} {i : Int} {σ : zPH} (C : zLC G p s m c b L xs) (hi : 0 ≤ i ∧ i + 6 ≤ L) (hI : zInv σ) (k : ∀ σ', zInv σ' → LW G p l e s m below meth c b Z i 1206 [] σ') : LW G p l e s m below meth c b Z i 1193 [] σ := by
  obtain ⟨V, D, t, u, hB, hC, hM⟩ := hI
  refine LW_x C zd_W_law_1193 ?_
  refine LW_call C (fr' := 2) (q := 0) (as := []) (st := []) zd_W_law_1194 zl_W_170 zk_B_on zv_B_on (Nat.le_of_ble_eq_true rfl) (zs_0 _) rfl rfl rfl rfl (Nat.le_of_ble_eq_true rfl) ?_
  refine s_B_on hB hC  (fun σ1 x1 D1 a1 c1 f1 => ?_)
  refine LW_v ?_
  refine LW_m C zd_W_law_1197 ?_
  refine LW_call C (fr' := 2) (q := 58) (as := []) (st := [iZ x1]) zd_W_law_1198 zl_W_174 zk_M_on zv_M_on (Nat.le_of_ble_eq_true rfl) (zs_58 _) rfl rfl rfl rfl (Nat.le_of_ble_eq_true rfl) ?_
  refine s_M_on hB (zMI_B f1 hM)  (fun σ2 x2 D2 a2 m2 f2 => ?_)
  refine LW_v ?_
  obtain ⟨rfl, rfl⟩ := zOnn_u a1 a2
  refine LW_cmp C zd_W_law_1201 ?_
  exact k _ ⟨V, D1, t, u, zOnn_D hB a1, zCI_A f2 c1, m2⟩
