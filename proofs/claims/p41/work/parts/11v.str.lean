/-- the class's search for an own word: r chars are left -/
def ysr (f : Nat → Int) (m : Int) : Nat → Int → Int → Int
  | 0, _, _ => -1
  | r + 1, num, al => if zOwnC (134 - r) = 32 then (if al = m then num else ysr f m r (num + 1) 0) else if al = -1 then ysr f m r num (-1) else if al < m ∧ f al.toNat = zOwnC (134 - r) then ysr f m r num (al + 1) else ysr f m r num (-1)
theorem zOwnC_r : ∀ k : Fin 135, 0 ≤ zOwnC k.val ∧ zOwnC k.val < 128 := by decide +kernel
section OW
variable {G : zG} {X : zX} {σ : zPH}
theorem k_K_ownWord {s m : Nat} (h8 : σ 8 5 = ((1 : Nat) : Int)) (hm : 0 < m) (hs : s + m ≤ 1600) (hf : ∀ j, j < m → 0 ≤ σ 1 (s + j) ∧ σ 1 (s + j) < 256) (hX : X (some (iZ (ysr (fun j => σ 1 (s + j)) (m : Int) 135 0 0))) σ) : MS G zm_K_ownWord 6 [zr G 8, iZ (s : Int), iZ (m : Int)] σ X := by
  have loop : ∀ (r : Nat) (num al : Int) (w6 : Option Value), r ≤ 135 → (-1 ≤ al ∧ al ≤ (m : Int)) → (0 ≤ num ∧ num ≤ 135 - (r : Int)) → X (some (iZ (ysr (fun j => σ 1 (s + j)) (m : Int) r num al))) σ → PW G zm_K_ownWord 6 X 8 [some (zr G 8), some (iZ (s : Int)), some (iZ (m : Int)), some (iZ num), some (iZ al), some (iZ (135 - (r : Int))), w6] [] σ := by
    intro r
    induction r with
    | zero =>
      intro num al w6 _ ha hn hx
      refine PW_iload zd_K_ownWord_8 rfl ?_
      refine PW_ownLen rfl zd_K_ownWord_10 zd_K_ownWord_12 zl_K_60 (by decide) (Nat.le_of_ble_eq_true rfl) ?_
      refine PW_icmp_ge zd_K_ownWord_15 ⟨by omega, by decide⟩ (fun _ => ?_) (fun z => by omega)
      exact PW_iconst zd_K_ownWord_93 (PW_iret zd_K_ownWord_94 rfl hx)
    | succ r ih =>
      intro num al w6 hr ha hn hx
      have hi : (135 - ((r + 1 : Nat) : Int)).toNat = 134 - r := by omega
      have hc : 0 ≤ zOwnC (134 - r) ∧ zOwnC (134 - r) < 128 := zOwnC_r ⟨134 - r, by omega⟩
      have next : ∀ (num' al' : Int) (w6' : Option Value), (-1 ≤ al' ∧ al' ≤ (m : Int)) → (0 ≤ num' ∧ num' ≤ num + 1) → X (some (iZ (ysr (fun j => σ 1 (s + j)) (m : Int) r num' al'))) σ → PW G zm_K_ownWord 6 X 87 [some (zr G 8), some (iZ (s : Int)), some (iZ (m : Int)), some (iZ num'), some (iZ al'), some (iZ (135 - ((r + 1 : Nat) : Int))), w6'] [] σ := by
        intro num' al' w6' ha' hn' hx'
        refine PW_iinc zd_K_ownWord_87 rfl rfl (by decide) (ls2 := [some (zr G 8), some (iZ (s : Int)), some (iZ (m : Int)), some (iZ num'), some (iZ al'), some (iZ (135 - ((r + 1 : Nat) : Int) + 1)), w6']) rfl ?_
        refine PW_goto zd_K_ownWord_90 ?_
        rw [show 135 - ((r + 1 : Nat) : Int) + 1 = 135 - (r : Int) by omega]
        exact ih num' al' w6' (by omega) ha' (by omega) hx'
      refine PW_iload zd_K_ownWord_8 rfl ?_
      refine PW_ownLen rfl zd_K_ownWord_10 zd_K_ownWord_12 zl_K_60 (by decide) (Nat.le_of_ble_eq_true rfl) ?_
      refine PW_icmp_ge zd_K_ownWord_15 ⟨by omega, by decide⟩ (fun z => by omega) (fun _ => ?_)
      refine PW_ownAt rfl zd_K_ownWord_18 zd_K_ownWord_20 zd_K_ownWord_22 rfl zl_K_66 (by omega) (by decide) (Nat.le_of_ble_eq_true rfl) ?_
      rw [hi]
      refine PW_istore zd_K_ownWord_25 rfl (by decide) (ls2 := [some (zr G 8), some (iZ (s : Int)), some (iZ (m : Int)), some (iZ num), some (iZ al), some (iZ (135 - ((r + 1 : Nat) : Int))), some (iZ (zOwnC (134 - r)))]) rfl ?_
      refine PW_iload zd_K_ownWord_27 rfl ?_
      refine PW_bipush zd_K_ownWord_29 (by decide) ?_
      unfold ysr at hx
      refine PW_icmp_ne zd_K_ownWord_31 ⟨by omega, by decide⟩ (fun z => ?_) (fun z => ?_)
      · rw [if_neg z] at hx
        refine PW_iload zd_K_ownWord_51 rfl (PW_iconst zd_K_ownWord_53 ?_)
        refine PW_icmp_eq zd_K_ownWord_54 ⟨by omega, by decide⟩ (fun y => ?_) (fun y => ?_)
        · rw [if_pos y] at hx
          subst y
          exact next num (-1) _ (by omega) (by omega) hx
        · rw [if_neg y] at hx
          have fail : X (some (iZ (ysr (fun j => σ 1 (s + j)) (m : Int) r num (-1)))) σ → PW G zm_K_ownWord 6 X 84 [some (zr G 8), some (iZ (s : Int)), some (iZ (m : Int)), some (iZ num), some (iZ al), some (iZ (135 - ((r + 1 : Nat) : Int))), some (iZ (zOwnC (134 - r)))] [] σ := fun hx' => by
            refine PW_iconst zd_K_ownWord_84 (PW_istore zd_K_ownWord_85 rfl (by decide) (ls2 := [some (zr G 8), some (iZ (s : Int)), some (iZ (m : Int)), some (iZ num), some (iZ (-1)), some (iZ (135 - ((r + 1 : Nat) : Int))), some (iZ (zOwnC (134 - r)))]) rfl ?_)
            exact next num (-1) _ (by omega) (by omega) hx'
          refine PW_iload zd_K_ownWord_57 rfl (PW_iload_n zd_K_ownWord_59 rfl ?_)
          refine PW_icmp_ge zd_K_ownWord_60 ⟨by omega, by omega⟩ (fun v => ?_) (fun v => ?_)
          · rw [if_neg (fun u => by have := u.1; omega)] at hx
            exact fail hx
          · have hfa := hf al.toNat (by omega)
            refine PW_aload_n zd_K_ownWord_63 rfl (PW_getD zd_K_ownWord_64 zf_K_24 (zs_8 _) rfl h8 ?_)
            refine PW_iload_n zd_K_ownWord_67 rfl (PW_iload zd_K_ownWord_68 rfl (PW_iadd zd_K_ownWord_70 ?_))
            refine PW_iaload zd_K_ownWord_71 (zs_1 _) (by omega) ?_
            rw [show ((s : Int) + al).toNat = s + al.toNat by omega]
            refine PW_iload zd_K_ownWord_72 rfl ?_
            refine PW_icmp_ne zd_K_ownWord_74 ⟨by omega, by omega⟩ (fun u => ?_) (fun u => ?_)
            · rw [if_neg (fun w => u w.2)] at hx
              exact fail hx
            · rw [if_pos ⟨v, u⟩] at hx
              refine PW_iload zd_K_ownWord_77 rfl (PW_iconst zd_K_ownWord_79 (PW_iadd zd_K_ownWord_80 (PW_goto zd_K_ownWord_81 ?_)))
              refine PW_istore zd_K_ownWord_85 rfl (by decide) (ls2 := [some (zr G 8), some (iZ (s : Int)), some (iZ (m : Int)), some (iZ num), some (iZ (al + 1)), some (iZ (135 - ((r + 1 : Nat) : Int))), some (iZ (zOwnC (134 - r)))]) rfl ?_
              exact next num (al + 1) _ (by omega) (by omega) hx
      · rw [if_pos z] at hx
        refine PW_iload zd_K_ownWord_34 rfl (PW_iload_n zd_K_ownWord_36 rfl ?_)
        refine PW_icmp_ne zd_K_ownWord_37 ⟨by omega, by omega⟩ (fun y => ?_) (fun y => ?_)
        · rw [if_neg y] at hx
          refine PW_iinc zd_K_ownWord_42 rfl rfl (by decide) (ls2 := [some (zr G 8), some (iZ (s : Int)), some (iZ (m : Int)), some (iZ (num + 1)), some (iZ al), some (iZ (135 - ((r + 1 : Nat) : Int))), some (iZ (zOwnC (134 - r)))]) rfl ?_
          refine PW_iconst zd_K_ownWord_45 (PW_istore zd_K_ownWord_46 rfl (by decide) (ls2 := [some (zr G 8), some (iZ (s : Int)), some (iZ (m : Int)), some (iZ (num + 1)), some (iZ 0), some (iZ (135 - ((r + 1 : Nat) : Int))), some (iZ (zOwnC (134 - r)))]) rfl (PW_goto zd_K_ownWord_48 ?_))
          exact next (num + 1) 0 _ (by omega) (by omega) hx
        · rw [if_pos y] at hx
          exact PW_iload_n zd_K_ownWord_40 rfl (PW_iret zd_K_ownWord_41 rfl hx)
  refine ms_of zk_K_ownWord (Nat.le_of_ble_eq_true rfl) (ls := [some (zr G 8), some (iZ (s : Int)), some (iZ (m : Int)), none, none, none, none]) rfl ?_
  refine PW_iconst zd_K_ownWord_0 (PW_istore_n zd_K_ownWord_1 rfl (by decide) (ls2 := [some (zr G 8), some (iZ (s : Int)), some (iZ (m : Int)), some (iZ 0), none, none, none]) rfl ?_)
  refine PW_iconst zd_K_ownWord_2 (PW_istore zd_K_ownWord_3 rfl (by decide) (ls2 := [some (zr G 8), some (iZ (s : Int)), some (iZ (m : Int)), some (iZ 0), some (iZ 0), none, none]) rfl ?_)
  refine PW_iconst zd_K_ownWord_5 (PW_istore zd_K_ownWord_6 rfl (by decide) (ls2 := [some (zr G 8), some (iZ (s : Int)), some (iZ (m : Int)), some (iZ 0), some (iZ 0), some (iZ 0), none]) rfl ?_)
  exact loop 135 0 0 none (by decide) (by omega) (by decide) hX
end OW
