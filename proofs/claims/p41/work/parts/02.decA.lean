theorem zd_C_init_0 : decode zb_C_init 0 = .ok (.aload_n 0, 1) ∧ 0 + 1 = 1 := ⟨by decide +kernel, rfl⟩
theorem zd_C_init_1 : decode zb_C_init 1 = .ok (.invokespecial 3, 3) ∧ 1 + 3 = 4 := ⟨by decide +kernel, rfl⟩
theorem zd_C_init_4 : decode zb_C_init 4 = .ok (.aload_n 0, 1) ∧ 4 + 1 = 5 := ⟨by decide +kernel, rfl⟩
theorem zd_C_init_5 : decode zb_C_init 5 = .ok (.new 9, 3) ∧ 5 + 3 = 8 := ⟨by decide +kernel, rfl⟩
theorem zd_C_init_8 : decode zb_C_init 8 = .ok (.dup, 1) ∧ 8 + 1 = 9 := ⟨by decide +kernel, rfl⟩
theorem zd_C_init_9 : decode zb_C_init 9 = .ok (.invokespecial 11, 3) ∧ 9 + 3 = 12 := ⟨by decide +kernel, rfl⟩
theorem zd_C_init_12 : decode zb_C_init 12 = .ok (.putfield 12, 3) ∧ 12 + 3 = 15 := ⟨by decide +kernel, rfl⟩
theorem zd_C_init_15 : decode zb_C_init 15 = .ok (.aload_n 0, 1) ∧ 15 + 1 = 16 := ⟨by decide +kernel, rfl⟩
theorem zd_C_init_16 : decode zb_C_init 16 = .ok (.bipush 64, 2) ∧ 16 + 2 = 18 := ⟨by decide +kernel, rfl⟩
theorem zd_C_init_18 : decode zb_C_init 18 = .ok (.newarray .int, 2) ∧ 18 + 2 = 20 := ⟨by decide +kernel, rfl⟩
theorem zd_C_init_20 : decode zb_C_init 20 = .ok (.putfield 18, 3) ∧ 20 + 3 = 23 := ⟨by decide +kernel, rfl⟩
theorem zd_C_init_23 : decode zb_C_init 23 = .ok (.aload_n 0, 1) ∧ 23 + 1 = 24 := ⟨by decide +kernel, rfl⟩
theorem zd_C_init_24 : decode zb_C_init 24 = .ok (.bipush 64, 2) ∧ 24 + 2 = 26 := ⟨by decide +kernel, rfl⟩
theorem zd_C_init_26 : decode zb_C_init 26 = .ok (.newarray .int, 2) ∧ 26 + 2 = 28 := ⟨by decide +kernel, rfl⟩
theorem zd_C_init_28 : decode zb_C_init 28 = .ok (.putfield 22, 3) ∧ 28 + 3 = 31 := ⟨by decide +kernel, rfl⟩
theorem zd_C_init_31 : decode zb_C_init 31 = .ok (.aload_n 0, 1) ∧ 31 + 1 = 32 := ⟨by decide +kernel, rfl⟩
theorem zd_C_init_32 : decode zb_C_init 32 = .ok (.bipush 64, 2) ∧ 32 + 2 = 34 := ⟨by decide +kernel, rfl⟩
theorem zd_C_init_34 : decode zb_C_init 34 = .ok (.newarray .int, 2) ∧ 34 + 2 = 36 := ⟨by decide +kernel, rfl⟩
theorem zd_C_init_36 : decode zb_C_init 36 = .ok (.putfield 25, 3) ∧ 36 + 3 = 39 := ⟨by decide +kernel, rfl⟩
theorem zd_C_init_39 : decode zb_C_init 39 = .ok (.aload_n 0, 1) ∧ 39 + 1 = 40 := ⟨by decide +kernel, rfl⟩
theorem zd_C_init_40 : decode zb_C_init 40 = .ok (.bipush 64, 2) ∧ 40 + 2 = 42 := ⟨by decide +kernel, rfl⟩
theorem zd_C_init_42 : decode zb_C_init 42 = .ok (.newarray .int, 2) ∧ 42 + 2 = 44 := ⟨by decide +kernel, rfl⟩
theorem zd_C_init_44 : decode zb_C_init 44 = .ok (.putfield 28, 3) ∧ 44 + 3 = 47 := ⟨by decide +kernel, rfl⟩
theorem zd_C_init_47 : decode zb_C_init 47 = .ok (.return_, 1) ∧ 47 + 1 = 48 := ⟨by decide +kernel, rfl⟩
theorem zd_L_init_0 : decode zb_L_init 0 = .ok (.aload_n 0, 1) ∧ 0 + 1 = 1 := ⟨by decide +kernel, rfl⟩
theorem zd_L_init_1 : decode zb_L_init 1 = .ok (.invokespecial 3, 3) ∧ 1 + 3 = 4 := ⟨by decide +kernel, rfl⟩
theorem zd_L_init_4 : decode zb_L_init 4 = .ok (.aload_n 0, 1) ∧ 4 + 1 = 5 := ⟨by decide +kernel, rfl⟩
theorem zd_L_init_5 : decode zb_L_init 5 = .ok (.sipush 576, 3) ∧ 5 + 3 = 8 := ⟨by decide +kernel, rfl⟩
theorem zd_L_init_8 : decode zb_L_init 8 = .ok (.newarray .int, 2) ∧ 8 + 2 = 10 := ⟨by decide +kernel, rfl⟩
theorem zd_L_init_10 : decode zb_L_init 10 = .ok (.putfield 9, 3) ∧ 10 + 3 = 13 := ⟨by decide +kernel, rfl⟩
theorem zd_L_init_13 : decode zb_L_init 13 = .ok (.aload_n 0, 1) ∧ 13 + 1 = 14 := ⟨by decide +kernel, rfl⟩
theorem zd_L_init_14 : decode zb_L_init 14 = .ok (.bipush 8, 2) ∧ 14 + 2 = 16 := ⟨by decide +kernel, rfl⟩
theorem zd_L_init_16 : decode zb_L_init 16 = .ok (.newarray .int, 2) ∧ 16 + 2 = 18 := ⟨by decide +kernel, rfl⟩
theorem zd_L_init_18 : decode zb_L_init 18 = .ok (.putfield 15, 3) ∧ 18 + 3 = 21 := ⟨by decide +kernel, rfl⟩
theorem zd_L_init_21 : decode zb_L_init 21 = .ok (.aload_n 0, 1) ∧ 21 + 1 = 22 := ⟨by decide +kernel, rfl⟩
theorem zd_L_init_22 : decode zb_L_init 22 = .ok (.sipush 1728, 3) ∧ 22 + 3 = 25 := ⟨by decide +kernel, rfl⟩
theorem zd_L_init_25 : decode zb_L_init 25 = .ok (.newarray .int, 2) ∧ 25 + 2 = 27 := ⟨by decide +kernel, rfl⟩
theorem zd_L_init_27 : decode zb_L_init 27 = .ok (.putfield 18, 3) ∧ 27 + 3 = 30 := ⟨by decide +kernel, rfl⟩
theorem zd_L_init_30 : decode zb_L_init 30 = .ok (.aload_n 0, 1) ∧ 30 + 1 = 31 := ⟨by decide +kernel, rfl⟩
theorem zd_L_init_31 : decode zb_L_init 31 = .ok (.sipush 576, 3) ∧ 31 + 3 = 34 := ⟨by decide +kernel, rfl⟩
theorem zd_L_init_34 : decode zb_L_init 34 = .ok (.newarray .int, 2) ∧ 34 + 2 = 36 := ⟨by decide +kernel, rfl⟩
theorem zd_L_init_36 : decode zb_L_init 36 = .ok (.putfield 21, 3) ∧ 36 + 3 = 39 := ⟨by decide +kernel, rfl⟩
theorem zd_L_init_39 : decode zb_L_init 39 = .ok (.return_, 1) ∧ 39 + 1 = 40 := ⟨by decide +kernel, rfl⟩
theorem zd_L_shine_0 : decode zb_L_shine 0 = .ok (.aload_n 0, 1) ∧ 0 + 1 = 1 := ⟨by decide +kernel, rfl⟩
theorem zd_L_shine_1 : decode zb_L_shine 1 = .ok (.invokevirtual 24, 3) ∧ 1 + 3 = 4 := ⟨by decide +kernel, rfl⟩
theorem zd_L_shine_4 : decode zb_L_shine 4 = .ok (.aload_n 0, 1) ∧ 4 + 1 = 5 := ⟨by decide +kernel, rfl⟩
theorem zd_L_shine_5 : decode zb_L_shine 5 = .ok (.iload_n 2, 1) ∧ 5 + 1 = 6 := ⟨by decide +kernel, rfl⟩
theorem zd_L_shine_6 : decode zb_L_shine 6 = .ok (.putfield 27, 3) ∧ 6 + 3 = 9 := ⟨by decide +kernel, rfl⟩
theorem zd_L_shine_9 : decode zb_L_shine 9 = .ok (.aload_n 0, 1) ∧ 9 + 1 = 10 := ⟨by decide +kernel, rfl⟩
theorem zd_L_shine_10 : decode zb_L_shine 10 = .ok (.iload_n 3, 1) ∧ 10 + 1 = 11 := ⟨by decide +kernel, rfl⟩
theorem zd_L_shine_11 : decode zb_L_shine 11 = .ok (.putfield 31, 3) ∧ 11 + 3 = 14 := ⟨by decide +kernel, rfl⟩
theorem zd_L_shine_14 : decode zb_L_shine 14 = .ok (.iconst 0, 1) ∧ 14 + 1 = 15 := ⟨by decide +kernel, rfl⟩
theorem zd_L_shine_15 : decode zb_L_shine 15 = .ok (.istore 6, 2) ∧ 15 + 2 = 17 := ⟨by decide +kernel, rfl⟩
theorem zd_L_shine_17 : decode zb_L_shine 17 = .ok (.iload 6, 2) ∧ 17 + 2 = 19 := ⟨by decide +kernel, rfl⟩
theorem zd_L_shine_19 : decode zb_L_shine 19 = .ok (.aload_n 1, 1) ∧ 19 + 1 = 20 := ⟨by decide +kernel, rfl⟩
theorem zd_L_shine_20 : decode zb_L_shine 20 = .ok (.getfield 34, 3) ∧ 20 + 3 = 23 := ⟨by decide +kernel, rfl⟩
theorem zd_L_shine_23 : decode zb_L_shine 23 = .ok (.iconst 0, 1) ∧ 23 + 1 = 24 := ⟨by decide +kernel, rfl⟩
theorem zd_L_shine_24 : decode zb_L_shine 24 = .ok (.iaload, 1) ∧ 24 + 1 = 25 := ⟨by decide +kernel, rfl⟩
theorem zd_L_shine_25 : decode zb_L_shine 25 = .ok (.if_icmp .ge 76, 3) ∧ ((25 : Nat) : Int) + (76) = ((101 : Nat) : Int) ∧ 25 + 3 = 28 := ⟨by decide +kernel, by decide, rfl⟩
theorem zd_L_shine_28 : decode zb_L_shine 28 = .ok (.aload_n 1, 1) ∧ 28 + 1 = 29 := ⟨by decide +kernel, rfl⟩
theorem zd_L_shine_29 : decode zb_L_shine 29 = .ok (.iconst 0, 1) ∧ 29 + 1 = 30 := ⟨by decide +kernel, rfl⟩
theorem zd_L_shine_30 : decode zb_L_shine 30 = .ok (.iload 6, 2) ∧ 30 + 2 = 32 := ⟨by decide +kernel, rfl⟩
theorem zd_L_shine_32 : decode zb_L_shine 32 = .ok (.invokevirtual 39, 3) ∧ 32 + 3 = 35 := ⟨by decide +kernel, rfl⟩
theorem zd_L_shine_35 : decode zb_L_shine 35 = .ok (.istore 7, 2) ∧ 35 + 2 = 37 := ⟨by decide +kernel, rfl⟩
theorem zd_L_shine_37 : decode zb_L_shine 37 = .ok (.aload_n 1, 1) ∧ 37 + 1 = 38 := ⟨by decide +kernel, rfl⟩
theorem zd_L_shine_38 : decode zb_L_shine 38 = .ok (.getfield 43, 3) ∧ 38 + 3 = 41 := ⟨by decide +kernel, rfl⟩
theorem zd_L_shine_41 : decode zb_L_shine 41 = .ok (.iload 7, 2) ∧ 41 + 2 = 43 := ⟨by decide +kernel, rfl⟩
theorem zd_L_shine_43 : decode zb_L_shine 43 = .ok (.iaload, 1) ∧ 43 + 1 = 44 := ⟨by decide +kernel, rfl⟩
theorem zd_L_shine_44 : decode zb_L_shine 44 = .ok (.istore 8, 2) ∧ 44 + 2 = 46 := ⟨by decide +kernel, rfl⟩
theorem zd_L_shine_46 : decode zb_L_shine 46 = .ok (.iload 4, 2) ∧ 46 + 2 = 48 := ⟨by decide +kernel, rfl⟩
theorem zd_L_shine_48 : decode zb_L_shine 48 = .ok (.iload 6, 2) ∧ 48 + 2 = 50 := ⟨by decide +kernel, rfl⟩
theorem zd_L_shine_50 : decode zb_L_shine 50 = .ok (.ishr, 1) ∧ 50 + 1 = 51 := ⟨by decide +kernel, rfl⟩
theorem zd_L_shine_51 : decode zb_L_shine 51 = .ok (.iconst 1, 1) ∧ 51 + 1 = 52 := ⟨by decide +kernel, rfl⟩
theorem zd_L_shine_52 : decode zb_L_shine 52 = .ok (.iand, 1) ∧ 52 + 1 = 53 := ⟨by decide +kernel, rfl⟩
theorem zd_L_shine_53 : decode zb_L_shine 53 = .ok (.iconst 1, 1) ∧ 53 + 1 = 54 := ⟨by decide +kernel, rfl⟩
theorem zd_L_shine_54 : decode zb_L_shine 54 = .ok (.if_icmp .ne 41, 3) ∧ ((54 : Nat) : Int) + (41) = ((95 : Nat) : Int) ∧ 54 + 3 = 57 := ⟨by decide +kernel, by decide, rfl⟩
theorem zd_L_shine_57 : decode zb_L_shine 57 = .ok (.iload 8, 2) ∧ 57 + 2 = 59 := ⟨by decide +kernel, rfl⟩
theorem zd_L_shine_59 : decode zb_L_shine 59 = .ok (.iconst (-1), 1) ∧ 59 + 1 = 60 := ⟨by decide +kernel, rfl⟩
theorem zd_L_shine_60 : decode zb_L_shine 60 = .ok (.if_icmp .eq 35, 3) ∧ ((60 : Nat) : Int) + (35) = ((95 : Nat) : Int) ∧ 60 + 3 = 63 := ⟨by decide +kernel, by decide, rfl⟩
theorem zd_L_shine_63 : decode zb_L_shine 63 = .ok (.aload_n 0, 1) ∧ 63 + 1 = 64 := ⟨by decide +kernel, rfl⟩
theorem zd_L_shine_64 : decode zb_L_shine 64 = .ok (.aload_n 1, 1) ∧ 64 + 1 = 65 := ⟨by decide +kernel, rfl⟩
theorem zd_L_shine_65 : decode zb_L_shine 65 = .ok (.getfield 46, 3) ∧ 65 + 3 = 68 := ⟨by decide +kernel, rfl⟩
theorem zd_L_shine_68 : decode zb_L_shine 68 = .ok (.iload 8, 2) ∧ 68 + 2 = 70 := ⟨by decide +kernel, rfl⟩
theorem zd_L_shine_70 : decode zb_L_shine 70 = .ok (.iconst 4, 1) ∧ 70 + 1 = 71 := ⟨by decide +kernel, rfl⟩
theorem zd_L_shine_71 : decode zb_L_shine 71 = .ok (.imul, 1) ∧ 71 + 1 = 72 := ⟨by decide +kernel, rfl⟩
theorem zd_L_shine_72 : decode zb_L_shine 72 = .ok (.aload_n 1, 1) ∧ 72 + 1 = 73 := ⟨by decide +kernel, rfl⟩
theorem zd_L_shine_73 : decode zb_L_shine 73 = .ok (.getfield 49, 3) ∧ 73 + 3 = 76 := ⟨by decide +kernel, rfl⟩
theorem zd_L_shine_76 : decode zb_L_shine 76 = .ok (.iload 7, 2) ∧ 76 + 2 = 78 := ⟨by decide +kernel, rfl⟩
theorem zd_L_shine_78 : decode zb_L_shine 78 = .ok (.iaload, 1) ∧ 78 + 1 = 79 := ⟨by decide +kernel, rfl⟩
theorem zd_L_shine_79 : decode zb_L_shine 79 = .ok (.iadd, 1) ∧ 79 + 1 = 80 := ⟨by decide +kernel, rfl⟩
theorem zd_L_shine_80 : decode zb_L_shine 80 = .ok (.iaload, 1) ∧ 80 + 1 = 81 := ⟨by decide +kernel, rfl⟩
theorem zd_L_shine_81 : decode zb_L_shine 81 = .ok (.aload_n 1, 1) ∧ 81 + 1 = 82 := ⟨by decide +kernel, rfl⟩
theorem zd_L_shine_82 : decode zb_L_shine 82 = .ok (.getfield 52, 3) ∧ 82 + 3 = 85 := ⟨by decide +kernel, rfl⟩
theorem zd_L_shine_85 : decode zb_L_shine 85 = .ok (.iload 7, 2) ∧ 85 + 2 = 87 := ⟨by decide +kernel, rfl⟩
theorem zd_L_shine_87 : decode zb_L_shine 87 = .ok (.iaload, 1) ∧ 87 + 1 = 88 := ⟨by decide +kernel, rfl⟩
theorem zd_L_shine_88 : decode zb_L_shine 88 = .ok (.iload 5, 2) ∧ 88 + 2 = 90 := ⟨by decide +kernel, rfl⟩
theorem zd_L_shine_90 : decode zb_L_shine 90 = .ok (.iand, 1) ∧ 90 + 1 = 91 := ⟨by decide +kernel, rfl⟩
theorem zd_L_shine_91 : decode zb_L_shine 91 = .ok (.iconst 1, 1) ∧ 91 + 1 = 92 := ⟨by decide +kernel, rfl⟩
theorem zd_L_shine_92 : decode zb_L_shine 92 = .ok (.invokevirtual 55, 3) ∧ 92 + 3 = 95 := ⟨by decide +kernel, rfl⟩
theorem zd_L_shine_95 : decode zb_L_shine 95 = .ok (.iinc 6 1, 3) ∧ 95 + 3 = 98 := ⟨by decide +kernel, rfl⟩
theorem zd_L_shine_98 : decode zb_L_shine 98 = .ok (.goto (-81), 3) ∧ ((98 : Nat) : Int) + (-81) = ((17 : Nat) : Int) ∧ 98 + 3 = 101 := ⟨by decide +kernel, by decide, rfl⟩
theorem zd_L_shine_101 : decode zb_L_shine 101 = .ok (.aload_n 0, 1) ∧ 101 + 1 = 102 := ⟨by decide +kernel, rfl⟩
theorem zd_L_shine_102 : decode zb_L_shine 102 = .ok (.aload_n 1, 1) ∧ 102 + 1 = 103 := ⟨by decide +kernel, rfl⟩
theorem zd_L_shine_103 : decode zb_L_shine 103 = .ok (.invokevirtual 59, 3) ∧ 103 + 3 = 106 := ⟨by decide +kernel, rfl⟩
theorem zd_L_shine_106 : decode zb_L_shine 106 = .ok (.aload_n 0, 1) ∧ 106 + 1 = 107 := ⟨by decide +kernel, rfl⟩
theorem zd_L_shine_107 : decode zb_L_shine 107 = .ok (.iconst 0, 1) ∧ 107 + 1 = 108 := ⟨by decide +kernel, rfl⟩
theorem zd_L_shine_108 : decode zb_L_shine 108 = .ok (.putfield 63, 3) ∧ 108 + 3 = 111 := ⟨by decide +kernel, rfl⟩
theorem zd_L_shine_111 : decode zb_L_shine 111 = .ok (.iconst 0, 1) ∧ 111 + 1 = 112 := ⟨by decide +kernel, rfl⟩
theorem zd_L_shine_112 : decode zb_L_shine 112 = .ok (.istore 6, 2) ∧ 112 + 2 = 114 := ⟨by decide +kernel, rfl⟩
theorem zd_L_shine_114 : decode zb_L_shine 114 = .ok (.iload 6, 2) ∧ 114 + 2 = 116 := ⟨by decide +kernel, rfl⟩
theorem zd_L_shine_116 : decode zb_L_shine 116 = .ok (.aload_n 1, 1) ∧ 116 + 1 = 117 := ⟨by decide +kernel, rfl⟩
theorem zd_L_shine_117 : decode zb_L_shine 117 = .ok (.getfield 34, 3) ∧ 117 + 3 = 120 := ⟨by decide +kernel, rfl⟩
theorem zd_L_shine_120 : decode zb_L_shine 120 = .ok (.iconst 3, 1) ∧ 120 + 1 = 121 := ⟨by decide +kernel, rfl⟩
theorem zd_L_shine_121 : decode zb_L_shine 121 = .ok (.iaload, 1) ∧ 121 + 1 = 122 := ⟨by decide +kernel, rfl⟩
theorem zd_L_shine_122 : decode zb_L_shine 122 = .ok (.if_icmp .ge 50, 3) ∧ ((122 : Nat) : Int) + (50) = ((172 : Nat) : Int) ∧ 122 + 3 = 125 := ⟨by decide +kernel, by decide, rfl⟩
theorem zd_L_shine_125 : decode zb_L_shine 125 = .ok (.aload_n 0, 1) ∧ 125 + 1 = 126 := ⟨by decide +kernel, rfl⟩
theorem zd_L_shine_126 : decode zb_L_shine 126 = .ok (.getfield 15, 3) ∧ 126 + 3 = 129 := ⟨by decide +kernel, rfl⟩
theorem zd_L_shine_129 : decode zb_L_shine 129 = .ok (.iload 6, 2) ∧ 129 + 2 = 131 := ⟨by decide +kernel, rfl⟩
theorem zd_L_shine_131 : decode zb_L_shine 131 = .ok (.aload_n 0, 1) ∧ 131 + 1 = 132 := ⟨by decide +kernel, rfl⟩
theorem zd_L_shine_132 : decode zb_L_shine 132 = .ok (.aload_n 1, 1) ∧ 132 + 1 = 133 := ⟨by decide +kernel, rfl⟩
theorem zd_L_shine_133 : decode zb_L_shine 133 = .ok (.iconst 3, 1) ∧ 133 + 1 = 134 := ⟨by decide +kernel, rfl⟩
theorem zd_L_shine_134 : decode zb_L_shine 134 = .ok (.iload 6, 2) ∧ 134 + 2 = 136 := ⟨by decide +kernel, rfl⟩
theorem zd_L_shine_136 : decode zb_L_shine 136 = .ok (.invokevirtual 66, 3) ∧ 136 + 3 = 139 := ⟨by decide +kernel, rfl⟩
theorem zd_L_shine_139 : decode zb_L_shine 139 = .ok (.invokevirtual 68, 3) ∧ 139 + 3 = 142 := ⟨by decide +kernel, rfl⟩
theorem zd_L_shine_142 : decode zb_L_shine 142 = .ok (.iastore, 1) ∧ 142 + 1 = 143 := ⟨by decide +kernel, rfl⟩
theorem zd_L_shine_143 : decode zb_L_shine 143 = .ok (.aload_n 0, 1) ∧ 143 + 1 = 144 := ⟨by decide +kernel, rfl⟩
theorem zd_L_shine_144 : decode zb_L_shine 144 = .ok (.getfield 15, 3) ∧ 144 + 3 = 147 := ⟨by decide +kernel, rfl⟩
theorem zd_L_shine_147 : decode zb_L_shine 147 = .ok (.iload 6, 2) ∧ 147 + 2 = 149 := ⟨by decide +kernel, rfl⟩
theorem zd_L_shine_149 : decode zb_L_shine 149 = .ok (.iaload, 1) ∧ 149 + 1 = 150 := ⟨by decide +kernel, rfl⟩
theorem zd_L_shine_150 : decode zb_L_shine 150 = .ok (.ifCond .eq 16, 3) ∧ ((150 : Nat) : Int) + (16) = ((166 : Nat) : Int) ∧ 150 + 3 = 153 := ⟨by decide +kernel, by decide, rfl⟩
theorem zd_L_shine_153 : decode zb_L_shine 153 = .ok (.aload_n 0, 1) ∧ 153 + 1 = 154 := ⟨by decide +kernel, rfl⟩
theorem zd_L_shine_154 : decode zb_L_shine 154 = .ok (.dup, 1) ∧ 154 + 1 = 155 := ⟨by decide +kernel, rfl⟩
theorem zd_L_shine_155 : decode zb_L_shine 155 = .ok (.getfield 63, 3) ∧ 155 + 3 = 158 := ⟨by decide +kernel, rfl⟩
theorem zd_L_shine_158 : decode zb_L_shine 158 = .ok (.iconst 1, 1) ∧ 158 + 1 = 159 := ⟨by decide +kernel, rfl⟩
theorem zd_L_shine_159 : decode zb_L_shine 159 = .ok (.iload 6, 2) ∧ 159 + 2 = 161 := ⟨by decide +kernel, rfl⟩
theorem zd_L_shine_161 : decode zb_L_shine 161 = .ok (.ishl, 1) ∧ 161 + 1 = 162 := ⟨by decide +kernel, rfl⟩
theorem zd_L_shine_162 : decode zb_L_shine 162 = .ok (.ior, 1) ∧ 162 + 1 = 163 := ⟨by decide +kernel, rfl⟩
theorem zd_L_shine_163 : decode zb_L_shine 163 = .ok (.putfield 63, 3) ∧ 163 + 3 = 166 := ⟨by decide +kernel, rfl⟩
theorem zd_L_shine_166 : decode zb_L_shine 166 = .ok (.iinc 6 1, 3) ∧ 166 + 3 = 169 := ⟨by decide +kernel, rfl⟩
theorem zd_L_shine_169 : decode zb_L_shine 169 = .ok (.goto (-55), 3) ∧ ((169 : Nat) : Int) + (-55) = ((114 : Nat) : Int) ∧ 169 + 3 = 172 := ⟨by decide +kernel, by decide, rfl⟩
theorem zd_L_shine_172 : decode zb_L_shine 172 = .ok (.return_, 1) ∧ 172 + 1 = 173 := ⟨by decide +kernel, rfl⟩
theorem zd_L_darken_0 : decode zb_L_darken 0 = .ok (.iconst 0, 1) ∧ 0 + 1 = 1 := ⟨by decide +kernel, rfl⟩
theorem zd_L_darken_1 : decode zb_L_darken 1 = .ok (.istore_n 1, 1) ∧ 1 + 1 = 2 := ⟨by decide +kernel, rfl⟩
theorem zd_L_darken_2 : decode zb_L_darken 2 = .ok (.iload_n 1, 1) ∧ 2 + 1 = 3 := ⟨by decide +kernel, rfl⟩
theorem zd_L_darken_3 : decode zb_L_darken 3 = .ok (.aload_n 0, 1) ∧ 3 + 1 = 4 := ⟨by decide +kernel, rfl⟩
theorem zd_L_darken_4 : decode zb_L_darken 4 = .ok (.getfield 76, 3) ∧ 4 + 3 = 7 := ⟨by decide +kernel, rfl⟩
theorem zd_L_darken_7 : decode zb_L_darken 7 = .ok (.if_icmp .ge 20, 3) ∧ ((7 : Nat) : Int) + (20) = ((27 : Nat) : Int) ∧ 7 + 3 = 10 := ⟨by decide +kernel, by decide, rfl⟩
theorem zd_L_darken_10 : decode zb_L_darken 10 = .ok (.aload_n 0, 1) ∧ 10 + 1 = 11 := ⟨by decide +kernel, rfl⟩
theorem zd_L_darken_11 : decode zb_L_darken 11 = .ok (.getfield 9, 3) ∧ 11 + 3 = 14 := ⟨by decide +kernel, rfl⟩
theorem zd_L_darken_14 : decode zb_L_darken 14 = .ok (.aload_n 0, 1) ∧ 14 + 1 = 15 := ⟨by decide +kernel, rfl⟩
theorem zd_L_darken_15 : decode zb_L_darken 15 = .ok (.iload_n 1, 1) ∧ 15 + 1 = 16 := ⟨by decide +kernel, rfl⟩
theorem zd_L_darken_16 : decode zb_L_darken 16 = .ok (.invokevirtual 79, 3) ∧ 16 + 3 = 19 := ⟨by decide +kernel, rfl⟩
theorem zd_L_darken_19 : decode zb_L_darken 19 = .ok (.iconst 0, 1) ∧ 19 + 1 = 20 := ⟨by decide +kernel, rfl⟩
theorem zd_L_darken_20 : decode zb_L_darken 20 = .ok (.iastore, 1) ∧ 20 + 1 = 21 := ⟨by decide +kernel, rfl⟩
theorem zd_L_darken_21 : decode zb_L_darken 21 = .ok (.iinc 1 1, 3) ∧ 21 + 3 = 24 := ⟨by decide +kernel, rfl⟩
theorem zd_L_darken_24 : decode zb_L_darken 24 = .ok (.goto (-22), 3) ∧ ((24 : Nat) : Int) + (-22) = ((2 : Nat) : Int) ∧ 24 + 3 = 27 := ⟨by decide +kernel, by decide, rfl⟩
theorem zd_L_darken_27 : decode zb_L_darken 27 = .ok (.aload_n 0, 1) ∧ 27 + 1 = 28 := ⟨by decide +kernel, rfl⟩
theorem zd_L_darken_28 : decode zb_L_darken 28 = .ok (.iconst 0, 1) ∧ 28 + 1 = 29 := ⟨by decide +kernel, rfl⟩
theorem zd_L_darken_29 : decode zb_L_darken 29 = .ok (.putfield 76, 3) ∧ 29 + 3 = 32 := ⟨by decide +kernel, rfl⟩
theorem zd_L_darken_32 : decode zb_L_darken 32 = .ok (.return_, 1) ∧ 32 + 1 = 33 := ⟨by decide +kernel, rfl⟩
theorem zd_L_spread_0 : decode zb_L_spread 0 = .ok (.iconst 0, 1) ∧ 0 + 1 = 1 := ⟨by decide +kernel, rfl⟩
theorem zd_L_spread_1 : decode zb_L_spread 1 = .ok (.istore_n 2, 1) ∧ 1 + 1 = 2 := ⟨by decide +kernel, rfl⟩
theorem zd_L_spread_2 : decode zb_L_spread 2 = .ok (.iload_n 2, 1) ∧ 2 + 1 = 3 := ⟨by decide +kernel, rfl⟩
theorem zd_L_spread_3 : decode zb_L_spread 3 = .ok (.aload_n 0, 1) ∧ 3 + 1 = 4 := ⟨by decide +kernel, rfl⟩
theorem zd_L_spread_4 : decode zb_L_spread 4 = .ok (.getfield 76, 3) ∧ 4 + 3 = 7 := ⟨by decide +kernel, rfl⟩
theorem zd_L_spread_7 : decode zb_L_spread 7 = .ok (.if_icmp .ge 37, 3) ∧ ((7 : Nat) : Int) + (37) = ((44 : Nat) : Int) ∧ 7 + 3 = 10 := ⟨by decide +kernel, by decide, rfl⟩
theorem zd_L_spread_10 : decode zb_L_spread 10 = .ok (.iload_n 2, 1) ∧ 10 + 1 = 11 := ⟨by decide +kernel, rfl⟩
theorem zd_L_spread_11 : decode zb_L_spread 11 = .ok (.aload_n 0, 1) ∧ 11 + 1 = 12 := ⟨by decide +kernel, rfl⟩
theorem zd_L_spread_12 : decode zb_L_spread 12 = .ok (.getfield 18, 3) ∧ 12 + 3 = 15 := ⟨by decide +kernel, rfl⟩
theorem zd_L_spread_15 : decode zb_L_spread 15 = .ok (.arraylength, 1) ∧ 15 + 1 = 16 := ⟨by decide +kernel, rfl⟩
theorem zd_L_spread_16 : decode zb_L_spread 16 = .ok (.if_icmp .ge 28, 3) ∧ ((16 : Nat) : Int) + (28) = ((44 : Nat) : Int) ∧ 16 + 3 = 19 := ⟨by decide +kernel, by decide, rfl⟩
theorem zd_L_spread_19 : decode zb_L_spread 19 = .ok (.aload_n 0, 1) ∧ 19 + 1 = 20 := ⟨by decide +kernel, rfl⟩
theorem zd_L_spread_20 : decode zb_L_spread 20 = .ok (.aload_n 1, 1) ∧ 20 + 1 = 21 := ⟨by decide +kernel, rfl⟩
theorem zd_L_spread_21 : decode zb_L_spread 21 = .ok (.aload_n 0, 1) ∧ 21 + 1 = 22 := ⟨by decide +kernel, rfl⟩
theorem zd_L_spread_22 : decode zb_L_spread 22 = .ok (.iload_n 2, 1) ∧ 22 + 1 = 23 := ⟨by decide +kernel, rfl⟩
theorem zd_L_spread_23 : decode zb_L_spread 23 = .ok (.invokevirtual 79, 3) ∧ 23 + 3 = 26 := ⟨by decide +kernel, rfl⟩
theorem zd_L_spread_26 : decode zb_L_spread 26 = .ok (.aload_n 0, 1) ∧ 26 + 1 = 27 := ⟨by decide +kernel, rfl⟩
theorem zd_L_spread_27 : decode zb_L_spread 27 = .ok (.getfield 18, 3) ∧ 27 + 3 = 30 := ⟨by decide +kernel, rfl⟩
theorem zd_L_spread_30 : decode zb_L_spread 30 = .ok (.iload_n 2, 1) ∧ 30 + 1 = 31 := ⟨by decide +kernel, rfl⟩
theorem zd_L_spread_31 : decode zb_L_spread 31 = .ok (.iaload, 1) ∧ 31 + 1 = 32 := ⟨by decide +kernel, rfl⟩
theorem zd_L_spread_32 : decode zb_L_spread 32 = .ok (.bipush 7, 2) ∧ 32 + 2 = 34 := ⟨by decide +kernel, rfl⟩
theorem zd_L_spread_34 : decode zb_L_spread 34 = .ok (.iand, 1) ∧ 34 + 1 = 35 := ⟨by decide +kernel, rfl⟩
theorem zd_L_spread_35 : decode zb_L_spread 35 = .ok (.invokevirtual 72, 3) ∧ 35 + 3 = 38 := ⟨by decide +kernel, rfl⟩
theorem zd_L_spread_38 : decode zb_L_spread 38 = .ok (.iinc 2 1, 3) ∧ 38 + 3 = 41 := ⟨by decide +kernel, rfl⟩
theorem zd_L_spread_41 : decode zb_L_spread 41 = .ok (.goto (-39), 3) ∧ ((41 : Nat) : Int) + (-39) = ((2 : Nat) : Int) ∧ 41 + 3 = 44 := ⟨by decide +kernel, by decide, rfl⟩
theorem zd_L_spread_44 : decode zb_L_spread 44 = .ok (.return_, 1) ∧ 44 + 1 = 45 := ⟨by decide +kernel, rfl⟩
theorem zd_L_pass_0 : decode zb_L_pass 0 = .ok (.iload_n 2, 1) ∧ 0 + 1 = 1 := ⟨by decide +kernel, rfl⟩
theorem zd_L_pass_1 : decode zb_L_pass 1 = .ok (.iconst 4, 1) ∧ 1 + 1 = 2 := ⟨by decide +kernel, rfl⟩
theorem zd_L_pass_2 : decode zb_L_pass 2 = .ok (.irem, 1) ∧ 2 + 1 = 3 := ⟨by decide +kernel, rfl⟩
theorem zd_L_pass_3 : decode zb_L_pass 3 = .ok (.istore 4, 2) ∧ 3 + 2 = 5 := ⟨by decide +kernel, rfl⟩
theorem zd_L_pass_5 : decode zb_L_pass 5 = .ok (.iload_n 2, 1) ∧ 5 + 1 = 6 := ⟨by decide +kernel, rfl⟩
theorem zd_L_pass_6 : decode zb_L_pass 6 = .ok (.iload 4, 2) ∧ 6 + 2 = 8 := ⟨by decide +kernel, rfl⟩
theorem zd_L_pass_8 : decode zb_L_pass 8 = .ok (.isub, 1) ∧ 8 + 1 = 9 := ⟨by decide +kernel, rfl⟩
theorem zd_L_pass_9 : decode zb_L_pass 9 = .ok (.istore 5, 2) ∧ 9 + 2 = 11 := ⟨by decide +kernel, rfl⟩
theorem zd_L_pass_11 : decode zb_L_pass 11 = .ok (.aload_n 0, 1) ∧ 11 + 1 = 12 := ⟨by decide +kernel, rfl⟩
theorem zd_L_pass_12 : decode zb_L_pass 12 = .ok (.getfield 21, 3) ∧ 12 + 3 = 15 := ⟨by decide +kernel, rfl⟩
theorem zd_L_pass_15 : decode zb_L_pass 15 = .ok (.iload_n 2, 1) ∧ 15 + 1 = 16 := ⟨by decide +kernel, rfl⟩
theorem zd_L_pass_16 : decode zb_L_pass 16 = .ok (.iaload, 1) ∧ 16 + 1 = 17 := ⟨by decide +kernel, rfl⟩
theorem zd_L_pass_17 : decode zb_L_pass 17 = .ok (.iconst 1, 1) ∧ 17 + 1 = 18 := ⟨by decide +kernel, rfl⟩
theorem zd_L_pass_18 : decode zb_L_pass 18 = .ok (.iadd, 1) ∧ 18 + 1 = 19 := ⟨by decide +kernel, rfl⟩
theorem zd_L_pass_19 : decode zb_L_pass 19 = .ok (.istore 6, 2) ∧ 19 + 2 = 21 := ⟨by decide +kernel, rfl⟩
theorem zd_L_pass_21 : decode zb_L_pass 21 = .ok (.aload_n 1, 1) ∧ 21 + 1 = 22 := ⟨by decide +kernel, rfl⟩
theorem zd_L_pass_22 : decode zb_L_pass 22 = .ok (.getfield 82, 3) ∧ 22 + 3 = 25 := ⟨by decide +kernel, rfl⟩
theorem zd_L_pass_25 : decode zb_L_pass 25 = .ok (.iload_n 2, 1) ∧ 25 + 1 = 26 := ⟨by decide +kernel, rfl⟩
theorem zd_L_pass_26 : decode zb_L_pass 26 = .ok (.iconst 4, 1) ∧ 26 + 1 = 27 := ⟨by decide +kernel, rfl⟩
theorem zd_L_pass_27 : decode zb_L_pass 27 = .ok (.idiv, 1) ∧ 27 + 1 = 28 := ⟨by decide +kernel, rfl⟩
theorem zd_L_pass_28 : decode zb_L_pass 28 = .ok (.iaload, 1) ∧ 28 + 1 = 29 := ⟨by decide +kernel, rfl⟩
theorem zd_L_pass_29 : decode zb_L_pass 29 = .ok (.istore 7, 2) ∧ 29 + 2 = 31 := ⟨by decide +kernel, rfl⟩
theorem zd_L_pass_31 : decode zb_L_pass 31 = .ok (.iload 7, 2) ∧ 31 + 2 = 33 := ⟨by decide +kernel, rfl⟩
theorem zd_L_pass_33 : decode zb_L_pass 33 = .ok (.iconst (-1), 1) ∧ 33 + 1 = 34 := ⟨by decide +kernel, rfl⟩
theorem zd_L_pass_34 : decode zb_L_pass 34 = .ok (.if_icmp .ne 17, 3) ∧ ((34 : Nat) : Int) + (17) = ((51 : Nat) : Int) ∧ 34 + 3 = 37 := ⟨by decide +kernel, by decide, rfl⟩
theorem zd_L_pass_37 : decode zb_L_pass 37 = .ok (.aload_n 0, 1) ∧ 37 + 1 = 38 := ⟨by decide +kernel, rfl⟩
theorem zd_L_pass_38 : decode zb_L_pass 38 = .ok (.aload_n 1, 1) ∧ 38 + 1 = 39 := ⟨by decide +kernel, rfl⟩
theorem zd_L_pass_39 : decode zb_L_pass 39 = .ok (.getfield 46, 3) ∧ 39 + 3 = 42 := ⟨by decide +kernel, rfl⟩
theorem zd_L_pass_42 : decode zb_L_pass 42 = .ok (.iload_n 2, 1) ∧ 42 + 1 = 43 := ⟨by decide +kernel, rfl⟩
theorem zd_L_pass_43 : decode zb_L_pass 43 = .ok (.iaload, 1) ∧ 43 + 1 = 44 := ⟨by decide +kernel, rfl⟩
theorem zd_L_pass_44 : decode zb_L_pass 44 = .ok (.iload_n 3, 1) ∧ 44 + 1 = 45 := ⟨by decide +kernel, rfl⟩
theorem zd_L_pass_45 : decode zb_L_pass 45 = .ok (.iload 6, 2) ∧ 45 + 2 = 47 := ⟨by decide +kernel, rfl⟩
theorem zd_L_pass_47 : decode zb_L_pass 47 = .ok (.invokevirtual 55, 3) ∧ 47 + 3 = 50 := ⟨by decide +kernel, rfl⟩
theorem zd_L_pass_50 : decode zb_L_pass 50 = .ok (.return_, 1) ∧ 50 + 1 = 51 := ⟨by decide +kernel, rfl⟩
theorem zd_L_pass_51 : decode zb_L_pass 51 = .ok (.aload_n 1, 1) ∧ 51 + 1 = 52 := ⟨by decide +kernel, rfl⟩
theorem zd_L_pass_52 : decode zb_L_pass 52 = .ok (.iload 7, 2) ∧ 52 + 2 = 54 := ⟨by decide +kernel, rfl⟩
theorem zd_L_pass_54 : decode zb_L_pass 54 = .ok (.aload_n 0, 1) ∧ 54 + 1 = 55 := ⟨by decide +kernel, rfl⟩
theorem zd_L_pass_55 : decode zb_L_pass 55 = .ok (.getfield 27, 3) ∧ 55 + 3 = 58 := ⟨by decide +kernel, rfl⟩
theorem zd_L_pass_58 : decode zb_L_pass 58 = .ok (.aload_n 0, 1) ∧ 58 + 1 = 59 := ⟨by decide +kernel, rfl⟩
theorem zd_L_pass_59 : decode zb_L_pass 59 = .ok (.getfield 31, 3) ∧ 59 + 3 = 62 := ⟨by decide +kernel, rfl⟩
theorem zd_L_pass_62 : decode zb_L_pass 62 = .ok (.invokevirtual 85, 3) ∧ 62 + 3 = 65 := ⟨by decide +kernel, rfl⟩
theorem zd_L_pass_65 : decode zb_L_pass 65 = .ok (.istore 8, 2) ∧ 65 + 2 = 67 := ⟨by decide +kernel, rfl⟩
theorem zd_L_pass_67 : decode zb_L_pass 67 = .ok (.aload_n 1, 1) ∧ 67 + 1 = 68 := ⟨by decide +kernel, rfl⟩
theorem zd_L_pass_68 : decode zb_L_pass 68 = .ok (.getfield 89, 3) ∧ 68 + 3 = 71 := ⟨by decide +kernel, rfl⟩
theorem zd_L_pass_71 : decode zb_L_pass 71 = .ok (.iload 7, 2) ∧ 71 + 2 = 73 := ⟨by decide +kernel, rfl⟩
theorem zd_L_pass_73 : decode zb_L_pass 73 = .ok (.iaload, 1) ∧ 73 + 1 = 74 := ⟨by decide +kernel, rfl⟩
theorem zd_L_pass_74 : decode zb_L_pass 74 = .ok (.tableswitch 218 2 9 #[46, 71, 109, 128, 218, 218, 192, 46], 46) ∧ 74 + 46 = 120 := ⟨by decide +kernel, rfl⟩
theorem zd_L_pass_120 : decode zb_L_pass 120 = .ok (.aload_n 0, 1) ∧ 120 + 1 = 121 := ⟨by decide +kernel, rfl⟩
theorem zd_L_pass_121 : decode zb_L_pass 121 = .ok (.aload_n 1, 1) ∧ 121 + 1 = 122 := ⟨by decide +kernel, rfl⟩
theorem zd_L_pass_122 : decode zb_L_pass 122 = .ok (.getfield 46, 3) ∧ 122 + 3 = 125 := ⟨by decide +kernel, rfl⟩
theorem zd_L_pass_125 : decode zb_L_pass 125 = .ok (.iload 5, 2) ∧ 125 + 2 = 127 := ⟨by decide +kernel, rfl⟩
theorem zd_L_pass_127 : decode zb_L_pass 127 = .ok (.iload 4, 2) ∧ 127 + 2 = 129 := ⟨by decide +kernel, rfl⟩
theorem zd_L_pass_129 : decode zb_L_pass 129 = .ok (.iload 8, 2) ∧ 129 + 2 = 131 := ⟨by decide +kernel, rfl⟩
theorem zd_L_pass_131 : decode zb_L_pass 131 = .ok (.invokestatic 92, 3) ∧ 131 + 3 = 134 := ⟨by decide +kernel, rfl⟩
theorem zd_L_pass_134 : decode zb_L_pass 134 = .ok (.iadd, 1) ∧ 134 + 1 = 135 := ⟨by decide +kernel, rfl⟩
theorem zd_L_pass_135 : decode zb_L_pass 135 = .ok (.iaload, 1) ∧ 135 + 1 = 136 := ⟨by decide +kernel, rfl⟩
theorem zd_L_pass_136 : decode zb_L_pass 136 = .ok (.iload_n 3, 1) ∧ 136 + 1 = 137 := ⟨by decide +kernel, rfl⟩
theorem zd_L_pass_137 : decode zb_L_pass 137 = .ok (.iload 6, 2) ∧ 137 + 2 = 139 := ⟨by decide +kernel, rfl⟩
theorem zd_L_pass_139 : decode zb_L_pass 139 = .ok (.invokevirtual 55, 3) ∧ 139 + 3 = 142 := ⟨by decide +kernel, rfl⟩
theorem zd_L_pass_142 : decode zb_L_pass 142 = .ok (.goto 150, 3) ∧ ((142 : Nat) : Int) + (150) = ((292 : Nat) : Int) ∧ 142 + 3 = 145 := ⟨by decide +kernel, by decide, rfl⟩
theorem zd_L_pass_145 : decode zb_L_pass 145 = .ok (.aload_n 0, 1) ∧ 145 + 1 = 146 := ⟨by decide +kernel, rfl⟩
theorem zd_L_pass_146 : decode zb_L_pass 146 = .ok (.aload_n 1, 1) ∧ 146 + 1 = 147 := ⟨by decide +kernel, rfl⟩
theorem zd_L_pass_147 : decode zb_L_pass 147 = .ok (.getfield 46, 3) ∧ 147 + 3 = 150 := ⟨by decide +kernel, rfl⟩
theorem zd_L_pass_150 : decode zb_L_pass 150 = .ok (.iload 5, 2) ∧ 150 + 2 = 152 := ⟨by decide +kernel, rfl⟩
theorem zd_L_pass_152 : decode zb_L_pass 152 = .ok (.iload 4, 2) ∧ 152 + 2 = 154 := ⟨by decide +kernel, rfl⟩
theorem zd_L_pass_154 : decode zb_L_pass 154 = .ok (.iload 8, 2) ∧ 154 + 2 = 156 := ⟨by decide +kernel, rfl⟩
theorem zd_L_pass_156 : decode zb_L_pass 156 = .ok (.invokestatic 92, 3) ∧ 156 + 3 = 159 := ⟨by decide +kernel, rfl⟩
theorem zd_L_pass_159 : decode zb_L_pass 159 = .ok (.iadd, 1) ∧ 159 + 1 = 160 := ⟨by decide +kernel, rfl⟩
theorem zd_L_pass_160 : decode zb_L_pass 160 = .ok (.iaload, 1) ∧ 160 + 1 = 161 := ⟨by decide +kernel, rfl⟩
theorem zd_L_pass_161 : decode zb_L_pass 161 = .ok (.iload_n 3, 1) ∧ 161 + 1 = 162 := ⟨by decide +kernel, rfl⟩
theorem zd_L_pass_162 : decode zb_L_pass 162 = .ok (.iload 6, 2) ∧ 162 + 2 = 164 := ⟨by decide +kernel, rfl⟩
theorem zd_L_pass_164 : decode zb_L_pass 164 = .ok (.invokevirtual 55, 3) ∧ 164 + 3 = 167 := ⟨by decide +kernel, rfl⟩
theorem zd_L_pass_167 : decode zb_L_pass 167 = .ok (.aload_n 0, 1) ∧ 167 + 1 = 168 := ⟨by decide +kernel, rfl⟩
theorem zd_L_pass_168 : decode zb_L_pass 168 = .ok (.aload_n 1, 1) ∧ 168 + 1 = 169 := ⟨by decide +kernel, rfl⟩
theorem zd_L_pass_169 : decode zb_L_pass 169 = .ok (.getfield 46, 3) ∧ 169 + 3 = 172 := ⟨by decide +kernel, rfl⟩
theorem zd_L_pass_172 : decode zb_L_pass 172 = .ok (.iload_n 2, 1) ∧ 172 + 1 = 173 := ⟨by decide +kernel, rfl⟩
theorem zd_L_pass_173 : decode zb_L_pass 173 = .ok (.iaload, 1) ∧ 173 + 1 = 174 := ⟨by decide +kernel, rfl⟩
theorem zd_L_pass_174 : decode zb_L_pass 174 = .ok (.iload_n 3, 1) ∧ 174 + 1 = 175 := ⟨by decide +kernel, rfl⟩
theorem zd_L_pass_175 : decode zb_L_pass 175 = .ok (.iload 6, 2) ∧ 175 + 2 = 177 := ⟨by decide +kernel, rfl⟩
theorem zd_L_pass_177 : decode zb_L_pass 177 = .ok (.invokevirtual 55, 3) ∧ 177 + 3 = 180 := ⟨by decide +kernel, rfl⟩
theorem zd_L_pass_180 : decode zb_L_pass 180 = .ok (.goto 112, 3) ∧ ((180 : Nat) : Int) + (112) = ((292 : Nat) : Int) ∧ 180 + 3 = 183 := ⟨by decide +kernel, by decide, rfl⟩
theorem zd_L_pass_183 : decode zb_L_pass 183 = .ok (.aload_n 0, 1) ∧ 183 + 1 = 184 := ⟨by decide +kernel, rfl⟩
theorem zd_L_pass_184 : decode zb_L_pass 184 = .ok (.aload_n 1, 1) ∧ 184 + 1 = 185 := ⟨by decide +kernel, rfl⟩
theorem zd_L_pass_185 : decode zb_L_pass 185 = .ok (.getfield 46, 3) ∧ 185 + 3 = 188 := ⟨by decide +kernel, rfl⟩
theorem zd_L_pass_188 : decode zb_L_pass 188 = .ok (.iload_n 2, 1) ∧ 188 + 1 = 189 := ⟨by decide +kernel, rfl⟩
theorem zd_L_pass_189 : decode zb_L_pass 189 = .ok (.iaload, 1) ∧ 189 + 1 = 190 := ⟨by decide +kernel, rfl⟩
theorem zd_L_pass_190 : decode zb_L_pass 190 = .ok (.iload_n 3, 1) ∧ 190 + 1 = 191 := ⟨by decide +kernel, rfl⟩
theorem zd_L_pass_191 : decode zb_L_pass 191 = .ok (.iload 8, 2) ∧ 191 + 2 = 193 := ⟨by decide +kernel, rfl⟩
theorem zd_L_pass_193 : decode zb_L_pass 193 = .ok (.iand, 1) ∧ 193 + 1 = 194 := ⟨by decide +kernel, rfl⟩
theorem zd_L_pass_194 : decode zb_L_pass 194 = .ok (.iload 6, 2) ∧ 194 + 2 = 196 := ⟨by decide +kernel, rfl⟩
theorem zd_L_pass_196 : decode zb_L_pass 196 = .ok (.invokevirtual 55, 3) ∧ 196 + 3 = 199 := ⟨by decide +kernel, rfl⟩
theorem zd_L_pass_199 : decode zb_L_pass 199 = .ok (.goto 93, 3) ∧ ((199 : Nat) : Int) + (93) = ((292 : Nat) : Int) ∧ 199 + 3 = 202 := ⟨by decide +kernel, by decide, rfl⟩
theorem zd_L_pass_202 : decode zb_L_pass 202 = .ok (.aload_n 0, 1) ∧ 202 + 1 = 203 := ⟨by decide +kernel, rfl⟩
theorem zd_L_pass_203 : decode zb_L_pass 203 = .ok (.aload_n 1, 1) ∧ 203 + 1 = 204 := ⟨by decide +kernel, rfl⟩
theorem zd_L_pass_204 : decode zb_L_pass 204 = .ok (.getfield 46, 3) ∧ 204 + 3 = 207 := ⟨by decide +kernel, rfl⟩
theorem zd_L_pass_207 : decode zb_L_pass 207 = .ok (.iload_n 2, 1) ∧ 207 + 1 = 208 := ⟨by decide +kernel, rfl⟩
theorem zd_L_pass_208 : decode zb_L_pass 208 = .ok (.iaload, 1) ∧ 208 + 1 = 209 := ⟨by decide +kernel, rfl⟩
theorem zd_L_pass_209 : decode zb_L_pass 209 = .ok (.iload_n 3, 1) ∧ 209 + 1 = 210 := ⟨by decide +kernel, rfl⟩
theorem zd_L_pass_210 : decode zb_L_pass 210 = .ok (.iconst 1, 1) ∧ 210 + 1 = 211 := ⟨by decide +kernel, rfl⟩
theorem zd_L_pass_211 : decode zb_L_pass 211 = .ok (.iand, 1) ∧ 211 + 1 = 212 := ⟨by decide +kernel, rfl⟩
theorem zd_L_pass_212 : decode zb_L_pass 212 = .ok (.iload 6, 2) ∧ 212 + 2 = 214 := ⟨by decide +kernel, rfl⟩
theorem zd_L_pass_214 : decode zb_L_pass 214 = .ok (.invokevirtual 55, 3) ∧ 214 + 3 = 217 := ⟨by decide +kernel, rfl⟩
theorem zd_L_pass_217 : decode zb_L_pass 217 = .ok (.aload_n 0, 1) ∧ 217 + 1 = 218 := ⟨by decide +kernel, rfl⟩
theorem zd_L_pass_218 : decode zb_L_pass 218 = .ok (.aload_n 1, 1) ∧ 218 + 1 = 219 := ⟨by decide +kernel, rfl⟩
theorem zd_L_pass_219 : decode zb_L_pass 219 = .ok (.getfield 46, 3) ∧ 219 + 3 = 222 := ⟨by decide +kernel, rfl⟩
theorem zd_L_pass_222 : decode zb_L_pass 222 = .ok (.iload 5, 2) ∧ 222 + 2 = 224 := ⟨by decide +kernel, rfl⟩
theorem zd_L_pass_224 : decode zb_L_pass 224 = .ok (.iload 4, 2) ∧ 224 + 2 = 226 := ⟨by decide +kernel, rfl⟩
theorem zd_L_pass_226 : decode zb_L_pass 226 = .ok (.iconst 1, 1) ∧ 226 + 1 = 227 := ⟨by decide +kernel, rfl⟩
theorem zd_L_pass_227 : decode zb_L_pass 227 = .ok (.iadd, 1) ∧ 227 + 1 = 228 := ⟨by decide +kernel, rfl⟩
theorem zd_L_pass_228 : decode zb_L_pass 228 = .ok (.iconst 4, 1) ∧ 228 + 1 = 229 := ⟨by decide +kernel, rfl⟩
theorem zd_L_pass_229 : decode zb_L_pass 229 = .ok (.irem, 1) ∧ 229 + 1 = 230 := ⟨by decide +kernel, rfl⟩
theorem zd_L_pass_230 : decode zb_L_pass 230 = .ok (.iadd, 1) ∧ 230 + 1 = 231 := ⟨by decide +kernel, rfl⟩
theorem zd_L_pass_231 : decode zb_L_pass 231 = .ok (.iaload, 1) ∧ 231 + 1 = 232 := ⟨by decide +kernel, rfl⟩
theorem zd_L_pass_232 : decode zb_L_pass 232 = .ok (.iload_n 3, 1) ∧ 232 + 1 = 233 := ⟨by decide +kernel, rfl⟩
theorem zd_L_pass_233 : decode zb_L_pass 233 = .ok (.iconst 2, 1) ∧ 233 + 1 = 234 := ⟨by decide +kernel, rfl⟩
theorem zd_L_pass_234 : decode zb_L_pass 234 = .ok (.iand, 1) ∧ 234 + 1 = 235 := ⟨by decide +kernel, rfl⟩
theorem zd_L_pass_235 : decode zb_L_pass 235 = .ok (.iload 6, 2) ∧ 235 + 2 = 237 := ⟨by decide +kernel, rfl⟩
theorem zd_L_pass_237 : decode zb_L_pass 237 = .ok (.invokevirtual 55, 3) ∧ 237 + 3 = 240 := ⟨by decide +kernel, rfl⟩
theorem zd_L_pass_240 : decode zb_L_pass 240 = .ok (.aload_n 0, 1) ∧ 240 + 1 = 241 := ⟨by decide +kernel, rfl⟩
theorem zd_L_pass_241 : decode zb_L_pass 241 = .ok (.aload_n 1, 1) ∧ 241 + 1 = 242 := ⟨by decide +kernel, rfl⟩
theorem zd_L_pass_242 : decode zb_L_pass 242 = .ok (.getfield 46, 3) ∧ 242 + 3 = 245 := ⟨by decide +kernel, rfl⟩
theorem zd_L_pass_245 : decode zb_L_pass 245 = .ok (.iload 5, 2) ∧ 245 + 2 = 247 := ⟨by decide +kernel, rfl⟩
theorem zd_L_pass_247 : decode zb_L_pass 247 = .ok (.iload 4, 2) ∧ 247 + 2 = 249 := ⟨by decide +kernel, rfl⟩
theorem zd_L_pass_249 : decode zb_L_pass 249 = .ok (.iconst 3, 1) ∧ 249 + 1 = 250 := ⟨by decide +kernel, rfl⟩
theorem zd_L_pass_250 : decode zb_L_pass 250 = .ok (.iadd, 1) ∧ 250 + 1 = 251 := ⟨by decide +kernel, rfl⟩
theorem zd_L_pass_251 : decode zb_L_pass 251 = .ok (.iconst 4, 1) ∧ 251 + 1 = 252 := ⟨by decide +kernel, rfl⟩
theorem zd_L_pass_252 : decode zb_L_pass 252 = .ok (.irem, 1) ∧ 252 + 1 = 253 := ⟨by decide +kernel, rfl⟩
theorem zd_L_pass_253 : decode zb_L_pass 253 = .ok (.iadd, 1) ∧ 253 + 1 = 254 := ⟨by decide +kernel, rfl⟩
theorem zd_L_pass_254 : decode zb_L_pass 254 = .ok (.iaload, 1) ∧ 254 + 1 = 255 := ⟨by decide +kernel, rfl⟩
theorem zd_L_pass_255 : decode zb_L_pass 255 = .ok (.iload_n 3, 1) ∧ 255 + 1 = 256 := ⟨by decide +kernel, rfl⟩
theorem zd_L_pass_256 : decode zb_L_pass 256 = .ok (.iconst 4, 1) ∧ 256 + 1 = 257 := ⟨by decide +kernel, rfl⟩
theorem zd_L_pass_257 : decode zb_L_pass 257 = .ok (.iand, 1) ∧ 257 + 1 = 258 := ⟨by decide +kernel, rfl⟩
theorem zd_L_pass_258 : decode zb_L_pass 258 = .ok (.iload 6, 2) ∧ 258 + 2 = 260 := ⟨by decide +kernel, rfl⟩
theorem zd_L_pass_260 : decode zb_L_pass 260 = .ok (.invokevirtual 55, 3) ∧ 260 + 3 = 263 := ⟨by decide +kernel, rfl⟩
theorem zd_L_pass_263 : decode zb_L_pass 263 = .ok (.goto 29, 3) ∧ ((263 : Nat) : Int) + (29) = ((292 : Nat) : Int) ∧ 263 + 3 = 266 := ⟨by decide +kernel, by decide, rfl⟩
theorem zd_L_pass_266 : decode zb_L_pass 266 = .ok (.aload_n 0, 1) ∧ 266 + 1 = 267 := ⟨by decide +kernel, rfl⟩
theorem zd_L_pass_267 : decode zb_L_pass 267 = .ok (.aload_n 1, 1) ∧ 267 + 1 = 268 := ⟨by decide +kernel, rfl⟩
theorem zd_L_pass_268 : decode zb_L_pass 268 = .ok (.getfield 46, 3) ∧ 268 + 3 = 271 := ⟨by decide +kernel, rfl⟩
theorem zd_L_pass_271 : decode zb_L_pass 271 = .ok (.iload_n 2, 1) ∧ 271 + 1 = 272 := ⟨by decide +kernel, rfl⟩
theorem zd_L_pass_272 : decode zb_L_pass 272 = .ok (.iaload, 1) ∧ 272 + 1 = 273 := ⟨by decide +kernel, rfl⟩
theorem zd_L_pass_273 : decode zb_L_pass 273 = .ok (.iload 8, 2) ∧ 273 + 2 = 275 := ⟨by decide +kernel, rfl⟩
theorem zd_L_pass_275 : decode zb_L_pass 275 = .ok (.iconst 1, 1) ∧ 275 + 1 = 276 := ⟨by decide +kernel, rfl⟩
theorem zd_L_pass_276 : decode zb_L_pass 276 = .ok (.if_icmp .ne 7, 3) ∧ ((276 : Nat) : Int) + (7) = ((283 : Nat) : Int) ∧ 276 + 3 = 279 := ⟨by decide +kernel, by decide, rfl⟩
theorem zd_L_pass_279 : decode zb_L_pass 279 = .ok (.iload_n 3, 1) ∧ 279 + 1 = 280 := ⟨by decide +kernel, rfl⟩
theorem zd_L_pass_280 : decode zb_L_pass 280 = .ok (.goto 4, 3) ∧ ((280 : Nat) : Int) + (4) = ((284 : Nat) : Int) ∧ 280 + 3 = 283 := ⟨by decide +kernel, by decide, rfl⟩
theorem zd_L_pass_283 : decode zb_L_pass 283 = .ok (.iconst 0, 1) ∧ 283 + 1 = 284 := ⟨by decide +kernel, rfl⟩
theorem zd_L_pass_284 : decode zb_L_pass 284 = .ok (.iload 6, 2) ∧ 284 + 2 = 286 := ⟨by decide +kernel, rfl⟩
theorem zd_L_pass_286 : decode zb_L_pass 286 = .ok (.invokevirtual 55, 3) ∧ 286 + 3 = 289 := ⟨by decide +kernel, rfl⟩
theorem zd_L_pass_289 : decode zb_L_pass 289 = .ok (.goto 3, 3) ∧ ((289 : Nat) : Int) + (3) = ((292 : Nat) : Int) ∧ 289 + 3 = 292 := ⟨by decide +kernel, by decide, rfl⟩
theorem zd_L_pass_292 : decode zb_L_pass 292 = .ok (.return_, 1) ∧ 292 + 1 = 293 := ⟨by decide +kernel, rfl⟩
theorem zd_L_turnedWay_0 : decode zb_L_turnedWay 0 = .ok (.iload_n 0, 1) ∧ 0 + 1 = 1 := ⟨by decide +kernel, rfl⟩
theorem zd_L_turnedWay_1 : decode zb_L_turnedWay 1 = .ok (.iload_n 1, 1) ∧ 1 + 1 = 2 := ⟨by decide +kernel, rfl⟩
theorem zd_L_turnedWay_2 : decode zb_L_turnedWay 2 = .ok (.ifCond .ne 7, 3) ∧ ((2 : Nat) : Int) + (7) = ((9 : Nat) : Int) ∧ 2 + 3 = 5 := ⟨by decide +kernel, by decide, rfl⟩
theorem zd_L_turnedWay_5 : decode zb_L_turnedWay 5 = .ok (.iconst 1, 1) ∧ 5 + 1 = 6 := ⟨by decide +kernel, rfl⟩
theorem zd_L_turnedWay_6 : decode zb_L_turnedWay 6 = .ok (.goto 4, 3) ∧ ((6 : Nat) : Int) + (4) = ((10 : Nat) : Int) ∧ 6 + 3 = 9 := ⟨by decide +kernel, by decide, rfl⟩
theorem zd_L_turnedWay_9 : decode zb_L_turnedWay 9 = .ok (.iconst 3, 1) ∧ 9 + 1 = 10 := ⟨by decide +kernel, rfl⟩
theorem zd_L_turnedWay_10 : decode zb_L_turnedWay 10 = .ok (.ixor, 1) ∧ 10 + 1 = 11 := ⟨by decide +kernel, rfl⟩
theorem zd_L_turnedWay_11 : decode zb_L_turnedWay 11 = .ok (.ireturn, 1) ∧ 11 + 1 = 12 := ⟨by decide +kernel, rfl⟩
theorem zd_L_send_0 : decode zb_L_send 0 = .ok (.iload_n 1, 1) ∧ 0 + 1 = 1 := ⟨by decide +kernel, rfl⟩
theorem zd_L_send_1 : decode zb_L_send 1 = .ok (.iconst (-1), 1) ∧ 1 + 1 = 2 := ⟨by decide +kernel, rfl⟩
theorem zd_L_send_2 : decode zb_L_send 2 = .ok (.if_icmp .ne 7, 3) ∧ ((2 : Nat) : Int) + (7) = ((9 : Nat) : Int) ∧ 2 + 3 = 5 := ⟨by decide +kernel, by decide, rfl⟩
theorem zd_L_send_5 : decode zb_L_send 5 = .ok (.iconst 0, 1) ∧ 5 + 1 = 6 := ⟨by decide +kernel, rfl⟩
theorem zd_L_send_6 : decode zb_L_send 6 = .ok (.goto 13, 3) ∧ ((6 : Nat) : Int) + (13) = ((19 : Nat) : Int) ∧ 6 + 3 = 9 := ⟨by decide +kernel, by decide, rfl⟩
theorem zd_L_send_9 : decode zb_L_send 9 = .ok (.iload_n 2, 1) ∧ 9 + 1 = 10 := ⟨by decide +kernel, rfl⟩
theorem zd_L_send_10 : decode zb_L_send 10 = .ok (.aload_n 0, 1) ∧ 10 + 1 = 11 := ⟨by decide +kernel, rfl⟩
theorem zd_L_send_11 : decode zb_L_send 11 = .ok (.getfield 9, 3) ∧ 11 + 3 = 14 := ⟨by decide +kernel, rfl⟩
theorem zd_L_send_14 : decode zb_L_send 14 = .ok (.iload_n 1, 1) ∧ 14 + 1 = 15 := ⟨by decide +kernel, rfl⟩
theorem zd_L_send_15 : decode zb_L_send 15 = .ok (.iaload, 1) ∧ 15 + 1 = 16 := ⟨by decide +kernel, rfl⟩
theorem zd_L_send_16 : decode zb_L_send 16 = .ok (.iconst (-1), 1) ∧ 16 + 1 = 17 := ⟨by decide +kernel, rfl⟩
theorem zd_L_send_17 : decode zb_L_send 17 = .ok (.ixor, 1) ∧ 17 + 1 = 18 := ⟨by decide +kernel, rfl⟩
theorem zd_L_send_18 : decode zb_L_send 18 = .ok (.iand, 1) ∧ 18 + 1 = 19 := ⟨by decide +kernel, rfl⟩
theorem zd_L_send_19 : decode zb_L_send 19 = .ok (.istore 4, 2) ∧ 19 + 2 = 21 := ⟨by decide +kernel, rfl⟩
theorem zd_L_send_21 : decode zb_L_send 21 = .ok (.iload 4, 2) ∧ 21 + 2 = 23 := ⟨by decide +kernel, rfl⟩
theorem zd_L_send_23 : decode zb_L_send 23 = .ok (.ifCond .eq 15, 3) ∧ ((23 : Nat) : Int) + (15) = ((38 : Nat) : Int) ∧ 23 + 3 = 26 := ⟨by decide +kernel, by decide, rfl⟩
theorem zd_L_send_26 : decode zb_L_send 26 = .ok (.aload_n 0, 1) ∧ 26 + 1 = 27 := ⟨by decide +kernel, rfl⟩
theorem zd_L_send_27 : decode zb_L_send 27 = .ok (.getfield 76, 3) ∧ 27 + 3 = 30 := ⟨by decide +kernel, rfl⟩
theorem zd_L_send_30 : decode zb_L_send 30 = .ok (.aload_n 0, 1) ∧ 30 + 1 = 31 := ⟨by decide +kernel, rfl⟩
theorem zd_L_send_31 : decode zb_L_send 31 = .ok (.getfield 18, 3) ∧ 31 + 3 = 34 := ⟨by decide +kernel, rfl⟩
theorem zd_L_send_34 : decode zb_L_send 34 = .ok (.arraylength, 1) ∧ 34 + 1 = 35 := ⟨by decide +kernel, rfl⟩
theorem zd_L_send_35 : decode zb_L_send 35 = .ok (.if_icmp .lt 4, 3) ∧ ((35 : Nat) : Int) + (4) = ((39 : Nat) : Int) ∧ 35 + 3 = 38 := ⟨by decide +kernel, by decide, rfl⟩
theorem zd_L_send_38 : decode zb_L_send 38 = .ok (.return_, 1) ∧ 38 + 1 = 39 := ⟨by decide +kernel, rfl⟩
theorem zd_L_send_39 : decode zb_L_send 39 = .ok (.aload_n 0, 1) ∧ 39 + 1 = 40 := ⟨by decide +kernel, rfl⟩
theorem zd_L_send_40 : decode zb_L_send 40 = .ok (.getfield 9, 3) ∧ 40 + 3 = 43 := ⟨by decide +kernel, rfl⟩
theorem zd_L_send_43 : decode zb_L_send 43 = .ok (.iload_n 1, 1) ∧ 43 + 1 = 44 := ⟨by decide +kernel, rfl⟩
theorem zd_L_send_44 : decode zb_L_send 44 = .ok (.iaload, 1) ∧ 44 + 1 = 45 := ⟨by decide +kernel, rfl⟩
theorem zd_L_send_45 : decode zb_L_send 45 = .ok (.ifCond .ne 10, 3) ∧ ((45 : Nat) : Int) + (10) = ((55 : Nat) : Int) ∧ 45 + 3 = 48 := ⟨by decide +kernel, by decide, rfl⟩
theorem zd_L_send_48 : decode zb_L_send 48 = .ok (.aload_n 0, 1) ∧ 48 + 1 = 49 := ⟨by decide +kernel, rfl⟩
theorem zd_L_send_49 : decode zb_L_send 49 = .ok (.getfield 21, 3) ∧ 49 + 3 = 52 := ⟨by decide +kernel, rfl⟩
theorem zd_L_send_52 : decode zb_L_send 52 = .ok (.iload_n 1, 1) ∧ 52 + 1 = 53 := ⟨by decide +kernel, rfl⟩
theorem zd_L_send_53 : decode zb_L_send 53 = .ok (.iload_n 3, 1) ∧ 53 + 1 = 54 := ⟨by decide +kernel, rfl⟩
theorem zd_L_send_54 : decode zb_L_send 54 = .ok (.iastore, 1) ∧ 54 + 1 = 55 := ⟨by decide +kernel, rfl⟩
theorem zd_L_send_55 : decode zb_L_send 55 = .ok (.aload_n 0, 1) ∧ 55 + 1 = 56 := ⟨by decide +kernel, rfl⟩
theorem zd_L_send_56 : decode zb_L_send 56 = .ok (.getfield 9, 3) ∧ 56 + 3 = 59 := ⟨by decide +kernel, rfl⟩
theorem zd_L_send_59 : decode zb_L_send 59 = .ok (.iload_n 1, 1) ∧ 59 + 1 = 60 := ⟨by decide +kernel, rfl⟩
theorem zd_L_send_60 : decode zb_L_send 60 = .ok (.dup2, 1) ∧ 60 + 1 = 61 := ⟨by decide +kernel, rfl⟩
theorem zd_L_send_61 : decode zb_L_send 61 = .ok (.iaload, 1) ∧ 61 + 1 = 62 := ⟨by decide +kernel, rfl⟩
theorem zd_L_send_62 : decode zb_L_send 62 = .ok (.iload 4, 2) ∧ 62 + 2 = 64 := ⟨by decide +kernel, rfl⟩
theorem zd_L_send_64 : decode zb_L_send 64 = .ok (.ior, 1) ∧ 64 + 1 = 65 := ⟨by decide +kernel, rfl⟩
theorem zd_L_send_65 : decode zb_L_send 65 = .ok (.iastore, 1) ∧ 65 + 1 = 66 := ⟨by decide +kernel, rfl⟩
theorem zd_L_send_66 : decode zb_L_send 66 = .ok (.aload_n 0, 1) ∧ 66 + 1 = 67 := ⟨by decide +kernel, rfl⟩
theorem zd_L_send_67 : decode zb_L_send 67 = .ok (.getfield 18, 3) ∧ 67 + 3 = 70 := ⟨by decide +kernel, rfl⟩
theorem zd_L_send_70 : decode zb_L_send 70 = .ok (.aload_n 0, 1) ∧ 70 + 1 = 71 := ⟨by decide +kernel, rfl⟩
theorem zd_L_send_71 : decode zb_L_send 71 = .ok (.getfield 76, 3) ∧ 71 + 3 = 74 := ⟨by decide +kernel, rfl⟩
theorem zd_L_send_74 : decode zb_L_send 74 = .ok (.iload_n 1, 1) ∧ 74 + 1 = 75 := ⟨by decide +kernel, rfl⟩
theorem zd_L_send_75 : decode zb_L_send 75 = .ok (.iconst 3, 1) ∧ 75 + 1 = 76 := ⟨by decide +kernel, rfl⟩
theorem zd_L_send_76 : decode zb_L_send 76 = .ok (.ishl, 1) ∧ 76 + 1 = 77 := ⟨by decide +kernel, rfl⟩
theorem zd_L_send_77 : decode zb_L_send 77 = .ok (.iload 4, 2) ∧ 77 + 2 = 79 := ⟨by decide +kernel, rfl⟩
theorem zd_L_send_79 : decode zb_L_send 79 = .ok (.ior, 1) ∧ 79 + 1 = 80 := ⟨by decide +kernel, rfl⟩
theorem zd_L_send_80 : decode zb_L_send 80 = .ok (.iastore, 1) ∧ 80 + 1 = 81 := ⟨by decide +kernel, rfl⟩
theorem zd_L_send_81 : decode zb_L_send 81 = .ok (.aload_n 0, 1) ∧ 81 + 1 = 82 := ⟨by decide +kernel, rfl⟩
theorem zd_L_send_82 : decode zb_L_send 82 = .ok (.dup, 1) ∧ 82 + 1 = 83 := ⟨by decide +kernel, rfl⟩
theorem zd_L_send_83 : decode zb_L_send 83 = .ok (.getfield 76, 3) ∧ 83 + 3 = 86 := ⟨by decide +kernel, rfl⟩
theorem zd_L_send_86 : decode zb_L_send 86 = .ok (.iconst 1, 1) ∧ 86 + 1 = 87 := ⟨by decide +kernel, rfl⟩
theorem zd_L_send_87 : decode zb_L_send 87 = .ok (.iadd, 1) ∧ 87 + 1 = 88 := ⟨by decide +kernel, rfl⟩
theorem zd_L_send_88 : decode zb_L_send 88 = .ok (.putfield 76, 3) ∧ 88 + 3 = 91 := ⟨by decide +kernel, rfl⟩
theorem zd_L_send_91 : decode zb_L_send 91 = .ok (.return_, 1) ∧ 91 + 1 = 92 := ⟨by decide +kernel, rfl⟩
theorem zd_L_comesInto_0 : decode zb_L_comesInto 0 = .ok (.iload_n 1, 1) ∧ 0 + 1 = 1 := ⟨by decide +kernel, rfl⟩
theorem zd_L_comesInto_1 : decode zb_L_comesInto 1 = .ok (.iconst (-1), 1) ∧ 1 + 1 = 2 := ⟨by decide +kernel, rfl⟩
theorem zd_L_comesInto_2 : decode zb_L_comesInto 2 = .ok (.if_icmp .ne 5, 3) ∧ ((2 : Nat) : Int) + (5) = ((7 : Nat) : Int) ∧ 2 + 3 = 5 := ⟨by decide +kernel, by decide, rfl⟩
theorem zd_L_comesInto_5 : decode zb_L_comesInto 5 = .ok (.iconst 0, 1) ∧ 5 + 1 = 6 := ⟨by decide +kernel, rfl⟩
theorem zd_L_comesInto_6 : decode zb_L_comesInto 6 = .ok (.ireturn, 1) ∧ 6 + 1 = 7 := ⟨by decide +kernel, rfl⟩
theorem zd_L_comesInto_7 : decode zb_L_comesInto 7 = .ok (.iload_n 1, 1) ∧ 7 + 1 = 8 := ⟨by decide +kernel, rfl⟩
theorem zd_L_comesInto_8 : decode zb_L_comesInto 8 = .ok (.iconst 4, 1) ∧ 8 + 1 = 9 := ⟨by decide +kernel, rfl⟩
theorem zd_L_comesInto_9 : decode zb_L_comesInto 9 = .ok (.imul, 1) ∧ 9 + 1 = 10 := ⟨by decide +kernel, rfl⟩
theorem zd_L_comesInto_10 : decode zb_L_comesInto 10 = .ok (.istore_n 2, 1) ∧ 10 + 1 = 11 := ⟨by decide +kernel, rfl⟩
theorem zd_L_comesInto_11 : decode zb_L_comesInto 11 = .ok (.aload_n 0, 1) ∧ 11 + 1 = 12 := ⟨by decide +kernel, rfl⟩
theorem zd_L_comesInto_12 : decode zb_L_comesInto 12 = .ok (.getfield 9, 3) ∧ 12 + 3 = 15 := ⟨by decide +kernel, rfl⟩
theorem zd_L_comesInto_15 : decode zb_L_comesInto 15 = .ok (.iload_n 2, 1) ∧ 15 + 1 = 16 := ⟨by decide +kernel, rfl⟩
theorem zd_L_comesInto_16 : decode zb_L_comesInto 16 = .ok (.iconst 0, 1) ∧ 16 + 1 = 17 := ⟨by decide +kernel, rfl⟩
theorem zd_L_comesInto_17 : decode zb_L_comesInto 17 = .ok (.iadd, 1) ∧ 17 + 1 = 18 := ⟨by decide +kernel, rfl⟩
theorem zd_L_comesInto_18 : decode zb_L_comesInto 18 = .ok (.iaload, 1) ∧ 18 + 1 = 19 := ⟨by decide +kernel, rfl⟩
theorem zd_L_comesInto_19 : decode zb_L_comesInto 19 = .ok (.aload_n 0, 1) ∧ 19 + 1 = 20 := ⟨by decide +kernel, rfl⟩
theorem zd_L_comesInto_20 : decode zb_L_comesInto 20 = .ok (.getfield 9, 3) ∧ 20 + 3 = 23 := ⟨by decide +kernel, rfl⟩
theorem zd_L_comesInto_23 : decode zb_L_comesInto 23 = .ok (.iload_n 2, 1) ∧ 23 + 1 = 24 := ⟨by decide +kernel, rfl⟩
theorem zd_L_comesInto_24 : decode zb_L_comesInto 24 = .ok (.iconst 1, 1) ∧ 24 + 1 = 25 := ⟨by decide +kernel, rfl⟩
theorem zd_L_comesInto_25 : decode zb_L_comesInto 25 = .ok (.iadd, 1) ∧ 25 + 1 = 26 := ⟨by decide +kernel, rfl⟩
theorem zd_L_comesInto_26 : decode zb_L_comesInto 26 = .ok (.iaload, 1) ∧ 26 + 1 = 27 := ⟨by decide +kernel, rfl⟩
theorem zd_L_comesInto_27 : decode zb_L_comesInto 27 = .ok (.ior, 1) ∧ 27 + 1 = 28 := ⟨by decide +kernel, rfl⟩
theorem zd_L_comesInto_28 : decode zb_L_comesInto 28 = .ok (.aload_n 0, 1) ∧ 28 + 1 = 29 := ⟨by decide +kernel, rfl⟩
theorem zd_L_comesInto_29 : decode zb_L_comesInto 29 = .ok (.getfield 9, 3) ∧ 29 + 3 = 32 := ⟨by decide +kernel, rfl⟩
theorem zd_L_comesInto_32 : decode zb_L_comesInto 32 = .ok (.iload_n 2, 1) ∧ 32 + 1 = 33 := ⟨by decide +kernel, rfl⟩
theorem zd_L_comesInto_33 : decode zb_L_comesInto 33 = .ok (.iconst 2, 1) ∧ 33 + 1 = 34 := ⟨by decide +kernel, rfl⟩
theorem zd_L_comesInto_34 : decode zb_L_comesInto 34 = .ok (.iadd, 1) ∧ 34 + 1 = 35 := ⟨by decide +kernel, rfl⟩
theorem zd_L_comesInto_35 : decode zb_L_comesInto 35 = .ok (.iaload, 1) ∧ 35 + 1 = 36 := ⟨by decide +kernel, rfl⟩
theorem zd_L_comesInto_36 : decode zb_L_comesInto 36 = .ok (.ior, 1) ∧ 36 + 1 = 37 := ⟨by decide +kernel, rfl⟩
theorem zd_L_comesInto_37 : decode zb_L_comesInto 37 = .ok (.aload_n 0, 1) ∧ 37 + 1 = 38 := ⟨by decide +kernel, rfl⟩
theorem zd_L_comesInto_38 : decode zb_L_comesInto 38 = .ok (.getfield 9, 3) ∧ 38 + 3 = 41 := ⟨by decide +kernel, rfl⟩
theorem zd_L_comesInto_41 : decode zb_L_comesInto 41 = .ok (.iload_n 2, 1) ∧ 41 + 1 = 42 := ⟨by decide +kernel, rfl⟩
theorem zd_L_comesInto_42 : decode zb_L_comesInto 42 = .ok (.iconst 3, 1) ∧ 42 + 1 = 43 := ⟨by decide +kernel, rfl⟩
theorem zd_L_comesInto_43 : decode zb_L_comesInto 43 = .ok (.iadd, 1) ∧ 43 + 1 = 44 := ⟨by decide +kernel, rfl⟩
theorem zd_L_comesInto_44 : decode zb_L_comesInto 44 = .ok (.iaload, 1) ∧ 44 + 1 = 45 := ⟨by decide +kernel, rfl⟩
theorem zd_L_comesInto_45 : decode zb_L_comesInto 45 = .ok (.ior, 1) ∧ 45 + 1 = 46 := ⟨by decide +kernel, rfl⟩
theorem zd_L_comesInto_46 : decode zb_L_comesInto 46 = .ok (.ireturn, 1) ∧ 46 + 1 = 47 := ⟨by decide +kernel, rfl⟩
theorem zd_L_arrivedNode_0 : decode zb_L_arrivedNode 0 = .ok (.aload_n 0, 1) ∧ 0 + 1 = 1 := ⟨by decide +kernel, rfl⟩
theorem zd_L_arrivedNode_1 : decode zb_L_arrivedNode 1 = .ok (.getfield 18, 3) ∧ 1 + 3 = 4 := ⟨by decide +kernel, rfl⟩
theorem zd_L_arrivedNode_4 : decode zb_L_arrivedNode 4 = .ok (.iload_n 1, 1) ∧ 4 + 1 = 5 := ⟨by decide +kernel, rfl⟩
theorem zd_L_arrivedNode_5 : decode zb_L_arrivedNode 5 = .ok (.iaload, 1) ∧ 5 + 1 = 6 := ⟨by decide +kernel, rfl⟩
theorem zd_L_arrivedNode_6 : decode zb_L_arrivedNode 6 = .ok (.iconst 3, 1) ∧ 6 + 1 = 7 := ⟨by decide +kernel, rfl⟩
theorem zd_L_arrivedNode_7 : decode zb_L_arrivedNode 7 = .ok (.ishr, 1) ∧ 7 + 1 = 8 := ⟨by decide +kernel, rfl⟩
theorem zd_L_arrivedNode_8 : decode zb_L_arrivedNode 8 = .ok (.ireturn, 1) ∧ 8 + 1 = 9 := ⟨by decide +kernel, rfl⟩
theorem zd_R_init_0 : decode zb_R_init 0 = .ok (.aload_n 0, 1) ∧ 0 + 1 = 1 := ⟨by decide +kernel, rfl⟩
theorem zd_R_init_1 : decode zb_R_init 1 = .ok (.invokespecial 3, 3) ∧ 1 + 3 = 4 := ⟨by decide +kernel, rfl⟩
theorem zd_R_init_4 : decode zb_R_init 4 = .ok (.aload_n 0, 1) ∧ 4 + 1 = 5 := ⟨by decide +kernel, rfl⟩
theorem zd_R_init_5 : decode zb_R_init 5 = .ok (.iconst (-1), 1) ∧ 5 + 1 = 6 := ⟨by decide +kernel, rfl⟩
theorem zd_R_init_6 : decode zb_R_init 6 = .ok (.putfield 9, 3) ∧ 6 + 3 = 9 := ⟨by decide +kernel, rfl⟩
theorem zd_R_init_9 : decode zb_R_init 9 = .ok (.aload_n 0, 1) ∧ 9 + 1 = 10 := ⟨by decide +kernel, rfl⟩
theorem zd_R_init_10 : decode zb_R_init 10 = .ok (.new 15, 3) ∧ 10 + 3 = 13 := ⟨by decide +kernel, rfl⟩
theorem zd_R_init_13 : decode zb_R_init 13 = .ok (.dup, 1) ∧ 13 + 1 = 14 := ⟨by decide +kernel, rfl⟩
theorem zd_R_init_14 : decode zb_R_init 14 = .ok (.invokespecial 17, 3) ∧ 14 + 3 = 17 := ⟨by decide +kernel, rfl⟩
theorem zd_R_init_17 : decode zb_R_init 17 = .ok (.putfield 18, 3) ∧ 17 + 3 = 20 := ⟨by decide +kernel, rfl⟩
theorem zd_R_init_20 : decode zb_R_init 20 = .ok (.aload_n 0, 1) ∧ 20 + 1 = 21 := ⟨by decide +kernel, rfl⟩
theorem zd_R_init_21 : decode zb_R_init 21 = .ok (.new 22, 3) ∧ 21 + 3 = 24 := ⟨by decide +kernel, rfl⟩
theorem zd_R_init_24 : decode zb_R_init 24 = .ok (.dup, 1) ∧ 24 + 1 = 25 := ⟨by decide +kernel, rfl⟩
theorem zd_R_init_25 : decode zb_R_init 25 = .ok (.invokespecial 24, 3) ∧ 25 + 3 = 28 := ⟨by decide +kernel, rfl⟩
theorem zd_R_init_28 : decode zb_R_init 28 = .ok (.putfield 25, 3) ∧ 28 + 3 = 31 := ⟨by decide +kernel, rfl⟩
theorem zd_R_init_31 : decode zb_R_init 31 = .ok (.aload_n 0, 1) ∧ 31 + 1 = 32 := ⟨by decide +kernel, rfl⟩
theorem zd_R_init_32 : decode zb_R_init 32 = .ok (.sipush 160, 3) ∧ 32 + 3 = 35 := ⟨by decide +kernel, rfl⟩
theorem zd_R_init_35 : decode zb_R_init 35 = .ok (.newarray .int, 2) ∧ 35 + 2 = 37 := ⟨by decide +kernel, rfl⟩
theorem zd_R_init_37 : decode zb_R_init 37 = .ok (.putfield 29, 3) ∧ 37 + 3 = 40 := ⟨by decide +kernel, rfl⟩
theorem zd_R_init_40 : decode zb_R_init 40 = .ok (.aload_n 0, 1) ∧ 40 + 1 = 41 := ⟨by decide +kernel, rfl⟩
theorem zd_R_init_41 : decode zb_R_init 41 = .ok (.sipush 160, 3) ∧ 41 + 3 = 44 := ⟨by decide +kernel, rfl⟩
theorem zd_R_init_44 : decode zb_R_init 44 = .ok (.newarray .int, 2) ∧ 44 + 2 = 46 := ⟨by decide +kernel, rfl⟩
theorem zd_R_init_46 : decode zb_R_init 46 = .ok (.putfield 33, 3) ∧ 46 + 3 = 49 := ⟨by decide +kernel, rfl⟩
theorem zd_R_init_49 : decode zb_R_init 49 = .ok (.aload_n 0, 1) ∧ 49 + 1 = 50 := ⟨by decide +kernel, rfl⟩
theorem zd_R_init_50 : decode zb_R_init 50 = .ok (.sipush 160, 3) ∧ 50 + 3 = 53 := ⟨by decide +kernel, rfl⟩
theorem zd_R_init_53 : decode zb_R_init 53 = .ok (.newarray .int, 2) ∧ 53 + 2 = 55 := ⟨by decide +kernel, rfl⟩
theorem zd_R_init_55 : decode zb_R_init 55 = .ok (.putfield 36, 3) ∧ 55 + 3 = 58 := ⟨by decide +kernel, rfl⟩
theorem zd_R_init_58 : decode zb_R_init 58 = .ok (.return_, 1) ∧ 58 + 1 = 59 := ⟨by decide +kernel, rfl⟩
theorem zd_R_giveTable_0 : decode zb_R_giveTable 0 = .ok (.aload_n 0, 1) ∧ 0 + 1 = 1 := ⟨by decide +kernel, rfl⟩
theorem zd_R_giveTable_1 : decode zb_R_giveTable 1 = .ok (.getfield 25, 3) ∧ 1 + 3 = 4 := ⟨by decide +kernel, rfl⟩
theorem zd_R_giveTable_4 : decode zb_R_giveTable 4 = .ok (.astore_n 2, 1) ∧ 4 + 1 = 5 := ⟨by decide +kernel, rfl⟩
theorem zd_R_giveTable_5 : decode zb_R_giveTable 5 = .ok (.aload_n 0, 1) ∧ 5 + 1 = 6 := ⟨by decide +kernel, rfl⟩
theorem zd_R_giveTable_6 : decode zb_R_giveTable 6 = .ok (.aload_n 1, 1) ∧ 6 + 1 = 7 := ⟨by decide +kernel, rfl⟩
theorem zd_R_giveTable_7 : decode zb_R_giveTable 7 = .ok (.putfield 25, 3) ∧ 7 + 3 = 10 := ⟨by decide +kernel, rfl⟩
theorem zd_R_giveTable_10 : decode zb_R_giveTable 10 = .ok (.aload_n 2, 1) ∧ 10 + 1 = 11 := ⟨by decide +kernel, rfl⟩
theorem zd_R_giveTable_11 : decode zb_R_giveTable 11 = .ok (.areturn, 1) ∧ 11 + 1 = 12 := ⟨by decide +kernel, rfl⟩
theorem zd_R_read_0 : decode zb_R_read 0 = .ok (.aload_n 0, 1) ∧ 0 + 1 = 1 := ⟨by decide +kernel, rfl⟩
theorem zd_R_read_1 : decode zb_R_read 1 = .ok (.iconst 0, 1) ∧ 1 + 1 = 2 := ⟨by decide +kernel, rfl⟩
theorem zd_R_read_2 : decode zb_R_read 2 = .ok (.putfield 39, 3) ∧ 2 + 3 = 5 := ⟨by decide +kernel, rfl⟩
theorem zd_R_read_5 : decode zb_R_read 5 = .ok (.aload_n 0, 1) ∧ 5 + 1 = 6 := ⟨by decide +kernel, rfl⟩
theorem zd_R_read_6 : decode zb_R_read 6 = .ok (.iconst (-1), 1) ∧ 6 + 1 = 7 := ⟨by decide +kernel, rfl⟩
theorem zd_R_read_7 : decode zb_R_read 7 = .ok (.putfield 9, 3) ∧ 7 + 3 = 10 := ⟨by decide +kernel, rfl⟩
theorem zd_R_read_10 : decode zb_R_read 10 = .ok (.aload_n 0, 1) ∧ 10 + 1 = 11 := ⟨by decide +kernel, rfl⟩
theorem zd_R_read_11 : decode zb_R_read 11 = .ok (.getfield 18, 3) ∧ 11 + 3 = 14 := ⟨by decide +kernel, rfl⟩
theorem zd_R_read_14 : decode zb_R_read 14 = .ok (.aload_n 1, 1) ∧ 14 + 1 = 15 := ⟨by decide +kernel, rfl⟩
theorem zd_R_read_15 : decode zb_R_read 15 = .ok (.iload_n 2, 1) ∧ 15 + 1 = 16 := ⟨by decide +kernel, rfl⟩
theorem zd_R_read_16 : decode zb_R_read 16 = .ok (.invokevirtual 42, 3) ∧ 16 + 3 = 19 := ⟨by decide +kernel, rfl⟩
theorem zd_R_read_19 : decode zb_R_read 19 = .ok (.aload_n 0, 1) ∧ 19 + 1 = 20 := ⟨by decide +kernel, rfl⟩
theorem zd_R_read_20 : decode zb_R_read 20 = .ok (.iconst 0, 1) ∧ 20 + 1 = 21 := ⟨by decide +kernel, rfl⟩
theorem zd_R_read_21 : decode zb_R_read 21 = .ok (.putfield 46, 3) ∧ 21 + 3 = 24 := ⟨by decide +kernel, rfl⟩
theorem zd_R_read_24 : decode zb_R_read 24 = .ok (.aload_n 0, 1) ∧ 24 + 1 = 25 := ⟨by decide +kernel, rfl⟩
theorem zd_R_read_25 : decode zb_R_read 25 = .ok (.iconst 0, 1) ∧ 25 + 1 = 26 := ⟨by decide +kernel, rfl⟩
theorem zd_R_read_26 : decode zb_R_read 26 = .ok (.putfield 49, 3) ∧ 26 + 3 = 29 := ⟨by decide +kernel, rfl⟩
theorem zd_R_read_29 : decode zb_R_read 29 = .ok (.aload_n 0, 1) ∧ 29 + 1 = 30 := ⟨by decide +kernel, rfl⟩
theorem zd_R_read_30 : decode zb_R_read 30 = .ok (.getfield 25, 3) ∧ 30 + 3 = 33 := ⟨by decide +kernel, rfl⟩
theorem zd_R_read_33 : decode zb_R_read 33 = .ok (.invokevirtual 52, 3) ∧ 33 + 3 = 36 := ⟨by decide +kernel, rfl⟩
theorem zd_R_read_36 : decode zb_R_read 36 = .ok (.iconst 0, 1) ∧ 36 + 1 = 37 := ⟨by decide +kernel, rfl⟩
theorem zd_R_read_37 : decode zb_R_read 37 = .ok (.istore_n 3, 1) ∧ 37 + 1 = 38 := ⟨by decide +kernel, rfl⟩
theorem zd_R_read_38 : decode zb_R_read 38 = .ok (.iload_n 3, 1) ∧ 38 + 1 = 39 := ⟨by decide +kernel, rfl⟩
theorem zd_R_read_39 : decode zb_R_read 39 = .ok (.bipush 60, 2) ∧ 39 + 2 = 41 := ⟨by decide +kernel, rfl⟩
theorem zd_R_read_41 : decode zb_R_read 41 = .ok (.if_icmp .gt 79, 3) ∧ ((41 : Nat) : Int) + (79) = ((120 : Nat) : Int) ∧ 41 + 3 = 44 := ⟨by decide +kernel, by decide, rfl⟩
theorem zd_R_read_44 : decode zb_R_read 44 = .ok (.aload_n 0, 1) ∧ 44 + 1 = 45 := ⟨by decide +kernel, rfl⟩
theorem zd_R_read_45 : decode zb_R_read 45 = .ok (.getfield 39, 3) ∧ 45 + 3 = 48 := ⟨by decide +kernel, rfl⟩
theorem zd_R_read_48 : decode zb_R_read 48 = .ok (.ifCond .ne 72, 3) ∧ ((48 : Nat) : Int) + (72) = ((120 : Nat) : Int) ∧ 48 + 3 = 51 := ⟨by decide +kernel, by decide, rfl⟩
theorem zd_R_read_51 : decode zb_R_read 51 = .ok (.aload_n 0, 1) ∧ 51 + 1 = 52 := ⟨by decide +kernel, rfl⟩
theorem zd_R_read_52 : decode zb_R_read 52 = .ok (.getfield 18, 3) ∧ 52 + 3 = 55 := ⟨by decide +kernel, rfl⟩
theorem zd_R_read_55 : decode zb_R_read 55 = .ok (.getfield 55, 3) ∧ 55 + 3 = 58 := ⟨by decide +kernel, rfl⟩
theorem zd_R_read_58 : decode zb_R_read 58 = .ok (.aload_n 0, 1) ∧ 58 + 1 = 59 := ⟨by decide +kernel, rfl⟩
theorem zd_R_read_59 : decode zb_R_read 59 = .ok (.getfield 46, 3) ∧ 59 + 3 = 62 := ⟨by decide +kernel, rfl⟩
theorem zd_R_read_62 : decode zb_R_read 62 = .ok (.iaload, 1) ∧ 62 + 1 = 63 := ⟨by decide +kernel, rfl⟩
theorem zd_R_read_63 : decode zb_R_read 63 = .ok (.iconst 4, 1) ∧ 63 + 1 = 64 := ⟨by decide +kernel, rfl⟩
theorem zd_R_read_64 : decode zb_R_read 64 = .ok (.if_icmp .eq 56, 3) ∧ ((64 : Nat) : Int) + (56) = ((120 : Nat) : Int) ∧ 64 + 3 = 67 := ⟨by decide +kernel, by decide, rfl⟩
theorem zd_R_read_67 : decode zb_R_read 67 = .ok (.iload_n 3, 1) ∧ 67 + 1 = 68 := ⟨by decide +kernel, rfl⟩
theorem zd_R_read_68 : decode zb_R_read 68 = .ok (.ifCond .ne 10, 3) ∧ ((68 : Nat) : Int) + (10) = ((78 : Nat) : Int) ∧ 68 + 3 = 71 := ⟨by decide +kernel, by decide, rfl⟩
theorem zd_R_read_71 : decode zb_R_read 71 = .ok (.aload_n 0, 1) ∧ 71 + 1 = 72 := ⟨by decide +kernel, rfl⟩
theorem zd_R_read_72 : decode zb_R_read 72 = .ok (.invokevirtual 58, 3) ∧ 72 + 3 = 75 := ⟨by decide +kernel, rfl⟩
theorem zd_R_read_75 : decode zb_R_read 75 = .ok (.goto 33, 3) ∧ ((75 : Nat) : Int) + (33) = ((108 : Nat) : Int) ∧ 75 + 3 = 78 := ⟨by decide +kernel, by decide, rfl⟩
theorem zd_R_read_78 : decode zb_R_read 78 = .ok (.iload_n 3, 1) ∧ 78 + 1 = 79 := ⟨by decide +kernel, rfl⟩
theorem zd_R_read_79 : decode zb_R_read 79 = .ok (.bipush 60, 2) ∧ 79 + 2 = 81 := ⟨by decide +kernel, rfl⟩
theorem zd_R_read_81 : decode zb_R_read 81 = .ok (.if_icmp .ne 23, 3) ∧ ((81 : Nat) : Int) + (23) = ((104 : Nat) : Int) ∧ 81 + 3 = 84 := ⟨by decide +kernel, by decide, rfl⟩
theorem zd_R_read_84 : decode zb_R_read 84 = .ok (.aload_n 0, 1) ∧ 84 + 1 = 85 := ⟨by decide +kernel, rfl⟩
theorem zd_R_read_85 : decode zb_R_read 85 = .ok (.iconst 5, 1) ∧ 85 + 1 = 86 := ⟨by decide +kernel, rfl⟩
theorem zd_R_read_86 : decode zb_R_read 86 = .ok (.aload_n 0, 1) ∧ 86 + 1 = 87 := ⟨by decide +kernel, rfl⟩
theorem zd_R_read_87 : decode zb_R_read 87 = .ok (.getfield 18, 3) ∧ 87 + 3 = 90 := ⟨by decide +kernel, rfl⟩
theorem zd_R_read_90 : decode zb_R_read 90 = .ok (.getfield 61, 3) ∧ 90 + 3 = 93 := ⟨by decide +kernel, rfl⟩
theorem zd_R_read_93 : decode zb_R_read 93 = .ok (.aload_n 0, 1) ∧ 93 + 1 = 94 := ⟨by decide +kernel, rfl⟩
theorem zd_R_read_94 : decode zb_R_read 94 = .ok (.getfield 46, 3) ∧ 94 + 3 = 97 := ⟨by decide +kernel, rfl⟩
theorem zd_R_read_97 : decode zb_R_read 97 = .ok (.iaload, 1) ∧ 97 + 1 = 98 := ⟨by decide +kernel, rfl⟩
theorem zd_R_read_98 : decode zb_R_read 98 = .ok (.invokevirtual 64, 3) ∧ 98 + 3 = 101 := ⟨by decide +kernel, rfl⟩
theorem zd_R_read_101 : decode zb_R_read 101 = .ok (.goto 7, 3) ∧ ((101 : Nat) : Int) + (7) = ((108 : Nat) : Int) ∧ 101 + 3 = 104 := ⟨by decide +kernel, by decide, rfl⟩
theorem zd_R_read_104 : decode zb_R_read 104 = .ok (.aload_n 0, 1) ∧ 104 + 1 = 105 := ⟨by decide +kernel, rfl⟩
theorem zd_R_read_105 : decode zb_R_read 105 = .ok (.invokevirtual 68, 3) ∧ 105 + 3 = 108 := ⟨by decide +kernel, rfl⟩
theorem zd_R_read_108 : decode zb_R_read 108 = .ok (.aload_n 0, 1) ∧ 108 + 1 = 109 := ⟨by decide +kernel, rfl⟩
theorem zd_R_read_109 : decode zb_R_read 109 = .ok (.bipush 59, 2) ∧ 109 + 2 = 111 := ⟨by decide +kernel, rfl⟩
theorem zd_R_read_111 : decode zb_R_read 111 = .ok (.invokevirtual 71, 3) ∧ 111 + 3 = 114 := ⟨by decide +kernel, rfl⟩
theorem zd_R_read_114 : decode zb_R_read 114 = .ok (.iinc 3 1, 3) ∧ 114 + 3 = 117 := ⟨by decide +kernel, rfl⟩
theorem zd_R_read_117 : decode zb_R_read 117 = .ok (.goto (-79), 3) ∧ ((117 : Nat) : Int) + (-79) = ((38 : Nat) : Int) ∧ 117 + 3 = 120 := ⟨by decide +kernel, by decide, rfl⟩
theorem zd_R_read_120 : decode zb_R_read 120 = .ok (.iload_n 3, 1) ∧ 120 + 1 = 121 := ⟨by decide +kernel, rfl⟩
theorem zd_R_read_121 : decode zb_R_read 121 = .ok (.ifCond .ne 7, 3) ∧ ((121 : Nat) : Int) + (7) = ((128 : Nat) : Int) ∧ 121 + 3 = 124 := ⟨by decide +kernel, by decide, rfl⟩
theorem zd_R_read_124 : decode zb_R_read 124 = .ok (.aload_n 0, 1) ∧ 124 + 1 = 125 := ⟨by decide +kernel, rfl⟩
theorem zd_R_read_125 : decode zb_R_read 125 = .ok (.invokevirtual 75, 3) ∧ 125 + 3 = 128 := ⟨by decide +kernel, rfl⟩
theorem zd_R_read_128 : decode zb_R_read 128 = .ok (.aload_n 0, 1) ∧ 128 + 1 = 129 := ⟨by decide +kernel, rfl⟩
theorem zd_R_read_129 : decode zb_R_read 129 = .ok (.invokevirtual 78, 3) ∧ 129 + 3 = 132 := ⟨by decide +kernel, rfl⟩
theorem zd_R_read_132 : decode zb_R_read 132 = .ok (.aload_n 0, 1) ∧ 132 + 1 = 133 := ⟨by decide +kernel, rfl⟩
theorem zd_R_read_133 : decode zb_R_read 133 = .ok (.getfield 39, 3) ∧ 133 + 3 = 136 := ⟨by decide +kernel, rfl⟩
theorem zd_R_read_136 : decode zb_R_read 136 = .ok (.ifCond .ne 7, 3) ∧ ((136 : Nat) : Int) + (7) = ((143 : Nat) : Int) ∧ 136 + 3 = 139 := ⟨by decide +kernel, by decide, rfl⟩
theorem zd_R_read_139 : decode zb_R_read 139 = .ok (.iload_n 3, 1) ∧ 139 + 1 = 140 := ⟨by decide +kernel, rfl⟩
theorem zd_R_read_140 : decode zb_R_read 140 = .ok (.goto 4, 3) ∧ ((140 : Nat) : Int) + (4) = ((144 : Nat) : Int) ∧ 140 + 3 = 143 := ⟨by decide +kernel, by decide, rfl⟩
theorem zd_R_read_143 : decode zb_R_read 143 = .ok (.iconst (-1), 1) ∧ 143 + 1 = 144 := ⟨by decide +kernel, rfl⟩
theorem zd_R_read_144 : decode zb_R_read 144 = .ok (.ireturn, 1) ∧ 144 + 1 = 145 := ⟨by decide +kernel, rfl⟩
theorem zd_R_readSize_0 : decode zb_R_readSize 0 = .ok (.aload_n 0, 1) ∧ 0 + 1 = 1 := ⟨by decide +kernel, rfl⟩
theorem zd_R_readSize_1 : decode zb_R_readSize 1 = .ok (.iconst 0, 1) ∧ 1 + 1 = 2 := ⟨by decide +kernel, rfl⟩
theorem zd_R_readSize_2 : decode zb_R_readSize 2 = .ok (.invokevirtual 81, 3) ∧ 2 + 3 = 5 := ⟨by decide +kernel, rfl⟩
theorem zd_R_readSize_5 : decode zb_R_readSize 5 = .ok (.aload_n 0, 1) ∧ 5 + 1 = 6 := ⟨by decide +kernel, rfl⟩
theorem zd_R_readSize_6 : decode zb_R_readSize 6 = .ok (.iconst 2, 1) ∧ 6 + 1 = 7 := ⟨by decide +kernel, rfl⟩
theorem zd_R_readSize_7 : decode zb_R_readSize 7 = .ok (.bipush 12, 2) ∧ 7 + 2 = 9 := ⟨by decide +kernel, rfl⟩
theorem zd_R_readSize_9 : decode zb_R_readSize 9 = .ok (.invokevirtual 84, 3) ∧ 9 + 3 = 12 := ⟨by decide +kernel, rfl⟩
theorem zd_R_readSize_12 : decode zb_R_readSize 12 = .ok (.istore_n 1, 1) ∧ 12 + 1 = 13 := ⟨by decide +kernel, rfl⟩
theorem zd_R_readSize_13 : decode zb_R_readSize 13 = .ok (.aload_n 0, 1) ∧ 13 + 1 = 14 := ⟨by decide +kernel, rfl⟩
theorem zd_R_readSize_14 : decode zb_R_readSize 14 = .ok (.invokevirtual 88, 3) ∧ 14 + 3 = 17 := ⟨by decide +kernel, rfl⟩
theorem zd_R_readSize_17 : decode zb_R_readSize 17 = .ok (.aload_n 0, 1) ∧ 17 + 1 = 18 := ⟨by decide +kernel, rfl⟩
theorem zd_R_readSize_18 : decode zb_R_readSize 18 = .ok (.iconst 2, 1) ∧ 18 + 1 = 19 := ⟨by decide +kernel, rfl⟩
theorem zd_R_readSize_19 : decode zb_R_readSize 19 = .ok (.bipush 12, 2) ∧ 19 + 2 = 21 := ⟨by decide +kernel, rfl⟩
theorem zd_R_readSize_21 : decode zb_R_readSize 21 = .ok (.invokevirtual 84, 3) ∧ 21 + 3 = 24 := ⟨by decide +kernel, rfl⟩
theorem zd_R_readSize_24 : decode zb_R_readSize 24 = .ok (.istore_n 2, 1) ∧ 24 + 1 = 25 := ⟨by decide +kernel, rfl⟩
theorem zd_R_readSize_25 : decode zb_R_readSize 25 = .ok (.aload_n 0, 1) ∧ 25 + 1 = 26 := ⟨by decide +kernel, rfl⟩
theorem zd_R_readSize_26 : decode zb_R_readSize 26 = .ok (.invokevirtual 88, 3) ∧ 26 + 3 = 29 := ⟨by decide +kernel, rfl⟩
theorem zd_R_readSize_29 : decode zb_R_readSize 29 = .ok (.aload_n 0, 1) ∧ 29 + 1 = 30 := ⟨by decide +kernel, rfl⟩
theorem zd_R_readSize_30 : decode zb_R_readSize 30 = .ok (.getfield 39, 3) ∧ 30 + 3 = 33 := ⟨by decide +kernel, rfl⟩
theorem zd_R_readSize_33 : decode zb_R_readSize 33 = .ok (.ifCond .ne 12, 3) ∧ ((33 : Nat) : Int) + (12) = ((45 : Nat) : Int) ∧ 33 + 3 = 36 := ⟨by decide +kernel, by decide, rfl⟩
theorem zd_R_readSize_36 : decode zb_R_readSize 36 = .ok (.aload_n 0, 1) ∧ 36 + 1 = 37 := ⟨by decide +kernel, rfl⟩
theorem zd_R_readSize_37 : decode zb_R_readSize 37 = .ok (.getfield 25, 3) ∧ 37 + 3 = 40 := ⟨by decide +kernel, rfl⟩
theorem zd_R_readSize_40 : decode zb_R_readSize 40 = .ok (.iload_n 1, 1) ∧ 40 + 1 = 41 := ⟨by decide +kernel, rfl⟩
theorem zd_R_readSize_41 : decode zb_R_readSize 41 = .ok (.iload_n 2, 1) ∧ 41 + 1 = 42 := ⟨by decide +kernel, rfl⟩
theorem zd_R_readSize_42 : decode zb_R_readSize 42 = .ok (.invokevirtual 91, 3) ∧ 42 + 3 = 45 := ⟨by decide +kernel, rfl⟩
theorem zd_R_readSize_45 : decode zb_R_readSize 45 = .ok (.return_, 1) ∧ 45 + 1 = 46 := ⟨by decide +kernel, rfl⟩
theorem zd_R_readPiece_0 : decode zb_R_readPiece 0 = .ok (.aload_n 0, 1) ∧ 0 + 1 = 1 := ⟨by decide +kernel, rfl⟩
theorem zd_R_readPiece_1 : decode zb_R_readPiece 1 = .ok (.getfield 18, 3) ∧ 1 + 3 = 4 := ⟨by decide +kernel, rfl⟩
theorem zd_R_readPiece_4 : decode zb_R_readPiece 4 = .ok (.getfield 55, 3) ∧ 4 + 3 = 7 := ⟨by decide +kernel, rfl⟩
theorem zd_R_readPiece_7 : decode zb_R_readPiece 7 = .ok (.aload_n 0, 1) ∧ 7 + 1 = 8 := ⟨by decide +kernel, rfl⟩
theorem zd_R_readPiece_8 : decode zb_R_readPiece 8 = .ok (.getfield 46, 3) ∧ 8 + 3 = 11 := ⟨by decide +kernel, rfl⟩
theorem zd_R_readPiece_11 : decode zb_R_readPiece 11 = .ok (.iaload, 1) ∧ 11 + 1 = 12 := ⟨by decide +kernel, rfl⟩
theorem zd_R_readPiece_12 : decode zb_R_readPiece 12 = .ok (.ifCond .ne 18, 3) ∧ ((12 : Nat) : Int) + (18) = ((30 : Nat) : Int) ∧ 12 + 3 = 15 := ⟨by decide +kernel, by decide, rfl⟩
theorem zd_R_readPiece_15 : decode zb_R_readPiece 15 = .ok (.aload_n 0, 1) ∧ 15 + 1 = 16 := ⟨by decide +kernel, rfl⟩
theorem zd_R_readPiece_16 : decode zb_R_readPiece 16 = .ok (.getfield 18, 3) ∧ 16 + 3 = 19 := ⟨by decide +kernel, rfl⟩
theorem zd_R_readPiece_19 : decode zb_R_readPiece 19 = .ok (.getfield 94, 3) ∧ 19 + 3 = 22 := ⟨by decide +kernel, rfl⟩
theorem zd_R_readPiece_22 : decode zb_R_readPiece 22 = .ok (.aload_n 0, 1) ∧ 22 + 1 = 23 := ⟨by decide +kernel, rfl⟩
theorem zd_R_readPiece_23 : decode zb_R_readPiece 23 = .ok (.getfield 46, 3) ∧ 23 + 3 = 26 := ⟨by decide +kernel, rfl⟩
theorem zd_R_readPiece_26 : decode zb_R_readPiece 26 = .ok (.iaload, 1) ∧ 26 + 1 = 27 := ⟨by decide +kernel, rfl⟩
theorem zd_R_readPiece_27 : decode zb_R_readPiece 27 = .ok (.goto 4, 3) ∧ ((27 : Nat) : Int) + (4) = ((31 : Nat) : Int) ∧ 27 + 3 = 30 := ⟨by decide +kernel, by decide, rfl⟩
theorem zd_R_readPiece_30 : decode zb_R_readPiece 30 = .ok (.iconst (-1), 1) ∧ 30 + 1 = 31 := ⟨by decide +kernel, rfl⟩
theorem zd_R_readPiece_31 : decode zb_R_readPiece 31 = .ok (.istore_n 1, 1) ∧ 31 + 1 = 32 := ⟨by decide +kernel, rfl⟩
theorem zd_R_readPiece_32 : decode zb_R_readPiece 32 = .ok (.iload_n 1, 1) ∧ 32 + 1 = 33 := ⟨by decide +kernel, rfl⟩
theorem zd_R_readPiece_33 : decode zb_R_readPiece 33 = .ok (.iconst 1, 1) ∧ 33 + 1 = 34 := ⟨by decide +kernel, rfl⟩
theorem zd_R_readPiece_34 : decode zb_R_readPiece 34 = .ok (.if_icmp .lt 9, 3) ∧ ((34 : Nat) : Int) + (9) = ((43 : Nat) : Int) ∧ 34 + 3 = 37 := ⟨by decide +kernel, by decide, rfl⟩
theorem zd_R_readPiece_37 : decode zb_R_readPiece 37 = .ok (.iload_n 1, 1) ∧ 37 + 1 = 38 := ⟨by decide +kernel, rfl⟩
theorem zd_R_readPiece_38 : decode zb_R_readPiece 38 = .ok (.bipush 9, 2) ∧ 38 + 2 = 40 := ⟨by decide +kernel, rfl⟩
theorem zd_R_readPiece_40 : decode zb_R_readPiece 40 = .ok (.if_icmp .le 10, 3) ∧ ((40 : Nat) : Int) + (10) = ((50 : Nat) : Int) ∧ 40 + 3 = 43 := ⟨by decide +kernel, by decide, rfl⟩
theorem zd_R_readPiece_43 : decode zb_R_readPiece 43 = .ok (.aload_n 0, 1) ∧ 43 + 1 = 44 := ⟨by decide +kernel, rfl⟩
theorem zd_R_readPiece_44 : decode zb_R_readPiece 44 = .ok (.invokevirtual 75, 3) ∧ 44 + 3 = 47 := ⟨by decide +kernel, rfl⟩
theorem zd_R_readPiece_47 : decode zb_R_readPiece 47 = .ok (.goto 34, 3) ∧ ((47 : Nat) : Int) + (34) = ((81 : Nat) : Int) ∧ 47 + 3 = 50 := ⟨by decide +kernel, by decide, rfl⟩
theorem zd_R_readPiece_50 : decode zb_R_readPiece 50 = .ok (.aload_n 0, 1) ∧ 50 + 1 = 51 := ⟨by decide +kernel, rfl⟩
theorem zd_R_readPiece_51 : decode zb_R_readPiece 51 = .ok (.getfield 25, 3) ∧ 51 + 3 = 54 := ⟨by decide +kernel, rfl⟩
theorem zd_R_readPiece_54 : decode zb_R_readPiece 54 = .ok (.iload_n 1, 1) ∧ 54 + 1 = 55 := ⟨by decide +kernel, rfl⟩
theorem zd_R_readPiece_55 : decode zb_R_readPiece 55 = .ok (.invokestatic 97, 3) ∧ 55 + 3 = 58 := ⟨by decide +kernel, rfl⟩
theorem zd_R_readPiece_58 : decode zb_R_readPiece 58 = .ok (.invokevirtual 101, 3) ∧ 58 + 3 = 61 := ⟨by decide +kernel, rfl⟩
theorem zd_R_readPiece_61 : decode zb_R_readPiece 61 = .ok (.ifCond .eq 20, 3) ∧ ((61 : Nat) : Int) + (20) = ((81 : Nat) : Int) ∧ 61 + 3 = 64 := ⟨by decide +kernel, by decide, rfl⟩
theorem zd_R_readPiece_64 : decode zb_R_readPiece 64 = .ok (.aload_n 0, 1) ∧ 64 + 1 = 65 := ⟨by decide +kernel, rfl⟩
theorem zd_R_readPiece_65 : decode zb_R_readPiece 65 = .ok (.iconst 5, 1) ∧ 65 + 1 = 66 := ⟨by decide +kernel, rfl⟩
theorem zd_R_readPiece_66 : decode zb_R_readPiece 66 = .ok (.aload_n 0, 1) ∧ 66 + 1 = 67 := ⟨by decide +kernel, rfl⟩
theorem zd_R_readPiece_67 : decode zb_R_readPiece 67 = .ok (.getfield 18, 3) ∧ 67 + 3 = 70 := ⟨by decide +kernel, rfl⟩
theorem zd_R_readPiece_70 : decode zb_R_readPiece 70 = .ok (.getfield 61, 3) ∧ 70 + 3 = 73 := ⟨by decide +kernel, rfl⟩
theorem zd_R_readPiece_73 : decode zb_R_readPiece 73 = .ok (.aload_n 0, 1) ∧ 73 + 1 = 74 := ⟨by decide +kernel, rfl⟩
theorem zd_R_readPiece_74 : decode zb_R_readPiece 74 = .ok (.getfield 46, 3) ∧ 74 + 3 = 77 := ⟨by decide +kernel, rfl⟩
theorem zd_R_readPiece_77 : decode zb_R_readPiece 77 = .ok (.iaload, 1) ∧ 77 + 1 = 78 := ⟨by decide +kernel, rfl⟩
theorem zd_R_readPiece_78 : decode zb_R_readPiece 78 = .ok (.invokevirtual 64, 3) ∧ 78 + 3 = 81 := ⟨by decide +kernel, rfl⟩
theorem zd_R_readPiece_81 : decode zb_R_readPiece 81 = .ok (.aload_n 0, 1) ∧ 81 + 1 = 82 := ⟨by decide +kernel, rfl⟩
theorem zd_R_readPiece_82 : decode zb_R_readPiece 82 = .ok (.invokevirtual 88, 3) ∧ 82 + 3 = 85 := ⟨by decide +kernel, rfl⟩
theorem zd_R_readPiece_85 : decode zb_R_readPiece 85 = .ok (.iconst (-1), 1) ∧ 85 + 1 = 86 := ⟨by decide +kernel, rfl⟩
theorem zd_R_readPiece_86 : decode zb_R_readPiece 86 = .ok (.istore_n 2, 1) ∧ 86 + 1 = 87 := ⟨by decide +kernel, rfl⟩
theorem zd_R_readPiece_87 : decode zb_R_readPiece 87 = .ok (.iconst (-1), 1) ∧ 87 + 1 = 88 := ⟨by decide +kernel, rfl⟩
theorem zd_R_readPiece_88 : decode zb_R_readPiece 88 = .ok (.istore_n 3, 1) ∧ 88 + 1 = 89 := ⟨by decide +kernel, rfl⟩
theorem zd_R_readPiece_89 : decode zb_R_readPiece 89 = .ok (.iload_n 1, 1) ∧ 89 + 1 = 90 := ⟨by decide +kernel, rfl⟩
theorem zd_R_readPiece_90 : decode zb_R_readPiece 90 = .ok (.tableswitch 147 1 9 #[50, 89, 89, 74, 147, 147, 101, 108, 124], 50) ∧ 90 + 50 = 140 := ⟨by decide +kernel, rfl⟩
theorem zd_R_readPiece_140 : decode zb_R_readPiece 140 = .ok (.aload_n 0, 1) ∧ 140 + 1 = 141 := ⟨by decide +kernel, rfl⟩
theorem zd_R_readPiece_141 : decode zb_R_readPiece 141 = .ok (.bipush 12, 2) ∧ 141 + 2 = 143 := ⟨by decide +kernel, rfl⟩
theorem zd_R_readPiece_143 : decode zb_R_readPiece 143 = .ok (.bipush 15, 2) ∧ 143 + 2 = 145 := ⟨by decide +kernel, rfl⟩
theorem zd_R_readPiece_145 : decode zb_R_readPiece 145 = .ok (.invokevirtual 105, 3) ∧ 145 + 3 = 148 := ⟨by decide +kernel, rfl⟩
theorem zd_R_readPiece_148 : decode zb_R_readPiece 148 = .ok (.invokestatic 108, 3) ∧ 148 + 3 = 151 := ⟨by decide +kernel, rfl⟩
theorem zd_R_readPiece_151 : decode zb_R_readPiece 151 = .ok (.istore_n 2, 1) ∧ 151 + 1 = 152 := ⟨by decide +kernel, rfl⟩
theorem zd_R_readPiece_152 : decode zb_R_readPiece 152 = .ok (.aload_n 0, 1) ∧ 152 + 1 = 153 := ⟨by decide +kernel, rfl⟩
theorem zd_R_readPiece_153 : decode zb_R_readPiece 153 = .ok (.bipush 16, 2) ∧ 153 + 2 = 155 := ⟨by decide +kernel, rfl⟩
theorem zd_R_readPiece_155 : decode zb_R_readPiece 155 = .ok (.bipush 19, 2) ∧ 155 + 2 = 157 := ⟨by decide +kernel, rfl⟩
theorem zd_R_readPiece_157 : decode zb_R_readPiece 157 = .ok (.invokevirtual 105, 3) ∧ 157 + 3 = 160 := ⟨by decide +kernel, rfl⟩
theorem zd_R_readPiece_160 : decode zb_R_readPiece 160 = .ok (.istore_n 3, 1) ∧ 160 + 1 = 161 := ⟨by decide +kernel, rfl⟩
theorem zd_R_readPiece_161 : decode zb_R_readPiece 161 = .ok (.goto 76, 3) ∧ ((161 : Nat) : Int) + (76) = ((237 : Nat) : Int) ∧ 161 + 3 = 164 := ⟨by decide +kernel, by decide, rfl⟩
theorem zd_R_readPiece_164 : decode zb_R_readPiece 164 = .ok (.aload_n 0, 1) ∧ 164 + 1 = 165 := ⟨by decide +kernel, rfl⟩
theorem zd_R_readPiece_165 : decode zb_R_readPiece 165 = .ok (.bipush 12, 2) ∧ 165 + 2 = 167 := ⟨by decide +kernel, rfl⟩
theorem zd_R_readPiece_167 : decode zb_R_readPiece 167 = .ok (.bipush 15, 2) ∧ 167 + 2 = 169 := ⟨by decide +kernel, rfl⟩
theorem zd_R_readPiece_169 : decode zb_R_readPiece 169 = .ok (.invokevirtual 105, 3) ∧ 169 + 3 = 172 := ⟨by decide +kernel, rfl⟩
theorem zd_R_readPiece_172 : decode zb_R_readPiece 172 = .ok (.invokestatic 108, 3) ∧ 172 + 3 = 175 := ⟨by decide +kernel, rfl⟩
theorem zd_R_readPiece_175 : decode zb_R_readPiece 175 = .ok (.istore_n 2, 1) ∧ 175 + 1 = 176 := ⟨by decide +kernel, rfl⟩
theorem zd_R_readPiece_176 : decode zb_R_readPiece 176 = .ok (.goto 61, 3) ∧ ((176 : Nat) : Int) + (61) = ((237 : Nat) : Int) ∧ 176 + 3 = 179 := ⟨by decide +kernel, by decide, rfl⟩
theorem zd_R_readPiece_179 : decode zb_R_readPiece 179 = .ok (.aload_n 0, 1) ∧ 179 + 1 = 180 := ⟨by decide +kernel, rfl⟩
theorem zd_R_readPiece_180 : decode zb_R_readPiece 180 = .ok (.bipush 20, 2) ∧ 180 + 2 = 182 := ⟨by decide +kernel, rfl⟩
theorem zd_R_readPiece_182 : decode zb_R_readPiece 182 = .ok (.bipush 21, 2) ∧ 182 + 2 = 184 := ⟨by decide +kernel, rfl⟩
theorem zd_R_readPiece_184 : decode zb_R_readPiece 184 = .ok (.invokevirtual 105, 3) ∧ 184 + 3 = 187 := ⟨by decide +kernel, rfl⟩
theorem zd_R_readPiece_187 : decode zb_R_readPiece 187 = .ok (.istore_n 2, 1) ∧ 187 + 1 = 188 := ⟨by decide +kernel, rfl⟩
theorem zd_R_readPiece_188 : decode zb_R_readPiece 188 = .ok (.goto 49, 3) ∧ ((188 : Nat) : Int) + (49) = ((237 : Nat) : Int) ∧ 188 + 3 = 191 := ⟨by decide +kernel, by decide, rfl⟩
theorem zd_R_readPiece_191 : decode zb_R_readPiece 191 = .ok (.aload_n 0, 1) ∧ 191 + 1 = 192 := ⟨by decide +kernel, rfl⟩
theorem zd_R_readPiece_192 : decode zb_R_readPiece 192 = .ok (.invokevirtual 111, 3) ∧ 192 + 3 = 195 := ⟨by decide +kernel, rfl⟩
theorem zd_R_readPiece_195 : decode zb_R_readPiece 195 = .ok (.goto 42, 3) ∧ ((195 : Nat) : Int) + (42) = ((237 : Nat) : Int) ∧ 195 + 3 = 198 := ⟨by decide +kernel, by decide, rfl⟩
theorem zd_R_readPiece_198 : decode zb_R_readPiece 198 = .ok (.iconst 0, 1) ∧ 198 + 1 = 199 := ⟨by decide +kernel, rfl⟩
theorem zd_R_readPiece_199 : decode zb_R_readPiece 199 = .ok (.istore_n 2, 1) ∧ 199 + 1 = 200 := ⟨by decide +kernel, rfl⟩
theorem zd_R_readPiece_200 : decode zb_R_readPiece 200 = .ok (.aload_n 0, 1) ∧ 200 + 1 = 201 := ⟨by decide +kernel, rfl⟩
theorem zd_R_readPiece_201 : decode zb_R_readPiece 201 = .ok (.bipush 11, 2) ∧ 201 + 2 = 203 := ⟨by decide +kernel, rfl⟩
theorem zd_R_readPiece_203 : decode zb_R_readPiece 203 = .ok (.invokevirtual 81, 3) ∧ 203 + 3 = 206 := ⟨by decide +kernel, rfl⟩
theorem zd_R_readPiece_206 : decode zb_R_readPiece 206 = .ok (.aload_n 0, 1) ∧ 206 + 1 = 207 := ⟨by decide +kernel, rfl⟩
theorem zd_R_readPiece_207 : decode zb_R_readPiece 207 = .ok (.iconst 0, 1) ∧ 207 + 1 = 208 := ⟨by decide +kernel, rfl⟩
theorem zd_R_readPiece_208 : decode zb_R_readPiece 208 = .ok (.invokevirtual 114, 3) ∧ 208 + 3 = 211 := ⟨by decide +kernel, rfl⟩
theorem zd_R_readPiece_211 : decode zb_R_readPiece 211 = .ok (.goto 26, 3) ∧ ((211 : Nat) : Int) + (26) = ((237 : Nat) : Int) ∧ 211 + 3 = 214 := ⟨by decide +kernel, by decide, rfl⟩
theorem zd_R_readPiece_214 : decode zb_R_readPiece 214 = .ok (.aload_n 0, 1) ∧ 214 + 1 = 215 := ⟨by decide +kernel, rfl⟩
theorem zd_R_readPiece_215 : decode zb_R_readPiece 215 = .ok (.bipush 20, 2) ∧ 215 + 2 = 217 := ⟨by decide +kernel, rfl⟩
theorem zd_R_readPiece_217 : decode zb_R_readPiece 217 = .ok (.bipush 21, 2) ∧ 217 + 2 = 219 := ⟨by decide +kernel, rfl⟩
theorem zd_R_readPiece_219 : decode zb_R_readPiece 219 = .ok (.invokevirtual 105, 3) ∧ 219 + 3 = 222 := ⟨by decide +kernel, rfl⟩
theorem zd_R_readPiece_222 : decode zb_R_readPiece 222 = .ok (.istore_n 2, 1) ∧ 222 + 1 = 223 := ⟨by decide +kernel, rfl⟩
theorem zd_R_readPiece_223 : decode zb_R_readPiece 223 = .ok (.aload_n 0, 1) ∧ 223 + 1 = 224 := ⟨by decide +kernel, rfl⟩
theorem zd_R_readPiece_224 : decode zb_R_readPiece 224 = .ok (.bipush 11, 2) ∧ 224 + 2 = 226 := ⟨by decide +kernel, rfl⟩
theorem zd_R_readPiece_226 : decode zb_R_readPiece 226 = .ok (.invokevirtual 81, 3) ∧ 226 + 3 = 229 := ⟨by decide +kernel, rfl⟩
theorem zd_R_readPiece_229 : decode zb_R_readPiece 229 = .ok (.aload_n 0, 1) ∧ 229 + 1 = 230 := ⟨by decide +kernel, rfl⟩
theorem zd_R_readPiece_230 : decode zb_R_readPiece 230 = .ok (.iconst 0, 1) ∧ 230 + 1 = 231 := ⟨by decide +kernel, rfl⟩
theorem zd_R_readPiece_231 : decode zb_R_readPiece 231 = .ok (.invokevirtual 114, 3) ∧ 231 + 3 = 234 := ⟨by decide +kernel, rfl⟩
theorem zd_R_readPiece_234 : decode zb_R_readPiece 234 = .ok (.goto 3, 3) ∧ ((234 : Nat) : Int) + (3) = ((237 : Nat) : Int) ∧ 234 + 3 = 237 := ⟨by decide +kernel, by decide, rfl⟩
theorem zd_R_readPiece_237 : decode zb_R_readPiece 237 = .ok (.aload_n 0, 1) ∧ 237 + 1 = 238 := ⟨by decide +kernel, rfl⟩
theorem zd_R_readPiece_238 : decode zb_R_readPiece 238 = .ok (.invokevirtual 117, 3) ∧ 238 + 3 = 241 := ⟨by decide +kernel, rfl⟩
theorem zd_R_readPiece_241 : decode zb_R_readPiece 241 = .ok (.istore 4, 2) ∧ 241 + 2 = 243 := ⟨by decide +kernel, rfl⟩
theorem zd_R_readPiece_243 : decode zb_R_readPiece 243 = .ok (.aload_n 0, 1) ∧ 243 + 1 = 244 := ⟨by decide +kernel, rfl⟩
theorem zd_R_readPiece_244 : decode zb_R_readPiece 244 = .ok (.getfield 39, 3) ∧ 244 + 3 = 247 := ⟨by decide +kernel, rfl⟩
theorem zd_R_readPiece_247 : decode zb_R_readPiece 247 = .ok (.ifCond .ne 15, 3) ∧ ((247 : Nat) : Int) + (15) = ((262 : Nat) : Int) ∧ 247 + 3 = 250 := ⟨by decide +kernel, by decide, rfl⟩
theorem zd_R_readPiece_250 : decode zb_R_readPiece 250 = .ok (.aload_n 0, 1) ∧ 250 + 1 = 251 := ⟨by decide +kernel, rfl⟩
theorem zd_R_readPiece_251 : decode zb_R_readPiece 251 = .ok (.getfield 25, 3) ∧ 251 + 3 = 254 := ⟨by decide +kernel, rfl⟩
theorem zd_R_readPiece_254 : decode zb_R_readPiece 254 = .ok (.iload_n 1, 1) ∧ 254 + 1 = 255 := ⟨by decide +kernel, rfl⟩
theorem zd_R_readPiece_255 : decode zb_R_readPiece 255 = .ok (.iload_n 2, 1) ∧ 255 + 1 = 256 := ⟨by decide +kernel, rfl⟩
theorem zd_R_readPiece_256 : decode zb_R_readPiece 256 = .ok (.iload_n 3, 1) ∧ 256 + 1 = 257 := ⟨by decide +kernel, rfl⟩
theorem zd_R_readPiece_257 : decode zb_R_readPiece 257 = .ok (.iload 4, 2) ∧ 257 + 2 = 259 := ⟨by decide +kernel, rfl⟩
theorem zd_R_readPiece_259 : decode zb_R_readPiece 259 = .ok (.invokevirtual 121, 3) ∧ 259 + 3 = 262 := ⟨by decide +kernel, rfl⟩
theorem zd_R_readPiece_262 : decode zb_R_readPiece 262 = .ok (.return_, 1) ∧ 262 + 1 = 263 := ⟨by decide +kernel, rfl⟩
theorem zd_R_readNewName_0 : decode zb_R_readNewName 0 = .ok (.aload_n 0, 1) ∧ 0 + 1 = 1 := ⟨by decide +kernel, rfl⟩
theorem zd_R_readNewName_1 : decode zb_R_readNewName 1 = .ok (.getfield 18, 3) ∧ 1 + 3 = 4 := ⟨by decide +kernel, rfl⟩
theorem zd_R_readNewName_4 : decode zb_R_readNewName 4 = .ok (.getfield 94, 3) ∧ 4 + 3 = 7 := ⟨by decide +kernel, rfl⟩
theorem zd_R_readNewName_7 : decode zb_R_readNewName 7 = .ok (.aload_n 0, 1) ∧ 7 + 1 = 8 := ⟨by decide +kernel, rfl⟩
theorem zd_R_readNewName_8 : decode zb_R_readNewName 8 = .ok (.getfield 46, 3) ∧ 8 + 3 = 11 := ⟨by decide +kernel, rfl⟩
theorem zd_R_readNewName_11 : decode zb_R_readNewName 11 = .ok (.iaload, 1) ∧ 11 + 1 = 12 := ⟨by decide +kernel, rfl⟩
theorem zd_R_readNewName_12 : decode zb_R_readNewName 12 = .ok (.istore_n 1, 1) ∧ 12 + 1 = 13 := ⟨by decide +kernel, rfl⟩
theorem zd_R_readNewName_13 : decode zb_R_readNewName 13 = .ok (.aload_n 0, 1) ∧ 13 + 1 = 14 := ⟨by decide +kernel, rfl⟩
theorem zd_R_readNewName_14 : decode zb_R_readNewName 14 = .ok (.getfield 18, 3) ∧ 14 + 3 = 17 := ⟨by decide +kernel, rfl⟩
theorem zd_R_readNewName_17 : decode zb_R_readNewName 17 = .ok (.getfield 55, 3) ∧ 17 + 3 = 20 := ⟨by decide +kernel, rfl⟩
theorem zd_R_readNewName_20 : decode zb_R_readNewName 20 = .ok (.aload_n 0, 1) ∧ 20 + 1 = 21 := ⟨by decide +kernel, rfl⟩
theorem zd_R_readNewName_21 : decode zb_R_readNewName 21 = .ok (.getfield 46, 3) ∧ 21 + 3 = 24 := ⟨by decide +kernel, rfl⟩
theorem zd_R_readNewName_24 : decode zb_R_readNewName 24 = .ok (.iaload, 1) ∧ 24 + 1 = 25 := ⟨by decide +kernel, rfl⟩
theorem zd_R_readNewName_25 : decode zb_R_readNewName 25 = .ok (.iconst 1, 1) ∧ 25 + 1 = 26 := ⟨by decide +kernel, rfl⟩
theorem zd_R_readNewName_26 : decode zb_R_readNewName 26 = .ok (.if_icmp .eq 10, 3) ∧ ((26 : Nat) : Int) + (10) = ((36 : Nat) : Int) ∧ 26 + 3 = 29 := ⟨by decide +kernel, by decide, rfl⟩
theorem zd_R_readNewName_29 : decode zb_R_readNewName 29 = .ok (.aload_n 0, 1) ∧ 29 + 1 = 30 := ⟨by decide +kernel, rfl⟩
theorem zd_R_readNewName_30 : decode zb_R_readNewName 30 = .ok (.invokevirtual 75, 3) ∧ 30 + 3 = 33 := ⟨by decide +kernel, rfl⟩
theorem zd_R_readNewName_33 : decode zb_R_readNewName 33 = .ok (.goto 32, 3) ∧ ((33 : Nat) : Int) + (32) = ((65 : Nat) : Int) ∧ 33 + 3 = 36 := ⟨by decide +kernel, by decide, rfl⟩
theorem zd_R_readNewName_36 : decode zb_R_readNewName 36 = .ok (.aload_n 0, 1) ∧ 36 + 1 = 37 := ⟨by decide +kernel, rfl⟩
theorem zd_R_readNewName_37 : decode zb_R_readNewName 37 = .ok (.getfield 25, 3) ∧ 37 + 3 = 40 := ⟨by decide +kernel, rfl⟩
theorem zd_R_readNewName_40 : decode zb_R_readNewName 40 = .ok (.iload_n 1, 1) ∧ 40 + 1 = 41 := ⟨by decide +kernel, rfl⟩
theorem zd_R_readNewName_41 : decode zb_R_readNewName 41 = .ok (.invokevirtual 125, 3) ∧ 41 + 3 = 44 := ⟨by decide +kernel, rfl⟩
theorem zd_R_readNewName_44 : decode zb_R_readNewName 44 = .ok (.iconst (-1), 1) ∧ 44 + 1 = 45 := ⟨by decide +kernel, rfl⟩
theorem zd_R_readNewName_45 : decode zb_R_readNewName 45 = .ok (.if_icmp .eq 20, 3) ∧ ((45 : Nat) : Int) + (20) = ((65 : Nat) : Int) ∧ 45 + 3 = 48 := ⟨by decide +kernel, by decide, rfl⟩
theorem zd_R_readNewName_48 : decode zb_R_readNewName 48 = .ok (.aload_n 0, 1) ∧ 48 + 1 = 49 := ⟨by decide +kernel, rfl⟩
theorem zd_R_readNewName_49 : decode zb_R_readNewName 49 = .ok (.iconst 3, 1) ∧ 49 + 1 = 50 := ⟨by decide +kernel, rfl⟩
theorem zd_R_readNewName_50 : decode zb_R_readNewName 50 = .ok (.aload_n 0, 1) ∧ 50 + 1 = 51 := ⟨by decide +kernel, rfl⟩
theorem zd_R_readNewName_51 : decode zb_R_readNewName 51 = .ok (.getfield 18, 3) ∧ 51 + 3 = 54 := ⟨by decide +kernel, rfl⟩
theorem zd_R_readNewName_54 : decode zb_R_readNewName 54 = .ok (.getfield 61, 3) ∧ 54 + 3 = 57 := ⟨by decide +kernel, rfl⟩
theorem zd_R_readNewName_57 : decode zb_R_readNewName 57 = .ok (.aload_n 0, 1) ∧ 57 + 1 = 58 := ⟨by decide +kernel, rfl⟩
theorem zd_R_readNewName_58 : decode zb_R_readNewName 58 = .ok (.getfield 46, 3) ∧ 58 + 3 = 61 := ⟨by decide +kernel, rfl⟩
theorem zd_R_readNewName_61 : decode zb_R_readNewName 61 = .ok (.iaload, 1) ∧ 61 + 1 = 62 := ⟨by decide +kernel, rfl⟩
theorem zd_R_readNewName_62 : decode zb_R_readNewName 62 = .ok (.invokevirtual 64, 3) ∧ 62 + 3 = 65 := ⟨by decide +kernel, rfl⟩
theorem zd_R_readNewName_65 : decode zb_R_readNewName 65 = .ok (.aload_n 0, 1) ∧ 65 + 1 = 66 := ⟨by decide +kernel, rfl⟩
theorem zd_R_readNewName_66 : decode zb_R_readNewName 66 = .ok (.getfield 39, 3) ∧ 66 + 3 = 69 := ⟨by decide +kernel, rfl⟩
theorem zd_R_readNewName_69 : decode zb_R_readNewName 69 = .ok (.ifCond .ne 35, 3) ∧ ((69 : Nat) : Int) + (35) = ((104 : Nat) : Int) ∧ 69 + 3 = 72 := ⟨by decide +kernel, by decide, rfl⟩
theorem zd_R_readNewName_72 : decode zb_R_readNewName 72 = .ok (.aload_n 0, 1) ∧ 72 + 1 = 73 := ⟨by decide +kernel, rfl⟩
theorem zd_R_readNewName_73 : decode zb_R_readNewName 73 = .ok (.getfield 25, 3) ∧ 73 + 3 = 76 := ⟨by decide +kernel, rfl⟩
theorem zd_R_readNewName_76 : decode zb_R_readNewName 76 = .ok (.getfield 128, 3) ∧ 76 + 3 = 79 := ⟨by decide +kernel, rfl⟩
theorem zd_R_readNewName_79 : decode zb_R_readNewName 79 = .ok (.iconst 3, 1) ∧ 79 + 1 = 80 := ⟨by decide +kernel, rfl⟩
theorem zd_R_readNewName_80 : decode zb_R_readNewName 80 = .ok (.iaload, 1) ∧ 80 + 1 = 81 := ⟨by decide +kernel, rfl⟩
theorem zd_R_readNewName_81 : decode zb_R_readNewName 81 = .ok (.bipush 8, 2) ∧ 81 + 2 = 83 := ⟨by decide +kernel, rfl⟩
theorem zd_R_readNewName_83 : decode zb_R_readNewName 83 = .ok (.if_icmp .ge 21, 3) ∧ ((83 : Nat) : Int) + (21) = ((104 : Nat) : Int) ∧ 83 + 3 = 86 := ⟨by decide +kernel, by decide, rfl⟩
theorem zd_R_readNewName_86 : decode zb_R_readNewName 86 = .ok (.aload_n 0, 1) ∧ 86 + 1 = 87 := ⟨by decide +kernel, rfl⟩
theorem zd_R_readNewName_87 : decode zb_R_readNewName 87 = .ok (.getfield 25, 3) ∧ 87 + 3 = 90 := ⟨by decide +kernel, rfl⟩
theorem zd_R_readNewName_90 : decode zb_R_readNewName 90 = .ok (.getfield 131, 3) ∧ 90 + 3 = 93 := ⟨by decide +kernel, rfl⟩
theorem zd_R_readNewName_93 : decode zb_R_readNewName 93 = .ok (.aload_n 0, 1) ∧ 93 + 1 = 94 := ⟨by decide +kernel, rfl⟩
theorem zd_R_readNewName_94 : decode zb_R_readNewName 94 = .ok (.getfield 25, 3) ∧ 94 + 3 = 97 := ⟨by decide +kernel, rfl⟩
theorem zd_R_readNewName_97 : decode zb_R_readNewName 97 = .ok (.getfield 128, 3) ∧ 97 + 3 = 100 := ⟨by decide +kernel, rfl⟩
theorem zd_R_readNewName_100 : decode zb_R_readNewName 100 = .ok (.iconst 3, 1) ∧ 100 + 1 = 101 := ⟨by decide +kernel, rfl⟩
theorem zd_R_readNewName_101 : decode zb_R_readNewName 101 = .ok (.iaload, 1) ∧ 101 + 1 = 102 := ⟨by decide +kernel, rfl⟩
theorem zd_R_readNewName_102 : decode zb_R_readNewName 102 = .ok (.iload_n 1, 1) ∧ 102 + 1 = 103 := ⟨by decide +kernel, rfl⟩
theorem zd_R_readNewName_103 : decode zb_R_readNewName 103 = .ok (.iastore, 1) ∧ 103 + 1 = 104 := ⟨by decide +kernel, rfl⟩
theorem zd_R_readNewName_104 : decode zb_R_readNewName 104 = .ok (.aload_n 0, 1) ∧ 104 + 1 = 105 := ⟨by decide +kernel, rfl⟩
theorem zd_R_readNewName_105 : decode zb_R_readNewName 105 = .ok (.invokevirtual 88, 3) ∧ 105 + 3 = 108 := ⟨by decide +kernel, rfl⟩
theorem zd_R_readNewName_108 : decode zb_R_readNewName 108 = .ok (.return_, 1) ∧ 108 + 1 = 109 := ⟨by decide +kernel, rfl⟩
theorem zd_R_readSquare_0 : decode zb_R_readSquare 0 = .ok (.aload_n 0, 1) ∧ 0 + 1 = 1 := ⟨by decide +kernel, rfl⟩
theorem zd_R_readSquare_1 : decode zb_R_readSquare 1 = .ok (.bipush 10, 2) ∧ 1 + 2 = 3 := ⟨by decide +kernel, rfl⟩
theorem zd_R_readSquare_3 : decode zb_R_readSquare 3 = .ok (.invokevirtual 81, 3) ∧ 3 + 3 = 6 := ⟨by decide +kernel, rfl⟩
theorem zd_R_readSquare_6 : decode zb_R_readSquare 6 = .ok (.aload_n 0, 1) ∧ 6 + 1 = 7 := ⟨by decide +kernel, rfl⟩
theorem zd_R_readSquare_7 : decode zb_R_readSquare 7 = .ok (.getfield 18, 3) ∧ 7 + 3 = 10 := ⟨by decide +kernel, rfl⟩
theorem zd_R_readSquare_10 : decode zb_R_readSquare 10 = .ok (.getfield 61, 3) ∧ 10 + 3 = 13 := ⟨by decide +kernel, rfl⟩
theorem zd_R_readSquare_13 : decode zb_R_readSquare 13 = .ok (.aload_n 0, 1) ∧ 13 + 1 = 14 := ⟨by decide +kernel, rfl⟩
theorem zd_R_readSquare_14 : decode zb_R_readSquare 14 = .ok (.getfield 46, 3) ∧ 14 + 3 = 17 := ⟨by decide +kernel, rfl⟩
theorem zd_R_readSquare_17 : decode zb_R_readSquare 17 = .ok (.iaload, 1) ∧ 17 + 1 = 18 := ⟨by decide +kernel, rfl⟩
theorem zd_R_readSquare_18 : decode zb_R_readSquare 18 = .ok (.istore_n 1, 1) ∧ 18 + 1 = 19 := ⟨by decide +kernel, rfl⟩
theorem zd_R_readSquare_19 : decode zb_R_readSquare 19 = .ok (.aload_n 0, 1) ∧ 19 + 1 = 20 := ⟨by decide +kernel, rfl⟩
theorem zd_R_readSquare_20 : decode zb_R_readSquare 20 = .ok (.iconst 0, 1) ∧ 20 + 1 = 21 := ⟨by decide +kernel, rfl⟩
theorem zd_R_readSquare_21 : decode zb_R_readSquare 21 = .ok (.aload_n 0, 1) ∧ 21 + 1 = 22 := ⟨by decide +kernel, rfl⟩
theorem zd_R_readSquare_22 : decode zb_R_readSquare 22 = .ok (.getfield 25, 3) ∧ 22 + 3 = 25 := ⟨by decide +kernel, rfl⟩
theorem zd_R_readSquare_25 : decode zb_R_readSquare 25 = .ok (.getfield 134, 3) ∧ 25 + 3 = 28 := ⟨by decide +kernel, rfl⟩
theorem zd_R_readSquare_28 : decode zb_R_readSquare 28 = .ok (.iconst 1, 1) ∧ 28 + 1 = 29 := ⟨by decide +kernel, rfl⟩
theorem zd_R_readSquare_29 : decode zb_R_readSquare 29 = .ok (.isub, 1) ∧ 29 + 1 = 30 := ⟨by decide +kernel, rfl⟩
theorem zd_R_readSquare_30 : decode zb_R_readSquare 30 = .ok (.invokevirtual 84, 3) ∧ 30 + 3 = 33 := ⟨by decide +kernel, rfl⟩
theorem zd_R_readSquare_33 : decode zb_R_readSquare 33 = .ok (.istore_n 2, 1) ∧ 33 + 1 = 34 := ⟨by decide +kernel, rfl⟩
theorem zd_R_readSquare_34 : decode zb_R_readSquare 34 = .ok (.aload_n 0, 1) ∧ 34 + 1 = 35 := ⟨by decide +kernel, rfl⟩
theorem zd_R_readSquare_35 : decode zb_R_readSquare 35 = .ok (.invokevirtual 88, 3) ∧ 35 + 3 = 38 := ⟨by decide +kernel, rfl⟩
theorem zd_R_readSquare_38 : decode zb_R_readSquare 38 = .ok (.aload_n 0, 1) ∧ 38 + 1 = 39 := ⟨by decide +kernel, rfl⟩
theorem zd_R_readSquare_39 : decode zb_R_readSquare 39 = .ok (.iconst 0, 1) ∧ 39 + 1 = 40 := ⟨by decide +kernel, rfl⟩
theorem zd_R_readSquare_40 : decode zb_R_readSquare 40 = .ok (.aload_n 0, 1) ∧ 40 + 1 = 41 := ⟨by decide +kernel, rfl⟩
theorem zd_R_readSquare_41 : decode zb_R_readSquare 41 = .ok (.getfield 25, 3) ∧ 41 + 3 = 44 := ⟨by decide +kernel, rfl⟩
theorem zd_R_readSquare_44 : decode zb_R_readSquare 44 = .ok (.getfield 137, 3) ∧ 44 + 3 = 47 := ⟨by decide +kernel, rfl⟩
theorem zd_R_readSquare_47 : decode zb_R_readSquare 47 = .ok (.iconst 1, 1) ∧ 47 + 1 = 48 := ⟨by decide +kernel, rfl⟩
theorem zd_R_readSquare_48 : decode zb_R_readSquare 48 = .ok (.isub, 1) ∧ 48 + 1 = 49 := ⟨by decide +kernel, rfl⟩
theorem zd_R_readSquare_49 : decode zb_R_readSquare 49 = .ok (.invokevirtual 84, 3) ∧ 49 + 3 = 52 := ⟨by decide +kernel, rfl⟩
theorem zd_R_readSquare_52 : decode zb_R_readSquare 52 = .ok (.istore_n 3, 1) ∧ 52 + 1 = 53 := ⟨by decide +kernel, rfl⟩
theorem zd_R_readSquare_53 : decode zb_R_readSquare 53 = .ok (.aload_n 0, 1) ∧ 53 + 1 = 54 := ⟨by decide +kernel, rfl⟩
theorem zd_R_readSquare_54 : decode zb_R_readSquare 54 = .ok (.getfield 39, 3) ∧ 54 + 3 = 57 := ⟨by decide +kernel, rfl⟩
theorem zd_R_readSquare_57 : decode zb_R_readSquare 57 = .ok (.ifCond .ne 15, 3) ∧ ((57 : Nat) : Int) + (15) = ((72 : Nat) : Int) ∧ 57 + 3 = 60 := ⟨by decide +kernel, by decide, rfl⟩
theorem zd_R_readSquare_60 : decode zb_R_readSquare 60 = .ok (.aload_n 0, 1) ∧ 60 + 1 = 61 := ⟨by decide +kernel, rfl⟩
theorem zd_R_readSquare_61 : decode zb_R_readSquare 61 = .ok (.getfield 25, 3) ∧ 61 + 3 = 64 := ⟨by decide +kernel, rfl⟩
theorem zd_R_readSquare_64 : decode zb_R_readSquare 64 = .ok (.iload_n 2, 1) ∧ 64 + 1 = 65 := ⟨by decide +kernel, rfl⟩
theorem zd_R_readSquare_65 : decode zb_R_readSquare 65 = .ok (.iload_n 3, 1) ∧ 65 + 1 = 66 := ⟨by decide +kernel, rfl⟩
theorem zd_R_readSquare_66 : decode zb_R_readSquare 66 = .ok (.invokevirtual 140, 3) ∧ 66 + 3 = 69 := ⟨by decide +kernel, rfl⟩
theorem zd_R_readSquare_69 : decode zb_R_readSquare 69 = .ok (.goto 4, 3) ∧ ((69 : Nat) : Int) + (4) = ((73 : Nat) : Int) ∧ 69 + 3 = 72 := ⟨by decide +kernel, by decide, rfl⟩
theorem zd_R_readSquare_72 : decode zb_R_readSquare 72 = .ok (.iconst (-1), 1) ∧ 72 + 1 = 73 := ⟨by decide +kernel, rfl⟩
theorem zd_R_readSquare_73 : decode zb_R_readSquare 73 = .ok (.istore 4, 2) ∧ 73 + 2 = 75 := ⟨by decide +kernel, rfl⟩
theorem zd_R_readSquare_75 : decode zb_R_readSquare 75 = .ok (.iload 4, 2) ∧ 75 + 2 = 77 := ⟨by decide +kernel, rfl⟩
theorem zd_R_readSquare_77 : decode zb_R_readSquare 77 = .ok (.iconst (-1), 1) ∧ 77 + 1 = 78 := ⟨by decide +kernel, rfl⟩
theorem zd_R_readSquare_78 : decode zb_R_readSquare 78 = .ok (.if_icmp .eq 23, 3) ∧ ((78 : Nat) : Int) + (23) = ((101 : Nat) : Int) ∧ 78 + 3 = 81 := ⟨by decide +kernel, by decide, rfl⟩
theorem zd_R_readSquare_81 : decode zb_R_readSquare 81 = .ok (.aload_n 0, 1) ∧ 81 + 1 = 82 := ⟨by decide +kernel, rfl⟩
theorem zd_R_readSquare_82 : decode zb_R_readSquare 82 = .ok (.getfield 25, 3) ∧ 82 + 3 = 85 := ⟨by decide +kernel, rfl⟩
theorem zd_R_readSquare_85 : decode zb_R_readSquare 85 = .ok (.getfield 143, 3) ∧ 85 + 3 = 88 := ⟨by decide +kernel, rfl⟩
theorem zd_R_readSquare_88 : decode zb_R_readSquare 88 = .ok (.iload 4, 2) ∧ 88 + 2 = 90 := ⟨by decide +kernel, rfl⟩
theorem zd_R_readSquare_90 : decode zb_R_readSquare 90 = .ok (.iaload, 1) ∧ 90 + 1 = 91 := ⟨by decide +kernel, rfl⟩
theorem zd_R_readSquare_91 : decode zb_R_readSquare 91 = .ok (.iconst (-1), 1) ∧ 91 + 1 = 92 := ⟨by decide +kernel, rfl⟩
theorem zd_R_readSquare_92 : decode zb_R_readSquare 92 = .ok (.if_icmp .eq 9, 3) ∧ ((92 : Nat) : Int) + (9) = ((101 : Nat) : Int) ∧ 92 + 3 = 95 := ⟨by decide +kernel, by decide, rfl⟩
theorem zd_R_readSquare_95 : decode zb_R_readSquare 95 = .ok (.aload_n 0, 1) ∧ 95 + 1 = 96 := ⟨by decide +kernel, rfl⟩
theorem zd_R_readSquare_96 : decode zb_R_readSquare 96 = .ok (.iconst 3, 1) ∧ 96 + 1 = 97 := ⟨by decide +kernel, rfl⟩
theorem zd_R_readSquare_97 : decode zb_R_readSquare 97 = .ok (.iload_n 1, 1) ∧ 97 + 1 = 98 := ⟨by decide +kernel, rfl⟩
theorem zd_R_readSquare_98 : decode zb_R_readSquare 98 = .ok (.invokevirtual 64, 3) ∧ 98 + 3 = 101 := ⟨by decide +kernel, rfl⟩
theorem zd_R_readSquare_101 : decode zb_R_readSquare 101 = .ok (.aload_n 0, 1) ∧ 101 + 1 = 102 := ⟨by decide +kernel, rfl⟩
theorem zd_R_readSquare_102 : decode zb_R_readSquare 102 = .ok (.invokevirtual 88, 3) ∧ 102 + 3 = 105 := ⟨by decide +kernel, rfl⟩
theorem zd_R_readSquare_105 : decode zb_R_readSquare 105 = .ok (.iload 4, 2) ∧ 105 + 2 = 107 := ⟨by decide +kernel, rfl⟩
theorem zd_R_readSquare_107 : decode zb_R_readSquare 107 = .ok (.ireturn, 1) ∧ 107 + 1 = 108 := ⟨by decide +kernel, rfl⟩
theorem zd_R_readTest_0 : decode zb_R_readTest 0 = .ok (.iconst 1, 1) ∧ 0 + 1 = 1 := ⟨by decide +kernel, rfl⟩
theorem zd_R_readTest_1 : decode zb_R_readTest 1 = .ok (.istore_n 2, 1) ∧ 1 + 1 = 2 := ⟨by decide +kernel, rfl⟩
theorem zd_R_readTest_2 : decode zb_R_readTest 2 = .ok (.iconst 0, 1) ∧ 2 + 1 = 3 := ⟨by decide +kernel, rfl⟩
theorem zd_R_readTest_3 : decode zb_R_readTest 3 = .ok (.istore_n 3, 1) ∧ 3 + 1 = 4 := ⟨by decide +kernel, rfl⟩
theorem zd_R_readTest_4 : decode zb_R_readTest 4 = .ok (.iload_n 3, 1) ∧ 4 + 1 = 5 := ⟨by decide +kernel, rfl⟩
theorem zd_R_readTest_5 : decode zb_R_readTest 5 = .ok (.sipush 1600, 3) ∧ 5 + 3 = 8 := ⟨by decide +kernel, rfl⟩
theorem zd_R_readTest_8 : decode zb_R_readTest 8 = .ok (.if_icmp .ge 102, 3) ∧ ((8 : Nat) : Int) + (102) = ((110 : Nat) : Int) ∧ 8 + 3 = 11 := ⟨by decide +kernel, by decide, rfl⟩
theorem zd_R_readTest_11 : decode zb_R_readTest 11 = .ok (.iload_n 2, 1) ∧ 11 + 1 = 12 := ⟨by decide +kernel, rfl⟩
theorem zd_R_readTest_12 : decode zb_R_readTest 12 = .ok (.ifCond .eq 98, 3) ∧ ((12 : Nat) : Int) + (98) = ((110 : Nat) : Int) ∧ 12 + 3 = 15 := ⟨by decide +kernel, by decide, rfl⟩
theorem zd_R_readTest_15 : decode zb_R_readTest 15 = .ok (.iconst 1, 1) ∧ 15 + 1 = 16 := ⟨by decide +kernel, rfl⟩
theorem zd_R_readTest_16 : decode zb_R_readTest 16 = .ok (.istore 4, 2) ∧ 16 + 2 = 18 := ⟨by decide +kernel, rfl⟩
theorem zd_R_readTest_18 : decode zb_R_readTest 18 = .ok (.iconst 0, 1) ∧ 18 + 1 = 19 := ⟨by decide +kernel, rfl⟩
theorem zd_R_readTest_19 : decode zb_R_readTest 19 = .ok (.istore 5, 2) ∧ 19 + 2 = 21 := ⟨by decide +kernel, rfl⟩
theorem zd_R_readTest_21 : decode zb_R_readTest 21 = .ok (.iload 5, 2) ∧ 21 + 2 = 23 := ⟨by decide +kernel, rfl⟩
theorem zd_R_readTest_23 : decode zb_R_readTest 23 = .ok (.sipush 1600, 3) ∧ 23 + 3 = 26 := ⟨by decide +kernel, rfl⟩
theorem zd_R_readTest_26 : decode zb_R_readTest 26 = .ok (.if_icmp .ge 50, 3) ∧ ((26 : Nat) : Int) + (50) = ((76 : Nat) : Int) ∧ 26 + 3 = 29 := ⟨by decide +kernel, by decide, rfl⟩
theorem zd_R_readTest_29 : decode zb_R_readTest 29 = .ok (.iload 4, 2) ∧ 29 + 2 = 31 := ⟨by decide +kernel, rfl⟩
theorem zd_R_readTest_31 : decode zb_R_readTest 31 = .ok (.ifCond .eq 45, 3) ∧ ((31 : Nat) : Int) + (45) = ((76 : Nat) : Int) ∧ 31 + 3 = 34 := ⟨by decide +kernel, by decide, rfl⟩
theorem zd_R_readTest_34 : decode zb_R_readTest 34 = .ok (.aload_n 0, 1) ∧ 34 + 1 = 35 := ⟨by decide +kernel, rfl⟩
theorem zd_R_readTest_35 : decode zb_R_readTest 35 = .ok (.iload_n 1, 1) ∧ 35 + 1 = 36 := ⟨by decide +kernel, rfl⟩
theorem zd_R_readTest_36 : decode zb_R_readTest 36 = .ok (.invokevirtual 146, 3) ∧ 36 + 3 = 39 := ⟨by decide +kernel, rfl⟩
theorem zd_R_readTest_39 : decode zb_R_readTest 39 = .ok (.iload 5, 2) ∧ 39 + 2 = 41 := ⟨by decide +kernel, rfl⟩
theorem zd_R_readTest_41 : decode zb_R_readTest 41 = .ok (.ifCond .le 12, 3) ∧ ((41 : Nat) : Int) + (12) = ((53 : Nat) : Int) ∧ 41 + 3 = 44 := ⟨by decide +kernel, by decide, rfl⟩
theorem zd_R_readTest_44 : decode zb_R_readTest 44 = .ok (.aload_n 0, 1) ∧ 44 + 1 = 45 := ⟨by decide +kernel, rfl⟩
theorem zd_R_readTest_45 : decode zb_R_readTest 45 = .ok (.getfield 25, 3) ∧ 45 + 3 = 48 := ⟨by decide +kernel, rfl⟩
theorem zd_R_readTest_48 : decode zb_R_readTest 48 = .ok (.bipush 23, 2) ∧ 48 + 2 = 50 := ⟨by decide +kernel, rfl⟩
theorem zd_R_readTest_50 : decode zb_R_readTest 50 = .ok (.invokevirtual 149, 3) ∧ 50 + 3 = 53 := ⟨by decide +kernel, rfl⟩
theorem zd_R_readTest_53 : decode zb_R_readTest 53 = .ok (.aload_n 0, 1) ∧ 53 + 1 = 54 := ⟨by decide +kernel, rfl⟩
theorem zd_R_readTest_54 : decode zb_R_readTest 54 = .ok (.bipush 23, 2) ∧ 54 + 2 = 56 := ⟨by decide +kernel, rfl⟩
theorem zd_R_readTest_56 : decode zb_R_readTest 56 = .ok (.invokevirtual 152, 3) ∧ 56 + 3 = 59 := ⟨by decide +kernel, rfl⟩
theorem zd_R_readTest_59 : decode zb_R_readTest 59 = .ok (.istore 4, 2) ∧ 59 + 2 = 61 := ⟨by decide +kernel, rfl⟩
theorem zd_R_readTest_61 : decode zb_R_readTest 61 = .ok (.iload 4, 2) ∧ 61 + 2 = 63 := ⟨by decide +kernel, rfl⟩
theorem zd_R_readTest_63 : decode zb_R_readTest 63 = .ok (.ifCond .eq 7, 3) ∧ ((63 : Nat) : Int) + (7) = ((70 : Nat) : Int) ∧ 63 + 3 = 66 := ⟨by decide +kernel, by decide, rfl⟩
theorem zd_R_readTest_66 : decode zb_R_readTest 66 = .ok (.aload_n 0, 1) ∧ 66 + 1 = 67 := ⟨by decide +kernel, rfl⟩
theorem zd_R_readTest_67 : decode zb_R_readTest 67 = .ok (.invokevirtual 88, 3) ∧ 67 + 3 = 70 := ⟨by decide +kernel, rfl⟩
theorem zd_R_readTest_70 : decode zb_R_readTest 70 = .ok (.iinc 5 1, 3) ∧ 70 + 3 = 73 := ⟨by decide +kernel, rfl⟩
theorem zd_R_readTest_73 : decode zb_R_readTest 73 = .ok (.goto (-52), 3) ∧ ((73 : Nat) : Int) + (-52) = ((21 : Nat) : Int) ∧ 73 + 3 = 76 := ⟨by decide +kernel, by decide, rfl⟩
theorem zd_R_readTest_76 : decode zb_R_readTest 76 = .ok (.iload_n 3, 1) ∧ 76 + 1 = 77 := ⟨by decide +kernel, rfl⟩
theorem zd_R_readTest_77 : decode zb_R_readTest 77 = .ok (.ifCond .le 12, 3) ∧ ((77 : Nat) : Int) + (12) = ((89 : Nat) : Int) ∧ 77 + 3 = 80 := ⟨by decide +kernel, by decide, rfl⟩
theorem zd_R_readTest_80 : decode zb_R_readTest 80 = .ok (.aload_n 0, 1) ∧ 80 + 1 = 81 := ⟨by decide +kernel, rfl⟩
theorem zd_R_readTest_81 : decode zb_R_readTest 81 = .ok (.getfield 25, 3) ∧ 81 + 3 = 84 := ⟨by decide +kernel, rfl⟩
theorem zd_R_readTest_84 : decode zb_R_readTest 84 = .ok (.bipush 22, 2) ∧ 84 + 2 = 86 := ⟨by decide +kernel, rfl⟩
theorem zd_R_readTest_86 : decode zb_R_readTest 86 = .ok (.invokevirtual 149, 3) ∧ 86 + 3 = 89 := ⟨by decide +kernel, rfl⟩
theorem zd_R_readTest_89 : decode zb_R_readTest 89 = .ok (.aload_n 0, 1) ∧ 89 + 1 = 90 := ⟨by decide +kernel, rfl⟩
theorem zd_R_readTest_90 : decode zb_R_readTest 90 = .ok (.bipush 22, 2) ∧ 90 + 2 = 92 := ⟨by decide +kernel, rfl⟩
theorem zd_R_readTest_92 : decode zb_R_readTest 92 = .ok (.invokevirtual 152, 3) ∧ 92 + 3 = 95 := ⟨by decide +kernel, rfl⟩
theorem zd_R_readTest_95 : decode zb_R_readTest 95 = .ok (.istore_n 2, 1) ∧ 95 + 1 = 96 := ⟨by decide +kernel, rfl⟩
theorem zd_R_readTest_96 : decode zb_R_readTest 96 = .ok (.iload_n 2, 1) ∧ 96 + 1 = 97 := ⟨by decide +kernel, rfl⟩
theorem zd_R_readTest_97 : decode zb_R_readTest 97 = .ok (.ifCond .eq 7, 3) ∧ ((97 : Nat) : Int) + (7) = ((104 : Nat) : Int) ∧ 97 + 3 = 100 := ⟨by decide +kernel, by decide, rfl⟩
theorem zd_R_readTest_100 : decode zb_R_readTest 100 = .ok (.aload_n 0, 1) ∧ 100 + 1 = 101 := ⟨by decide +kernel, rfl⟩
theorem zd_R_readTest_101 : decode zb_R_readTest 101 = .ok (.invokevirtual 88, 3) ∧ 101 + 3 = 104 := ⟨by decide +kernel, rfl⟩
theorem zd_R_readTest_104 : decode zb_R_readTest 104 = .ok (.iinc 3 1, 3) ∧ 104 + 3 = 107 := ⟨by decide +kernel, rfl⟩
theorem zd_R_readTest_107 : decode zb_R_readTest 107 = .ok (.goto (-103), 3) ∧ ((107 : Nat) : Int) + (-103) = ((4 : Nat) : Int) ∧ 107 + 3 = 110 := ⟨by decide +kernel, by decide, rfl⟩
theorem zd_R_readTest_110 : decode zb_R_readTest 110 = .ok (.return_, 1) ∧ 110 + 1 = 111 := ⟨by decide +kernel, rfl⟩
theorem zd_R_readFact_0 : decode zb_R_readFact 0 = .ok (.aload_n 0, 1) ∧ 0 + 1 = 1 := ⟨by decide +kernel, rfl⟩
theorem zd_R_readFact_1 : decode zb_R_readFact 1 = .ok (.bipush 24, 2) ∧ 1 + 2 = 3 := ⟨by decide +kernel, rfl⟩
theorem zd_R_readFact_3 : decode zb_R_readFact 3 = .ok (.invokevirtual 152, 3) ∧ 3 + 3 = 6 := ⟨by decide +kernel, rfl⟩
theorem zd_R_readFact_6 : decode zb_R_readFact 6 = .ok (.istore_n 2, 1) ∧ 6 + 1 = 7 := ⟨by decide +kernel, rfl⟩
theorem zd_R_readFact_7 : decode zb_R_readFact 7 = .ok (.iload_n 2, 1) ∧ 7 + 1 = 8 := ⟨by decide +kernel, rfl⟩
theorem zd_R_readFact_8 : decode zb_R_readFact 8 = .ok (.ifCond .ne 12, 3) ∧ ((8 : Nat) : Int) + (12) = ((20 : Nat) : Int) ∧ 8 + 3 = 11 := ⟨by decide +kernel, by decide, rfl⟩
theorem zd_R_readFact_11 : decode zb_R_readFact 11 = .ok (.aload_n 0, 1) ∧ 11 + 1 = 12 := ⟨by decide +kernel, rfl⟩
theorem zd_R_readFact_12 : decode zb_R_readFact 12 = .ok (.bipush 91, 2) ∧ 12 + 2 = 14 := ⟨by decide +kernel, rfl⟩
theorem zd_R_readFact_14 : decode zb_R_readFact 14 = .ok (.invokevirtual 155, 3) ∧ 14 + 3 = 17 := ⟨by decide +kernel, rfl⟩
theorem zd_R_readFact_17 : decode zb_R_readFact 17 = .ok (.ifCond .eq 70, 3) ∧ ((17 : Nat) : Int) + (70) = ((87 : Nat) : Int) ∧ 17 + 3 = 20 := ⟨by decide +kernel, by decide, rfl⟩
theorem zd_R_readFact_20 : decode zb_R_readFact 20 = .ok (.iload_n 1, 1) ∧ 20 + 1 = 21 := ⟨by decide +kernel, rfl⟩
theorem zd_R_readFact_21 : decode zb_R_readFact 21 = .ok (.bipush 6, 2) ∧ 21 + 2 = 23 := ⟨by decide +kernel, rfl⟩
theorem zd_R_readFact_23 : decode zb_R_readFact 23 = .ok (.if_icmp .lt 21, 3) ∧ ((23 : Nat) : Int) + (21) = ((44 : Nat) : Int) ∧ 23 + 3 = 26 := ⟨by decide +kernel, by decide, rfl⟩
theorem zd_R_readFact_26 : decode zb_R_readFact 26 = .ok (.aload_n 0, 1) ∧ 26 + 1 = 27 := ⟨by decide +kernel, rfl⟩
theorem zd_R_readFact_27 : decode zb_R_readFact 27 = .ok (.iconst 4, 1) ∧ 27 + 1 = 28 := ⟨by decide +kernel, rfl⟩
theorem zd_R_readFact_28 : decode zb_R_readFact 28 = .ok (.aload_n 0, 1) ∧ 28 + 1 = 29 := ⟨by decide +kernel, rfl⟩
theorem zd_R_readFact_29 : decode zb_R_readFact 29 = .ok (.getfield 18, 3) ∧ 29 + 3 = 32 := ⟨by decide +kernel, rfl⟩
theorem zd_R_readFact_32 : decode zb_R_readFact 32 = .ok (.getfield 61, 3) ∧ 32 + 3 = 35 := ⟨by decide +kernel, rfl⟩
theorem zd_R_readFact_35 : decode zb_R_readFact 35 = .ok (.aload_n 0, 1) ∧ 35 + 1 = 36 := ⟨by decide +kernel, rfl⟩
theorem zd_R_readFact_36 : decode zb_R_readFact 36 = .ok (.getfield 46, 3) ∧ 36 + 3 = 39 := ⟨by decide +kernel, rfl⟩
theorem zd_R_readFact_39 : decode zb_R_readFact 39 = .ok (.iaload, 1) ∧ 39 + 1 = 40 := ⟨by decide +kernel, rfl⟩
theorem zd_R_readFact_40 : decode zb_R_readFact 40 = .ok (.invokevirtual 64, 3) ∧ 40 + 3 = 43 := ⟨by decide +kernel, rfl⟩
theorem zd_R_readFact_43 : decode zb_R_readFact 43 = .ok (.return_, 1) ∧ 43 + 1 = 44 := ⟨by decide +kernel, rfl⟩
theorem zd_R_readFact_44 : decode zb_R_readFact 44 = .ok (.aload_n 0, 1) ∧ 44 + 1 = 45 := ⟨by decide +kernel, rfl⟩
theorem zd_R_readFact_45 : decode zb_R_readFact 45 = .ok (.invokevirtual 88, 3) ∧ 45 + 3 = 48 := ⟨by decide +kernel, rfl⟩
theorem zd_R_readFact_48 : decode zb_R_readFact 48 = .ok (.iload_n 2, 1) ∧ 48 + 1 = 49 := ⟨by decide +kernel, rfl⟩
theorem zd_R_readFact_49 : decode zb_R_readFact 49 = .ok (.ifCond .eq 22, 3) ∧ ((49 : Nat) : Int) + (22) = ((71 : Nat) : Int) ∧ 49 + 3 = 52 := ⟨by decide +kernel, by decide, rfl⟩
theorem zd_R_readFact_52 : decode zb_R_readFact 52 = .ok (.aload_n 0, 1) ∧ 52 + 1 = 53 := ⟨by decide +kernel, rfl⟩
theorem zd_R_readFact_53 : decode zb_R_readFact 53 = .ok (.iload_n 1, 1) ∧ 53 + 1 = 54 := ⟨by decide +kernel, rfl⟩
theorem zd_R_readFact_54 : decode zb_R_readFact 54 = .ok (.iconst 1, 1) ∧ 54 + 1 = 55 := ⟨by decide +kernel, rfl⟩
theorem zd_R_readFact_55 : decode zb_R_readFact 55 = .ok (.iadd, 1) ∧ 55 + 1 = 56 := ⟨by decide +kernel, rfl⟩
theorem zd_R_readFact_56 : decode zb_R_readFact 56 = .ok (.invokevirtual 146, 3) ∧ 56 + 3 = 59 := ⟨by decide +kernel, rfl⟩
theorem zd_R_readFact_59 : decode zb_R_readFact 59 = .ok (.aload_n 0, 1) ∧ 59 + 1 = 60 := ⟨by decide +kernel, rfl⟩
theorem zd_R_readFact_60 : decode zb_R_readFact 60 = .ok (.getfield 25, 3) ∧ 60 + 3 = 63 := ⟨by decide +kernel, rfl⟩
theorem zd_R_readFact_63 : decode zb_R_readFact 63 = .ok (.bipush 24, 2) ∧ 63 + 2 = 65 := ⟨by decide +kernel, rfl⟩
theorem zd_R_readFact_65 : decode zb_R_readFact 65 = .ok (.invokevirtual 149, 3) ∧ 65 + 3 = 68 := ⟨by decide +kernel, rfl⟩
theorem zd_R_readFact_68 : decode zb_R_readFact 68 = .ok (.goto 50, 3) ∧ ((68 : Nat) : Int) + (50) = ((118 : Nat) : Int) ∧ 68 + 3 = 71 := ⟨by decide +kernel, by decide, rfl⟩
theorem zd_R_readFact_71 : decode zb_R_readFact 71 = .ok (.aload_n 0, 1) ∧ 71 + 1 = 72 := ⟨by decide +kernel, rfl⟩
theorem zd_R_readFact_72 : decode zb_R_readFact 72 = .ok (.iload_n 1, 1) ∧ 72 + 1 = 73 := ⟨by decide +kernel, rfl⟩
theorem zd_R_readFact_73 : decode zb_R_readFact 73 = .ok (.iconst 1, 1) ∧ 73 + 1 = 74 := ⟨by decide +kernel, rfl⟩
theorem zd_R_readFact_74 : decode zb_R_readFact 74 = .ok (.iadd, 1) ∧ 74 + 1 = 75 := ⟨by decide +kernel, rfl⟩
theorem zd_R_readFact_75 : decode zb_R_readFact 75 = .ok (.invokevirtual 114, 3) ∧ 75 + 3 = 78 := ⟨by decide +kernel, rfl⟩
theorem zd_R_readFact_78 : decode zb_R_readFact 78 = .ok (.aload_n 0, 1) ∧ 78 + 1 = 79 := ⟨by decide +kernel, rfl⟩
theorem zd_R_readFact_79 : decode zb_R_readFact 79 = .ok (.bipush 93, 2) ∧ 79 + 2 = 81 := ⟨by decide +kernel, rfl⟩
theorem zd_R_readFact_81 : decode zb_R_readFact 81 = .ok (.invokevirtual 71, 3) ∧ 81 + 3 = 84 := ⟨by decide +kernel, rfl⟩
theorem zd_R_readFact_84 : decode zb_R_readFact 84 = .ok (.goto 34, 3) ∧ ((84 : Nat) : Int) + (34) = ((118 : Nat) : Int) ∧ 84 + 3 = 87 := ⟨by decide +kernel, by decide, rfl⟩
theorem zd_R_readFact_87 : decode zb_R_readFact 87 = .ok (.aload_n 0, 1) ∧ 87 + 1 = 88 := ⟨by decide +kernel, rfl⟩
theorem zd_R_readFact_88 : decode zb_R_readFact 88 = .ok (.bipush 26, 2) ∧ 88 + 2 = 90 := ⟨by decide +kernel, rfl⟩
theorem zd_R_readFact_90 : decode zb_R_readFact 90 = .ok (.invokevirtual 152, 3) ∧ 90 + 3 = 93 := ⟨by decide +kernel, rfl⟩
theorem zd_R_readFact_93 : decode zb_R_readFact 93 = .ok (.ifCond .eq 10, 3) ∧ ((93 : Nat) : Int) + (10) = ((103 : Nat) : Int) ∧ 93 + 3 = 96 := ⟨by decide +kernel, by decide, rfl⟩
theorem zd_R_readFact_96 : decode zb_R_readFact 96 = .ok (.aload_n 0, 1) ∧ 96 + 1 = 97 := ⟨by decide +kernel, rfl⟩
theorem zd_R_readFact_97 : decode zb_R_readFact 97 = .ok (.invokevirtual 158, 3) ∧ 97 + 3 = 100 := ⟨by decide +kernel, rfl⟩
theorem zd_R_readFact_100 : decode zb_R_readFact 100 = .ok (.goto 18, 3) ∧ ((100 : Nat) : Int) + (18) = ((118 : Nat) : Int) ∧ 100 + 3 = 103 := ⟨by decide +kernel, by decide, rfl⟩
theorem zd_R_readFact_103 : decode zb_R_readFact 103 = .ok (.aload_n 0, 1) ∧ 103 + 1 = 104 := ⟨by decide +kernel, rfl⟩
theorem zd_R_readFact_104 : decode zb_R_readFact 104 = .ok (.bipush 25, 2) ∧ 104 + 2 = 106 := ⟨by decide +kernel, rfl⟩
theorem zd_R_readFact_106 : decode zb_R_readFact 106 = .ok (.invokevirtual 81, 3) ∧ 106 + 3 = 109 := ⟨by decide +kernel, rfl⟩
theorem zd_R_readFact_109 : decode zb_R_readFact 109 = .ok (.aload_n 0, 1) ∧ 109 + 1 = 110 := ⟨by decide +kernel, rfl⟩
theorem zd_R_readFact_110 : decode zb_R_readFact 110 = .ok (.getfield 25, 3) ∧ 110 + 3 = 113 := ⟨by decide +kernel, rfl⟩
theorem zd_R_readFact_113 : decode zb_R_readFact 113 = .ok (.bipush 25, 2) ∧ 113 + 2 = 115 := ⟨by decide +kernel, rfl⟩
theorem zd_R_readFact_115 : decode zb_R_readFact 115 = .ok (.invokevirtual 149, 3) ∧ 115 + 3 = 118 := ⟨by decide +kernel, rfl⟩
theorem zd_R_readFact_118 : decode zb_R_readFact 118 = .ok (.return_, 1) ∧ 118 + 1 = 119 := ⟨by decide +kernel, rfl⟩
theorem zd_R_readSees_0 : decode zb_R_readSees 0 = .ok (.aload_n 0, 1) ∧ 0 + 1 = 1 := ⟨by decide +kernel, rfl⟩
theorem zd_R_readSees_1 : decode zb_R_readSees 1 = .ok (.invokevirtual 88, 3) ∧ 1 + 3 = 4 := ⟨by decide +kernel, rfl⟩
theorem zd_R_readSees_4 : decode zb_R_readSees 4 = .ok (.aload_n 0, 1) ∧ 4 + 1 = 5 := ⟨by decide +kernel, rfl⟩
theorem zd_R_readSees_5 : decode zb_R_readSees 5 = .ok (.getfield 18, 3) ∧ 5 + 3 = 8 := ⟨by decide +kernel, rfl⟩
theorem zd_R_readSees_8 : decode zb_R_readSees 8 = .ok (.getfield 55, 3) ∧ 8 + 3 = 11 := ⟨by decide +kernel, rfl⟩
theorem zd_R_readSees_11 : decode zb_R_readSees 11 = .ok (.aload_n 0, 1) ∧ 11 + 1 = 12 := ⟨by decide +kernel, rfl⟩
theorem zd_R_readSees_12 : decode zb_R_readSees 12 = .ok (.getfield 46, 3) ∧ 12 + 3 = 15 := ⟨by decide +kernel, rfl⟩
theorem zd_R_readSees_15 : decode zb_R_readSees 15 = .ok (.iaload, 1) ∧ 15 + 1 = 16 := ⟨by decide +kernel, rfl⟩
theorem zd_R_readSees_16 : decode zb_R_readSees 16 = .ok (.iconst 1, 1) ∧ 16 + 1 = 17 := ⟨by decide +kernel, rfl⟩
theorem zd_R_readSees_17 : decode zb_R_readSees 17 = .ok (.if_icmp .eq 10, 3) ∧ ((17 : Nat) : Int) + (10) = ((27 : Nat) : Int) ∧ 17 + 3 = 20 := ⟨by decide +kernel, by decide, rfl⟩
theorem zd_R_readSees_20 : decode zb_R_readSees 20 = .ok (.aload_n 0, 1) ∧ 20 + 1 = 21 := ⟨by decide +kernel, rfl⟩
theorem zd_R_readSees_21 : decode zb_R_readSees 21 = .ok (.invokevirtual 75, 3) ∧ 21 + 3 = 24 := ⟨by decide +kernel, rfl⟩
theorem zd_R_readSees_24 : decode zb_R_readSees 24 = .ok (.goto 81, 3) ∧ ((24 : Nat) : Int) + (81) = ((105 : Nat) : Int) ∧ 24 + 3 = 27 := ⟨by decide +kernel, by decide, rfl⟩
theorem zd_R_readSees_27 : decode zb_R_readSees 27 = .ok (.aload_n 0, 1) ∧ 27 + 1 = 28 := ⟨by decide +kernel, rfl⟩
theorem zd_R_readSees_28 : decode zb_R_readSees 28 = .ok (.getfield 49, 3) ∧ 28 + 3 = 31 := ⟨by decide +kernel, rfl⟩
theorem zd_R_readSees_31 : decode zb_R_readSees 31 = .ok (.sipush 160, 3) ∧ 31 + 3 = 34 := ⟨by decide +kernel, rfl⟩
theorem zd_R_readSees_34 : decode zb_R_readSees 34 = .ok (.if_icmp .ge 71, 3) ∧ ((34 : Nat) : Int) + (71) = ((105 : Nat) : Int) ∧ 34 + 3 = 37 := ⟨by decide +kernel, by decide, rfl⟩
theorem zd_R_readSees_37 : decode zb_R_readSees 37 = .ok (.aload_n 0, 1) ∧ 37 + 1 = 38 := ⟨by decide +kernel, rfl⟩
theorem zd_R_readSees_38 : decode zb_R_readSees 38 = .ok (.getfield 29, 3) ∧ 38 + 3 = 41 := ⟨by decide +kernel, rfl⟩
theorem zd_R_readSees_41 : decode zb_R_readSees 41 = .ok (.aload_n 0, 1) ∧ 41 + 1 = 42 := ⟨by decide +kernel, rfl⟩
theorem zd_R_readSees_42 : decode zb_R_readSees 42 = .ok (.getfield 49, 3) ∧ 42 + 3 = 45 := ⟨by decide +kernel, rfl⟩
theorem zd_R_readSees_45 : decode zb_R_readSees 45 = .ok (.aload_n 0, 1) ∧ 45 + 1 = 46 := ⟨by decide +kernel, rfl⟩
theorem zd_R_readSees_46 : decode zb_R_readSees 46 = .ok (.getfield 18, 3) ∧ 46 + 3 = 49 := ⟨by decide +kernel, rfl⟩
theorem zd_R_readSees_49 : decode zb_R_readSees 49 = .ok (.getfield 94, 3) ∧ 49 + 3 = 52 := ⟨by decide +kernel, rfl⟩
theorem zd_R_readSees_52 : decode zb_R_readSees 52 = .ok (.aload_n 0, 1) ∧ 52 + 1 = 53 := ⟨by decide +kernel, rfl⟩
theorem zd_R_readSees_53 : decode zb_R_readSees 53 = .ok (.getfield 46, 3) ∧ 53 + 3 = 56 := ⟨by decide +kernel, rfl⟩
theorem zd_R_readSees_56 : decode zb_R_readSees 56 = .ok (.iaload, 1) ∧ 56 + 1 = 57 := ⟨by decide +kernel, rfl⟩
theorem zd_R_readSees_57 : decode zb_R_readSees 57 = .ok (.iastore, 1) ∧ 57 + 1 = 58 := ⟨by decide +kernel, rfl⟩
theorem zd_R_readSees_58 : decode zb_R_readSees 58 = .ok (.aload_n 0, 1) ∧ 58 + 1 = 59 := ⟨by decide +kernel, rfl⟩
theorem zd_R_readSees_59 : decode zb_R_readSees 59 = .ok (.getfield 33, 3) ∧ 59 + 3 = 62 := ⟨by decide +kernel, rfl⟩
theorem zd_R_readSees_62 : decode zb_R_readSees 62 = .ok (.aload_n 0, 1) ∧ 62 + 1 = 63 := ⟨by decide +kernel, rfl⟩
theorem zd_R_readSees_63 : decode zb_R_readSees 63 = .ok (.getfield 49, 3) ∧ 63 + 3 = 66 := ⟨by decide +kernel, rfl⟩
theorem zd_R_readSees_66 : decode zb_R_readSees 66 = .ok (.aload_n 0, 1) ∧ 66 + 1 = 67 := ⟨by decide +kernel, rfl⟩
theorem zd_R_readSees_67 : decode zb_R_readSees 67 = .ok (.getfield 18, 3) ∧ 67 + 3 = 70 := ⟨by decide +kernel, rfl⟩
theorem zd_R_readSees_70 : decode zb_R_readSees 70 = .ok (.getfield 61, 3) ∧ 70 + 3 = 73 := ⟨by decide +kernel, rfl⟩
theorem zd_R_readSees_73 : decode zb_R_readSees 73 = .ok (.aload_n 0, 1) ∧ 73 + 1 = 74 := ⟨by decide +kernel, rfl⟩
theorem zd_R_readSees_74 : decode zb_R_readSees 74 = .ok (.getfield 46, 3) ∧ 74 + 3 = 77 := ⟨by decide +kernel, rfl⟩
theorem zd_R_readSees_77 : decode zb_R_readSees 77 = .ok (.iaload, 1) ∧ 77 + 1 = 78 := ⟨by decide +kernel, rfl⟩
theorem zd_R_readSees_78 : decode zb_R_readSees 78 = .ok (.iastore, 1) ∧ 78 + 1 = 79 := ⟨by decide +kernel, rfl⟩
theorem zd_R_readSees_79 : decode zb_R_readSees 79 = .ok (.aload_n 0, 1) ∧ 79 + 1 = 80 := ⟨by decide +kernel, rfl⟩
theorem zd_R_readSees_80 : decode zb_R_readSees 80 = .ok (.getfield 36, 3) ∧ 80 + 3 = 83 := ⟨by decide +kernel, rfl⟩
theorem zd_R_readSees_83 : decode zb_R_readSees 83 = .ok (.aload_n 0, 1) ∧ 83 + 1 = 84 := ⟨by decide +kernel, rfl⟩
theorem zd_R_readSees_84 : decode zb_R_readSees 84 = .ok (.getfield 49, 3) ∧ 84 + 3 = 87 := ⟨by decide +kernel, rfl⟩
theorem zd_R_readSees_87 : decode zb_R_readSees 87 = .ok (.aload_n 0, 1) ∧ 87 + 1 = 88 := ⟨by decide +kernel, rfl⟩
theorem zd_R_readSees_88 : decode zb_R_readSees 88 = .ok (.getfield 25, 3) ∧ 88 + 3 = 91 := ⟨by decide +kernel, rfl⟩
theorem zd_R_readSees_91 : decode zb_R_readSees 91 = .ok (.getfield 161, 3) ∧ 91 + 3 = 94 := ⟨by decide +kernel, rfl⟩
theorem zd_R_readSees_94 : decode zb_R_readSees 94 = .ok (.iastore, 1) ∧ 94 + 1 = 95 := ⟨by decide +kernel, rfl⟩
theorem zd_R_readSees_95 : decode zb_R_readSees 95 = .ok (.aload_n 0, 1) ∧ 95 + 1 = 96 := ⟨by decide +kernel, rfl⟩
theorem zd_R_readSees_96 : decode zb_R_readSees 96 = .ok (.dup, 1) ∧ 96 + 1 = 97 := ⟨by decide +kernel, rfl⟩
theorem zd_R_readSees_97 : decode zb_R_readSees 97 = .ok (.getfield 49, 3) ∧ 97 + 3 = 100 := ⟨by decide +kernel, rfl⟩
theorem zd_R_readSees_100 : decode zb_R_readSees 100 = .ok (.iconst 1, 1) ∧ 100 + 1 = 101 := ⟨by decide +kernel, rfl⟩
theorem zd_R_readSees_101 : decode zb_R_readSees 101 = .ok (.iadd, 1) ∧ 101 + 1 = 102 := ⟨by decide +kernel, rfl⟩
theorem zd_R_readSees_102 : decode zb_R_readSees 102 = .ok (.putfield 49, 3) ∧ 102 + 3 = 105 := ⟨by decide +kernel, rfl⟩
theorem zd_R_readSees_105 : decode zb_R_readSees 105 = .ok (.aload_n 0, 1) ∧ 105 + 1 = 106 := ⟨by decide +kernel, rfl⟩
theorem zd_R_readSees_106 : decode zb_R_readSees 106 = .ok (.invokevirtual 88, 3) ∧ 106 + 3 = 109 := ⟨by decide +kernel, rfl⟩
theorem zd_R_readSees_109 : decode zb_R_readSees 109 = .ok (.aload_n 0, 1) ∧ 109 + 1 = 110 := ⟨by decide +kernel, rfl⟩
theorem zd_R_readSees_110 : decode zb_R_readSees 110 = .ok (.getfield 25, 3) ∧ 110 + 3 = 113 := ⟨by decide +kernel, rfl⟩
theorem zd_R_readSees_113 : decode zb_R_readSees 113 = .ok (.iconst 0, 1) ∧ 113 + 1 = 114 := ⟨by decide +kernel, rfl⟩
theorem zd_R_readSees_114 : decode zb_R_readSees 114 = .ok (.aload_n 0, 1) ∧ 114 + 1 = 115 := ⟨by decide +kernel, rfl⟩
theorem zd_R_readSees_115 : decode zb_R_readSees 115 = .ok (.bipush 12, 2) ∧ 115 + 2 = 117 := ⟨by decide +kernel, rfl⟩
theorem zd_R_readSees_117 : decode zb_R_readSees 117 = .ok (.bipush 15, 2) ∧ 117 + 2 = 119 := ⟨by decide +kernel, rfl⟩
theorem zd_R_readSees_119 : decode zb_R_readSees 119 = .ok (.invokevirtual 105, 3) ∧ 119 + 3 = 122 := ⟨by decide +kernel, rfl⟩
theorem zd_R_readSees_122 : decode zb_R_readSees 122 = .ok (.invokestatic 108, 3) ∧ 122 + 3 = 125 := ⟨by decide +kernel, rfl⟩
theorem zd_R_readSees_125 : decode zb_R_readSees 125 = .ok (.invokestatic 164, 3) ∧ 125 + 3 = 128 := ⟨by decide +kernel, rfl⟩
theorem zd_R_readSees_128 : decode zb_R_readSees 128 = .ok (.invokevirtual 149, 3) ∧ 128 + 3 = 131 := ⟨by decide +kernel, rfl⟩
theorem zd_R_readSees_131 : decode zb_R_readSees 131 = .ok (.return_, 1) ∧ 131 + 1 = 132 := ⟨by decide +kernel, rfl⟩
theorem zd_R_findSeenEyes_0 : decode zb_R_findSeenEyes 0 = .ok (.iconst 0, 1) ∧ 0 + 1 = 1 := ⟨by decide +kernel, rfl⟩
theorem zd_R_findSeenEyes_1 : decode zb_R_findSeenEyes 1 = .ok (.istore_n 1, 1) ∧ 1 + 1 = 2 := ⟨by decide +kernel, rfl⟩
theorem zd_R_findSeenEyes_2 : decode zb_R_findSeenEyes 2 = .ok (.iload_n 1, 1) ∧ 2 + 1 = 3 := ⟨by decide +kernel, rfl⟩
theorem zd_R_findSeenEyes_3 : decode zb_R_findSeenEyes 3 = .ok (.aload_n 0, 1) ∧ 3 + 1 = 4 := ⟨by decide +kernel, rfl⟩
theorem zd_R_findSeenEyes_4 : decode zb_R_findSeenEyes 4 = .ok (.getfield 49, 3) ∧ 4 + 3 = 7 := ⟨by decide +kernel, rfl⟩
theorem zd_R_findSeenEyes_7 : decode zb_R_findSeenEyes 7 = .ok (.if_icmp .ge 72, 3) ∧ ((7 : Nat) : Int) + (72) = ((79 : Nat) : Int) ∧ 7 + 3 = 10 := ⟨by decide +kernel, by decide, rfl⟩
theorem zd_R_findSeenEyes_10 : decode zb_R_findSeenEyes 10 = .ok (.aload_n 0, 1) ∧ 10 + 1 = 11 := ⟨by decide +kernel, rfl⟩
theorem zd_R_findSeenEyes_11 : decode zb_R_findSeenEyes 11 = .ok (.getfield 39, 3) ∧ 11 + 3 = 14 := ⟨by decide +kernel, rfl⟩
theorem zd_R_findSeenEyes_14 : decode zb_R_findSeenEyes 14 = .ok (.ifCond .ne 65, 3) ∧ ((14 : Nat) : Int) + (65) = ((79 : Nat) : Int) ∧ 14 + 3 = 17 := ⟨by decide +kernel, by decide, rfl⟩
theorem zd_R_findSeenEyes_17 : decode zb_R_findSeenEyes 17 = .ok (.aload_n 0, 1) ∧ 17 + 1 = 18 := ⟨by decide +kernel, rfl⟩
theorem zd_R_findSeenEyes_18 : decode zb_R_findSeenEyes 18 = .ok (.getfield 25, 3) ∧ 18 + 3 = 21 := ⟨by decide +kernel, rfl⟩
theorem zd_R_findSeenEyes_21 : decode zb_R_findSeenEyes 21 = .ok (.aload_n 0, 1) ∧ 21 + 1 = 22 := ⟨by decide +kernel, rfl⟩
theorem zd_R_findSeenEyes_22 : decode zb_R_findSeenEyes 22 = .ok (.getfield 29, 3) ∧ 22 + 3 = 25 := ⟨by decide +kernel, rfl⟩
theorem zd_R_findSeenEyes_25 : decode zb_R_findSeenEyes 25 = .ok (.iload_n 1, 1) ∧ 25 + 1 = 26 := ⟨by decide +kernel, rfl⟩
theorem zd_R_findSeenEyes_26 : decode zb_R_findSeenEyes 26 = .ok (.iaload, 1) ∧ 26 + 1 = 27 := ⟨by decide +kernel, rfl⟩
theorem zd_R_findSeenEyes_27 : decode zb_R_findSeenEyes 27 = .ok (.invokevirtual 125, 3) ∧ 27 + 3 = 30 := ⟨by decide +kernel, rfl⟩
theorem zd_R_findSeenEyes_30 : decode zb_R_findSeenEyes 30 = .ok (.istore_n 2, 1) ∧ 30 + 1 = 31 := ⟨by decide +kernel, rfl⟩
theorem zd_R_findSeenEyes_31 : decode zb_R_findSeenEyes 31 = .ok (.iload_n 2, 1) ∧ 31 + 1 = 32 := ⟨by decide +kernel, rfl⟩
theorem zd_R_findSeenEyes_32 : decode zb_R_findSeenEyes 32 = .ok (.iconst (-1), 1) ∧ 32 + 1 = 33 := ⟨by decide +kernel, rfl⟩
theorem zd_R_findSeenEyes_33 : decode zb_R_findSeenEyes 33 = .ok (.if_icmp .ne 18, 3) ∧ ((33 : Nat) : Int) + (18) = ((51 : Nat) : Int) ∧ 33 + 3 = 36 := ⟨by decide +kernel, by decide, rfl⟩
theorem zd_R_findSeenEyes_36 : decode zb_R_findSeenEyes 36 = .ok (.aload_n 0, 1) ∧ 36 + 1 = 37 := ⟨by decide +kernel, rfl⟩
theorem zd_R_findSeenEyes_37 : decode zb_R_findSeenEyes 37 = .ok (.bipush 6, 2) ∧ 37 + 2 = 39 := ⟨by decide +kernel, rfl⟩
theorem zd_R_findSeenEyes_39 : decode zb_R_findSeenEyes 39 = .ok (.aload_n 0, 1) ∧ 39 + 1 = 40 := ⟨by decide +kernel, rfl⟩
theorem zd_R_findSeenEyes_40 : decode zb_R_findSeenEyes 40 = .ok (.getfield 33, 3) ∧ 40 + 3 = 43 := ⟨by decide +kernel, rfl⟩
theorem zd_R_findSeenEyes_43 : decode zb_R_findSeenEyes 43 = .ok (.iload_n 1, 1) ∧ 43 + 1 = 44 := ⟨by decide +kernel, rfl⟩
theorem zd_R_findSeenEyes_44 : decode zb_R_findSeenEyes 44 = .ok (.iaload, 1) ∧ 44 + 1 = 45 := ⟨by decide +kernel, rfl⟩
theorem zd_R_findSeenEyes_45 : decode zb_R_findSeenEyes 45 = .ok (.invokevirtual 64, 3) ∧ 45 + 3 = 48 := ⟨by decide +kernel, rfl⟩
theorem zd_R_findSeenEyes_48 : decode zb_R_findSeenEyes 48 = .ok (.goto 25, 3) ∧ ((48 : Nat) : Int) + (25) = ((73 : Nat) : Int) ∧ 48 + 3 = 51 := ⟨by decide +kernel, by decide, rfl⟩
theorem zd_R_findSeenEyes_51 : decode zb_R_findSeenEyes 51 = .ok (.aload_n 0, 1) ∧ 51 + 1 = 52 := ⟨by decide +kernel, rfl⟩
theorem zd_R_findSeenEyes_52 : decode zb_R_findSeenEyes 52 = .ok (.getfield 25, 3) ∧ 52 + 3 = 55 := ⟨by decide +kernel, rfl⟩
theorem zd_R_findSeenEyes_55 : decode zb_R_findSeenEyes 55 = .ok (.getfield 167, 3) ∧ 55 + 3 = 58 := ⟨by decide +kernel, rfl⟩
theorem zd_R_findSeenEyes_58 : decode zb_R_findSeenEyes 58 = .ok (.aload_n 0, 1) ∧ 58 + 1 = 59 := ⟨by decide +kernel, rfl⟩
theorem zd_R_findSeenEyes_59 : decode zb_R_findSeenEyes 59 = .ok (.getfield 36, 3) ∧ 59 + 3 = 62 := ⟨by decide +kernel, rfl⟩
theorem zd_R_findSeenEyes_62 : decode zb_R_findSeenEyes 62 = .ok (.iload_n 1, 1) ∧ 62 + 1 = 63 := ⟨by decide +kernel, rfl⟩
theorem zd_R_findSeenEyes_63 : decode zb_R_findSeenEyes 63 = .ok (.iaload, 1) ∧ 63 + 1 = 64 := ⟨by decide +kernel, rfl⟩
theorem zd_R_findSeenEyes_64 : decode zb_R_findSeenEyes 64 = .ok (.dup2, 1) ∧ 64 + 1 = 65 := ⟨by decide +kernel, rfl⟩
theorem zd_R_findSeenEyes_65 : decode zb_R_findSeenEyes 65 = .ok (.iaload, 1) ∧ 65 + 1 = 66 := ⟨by decide +kernel, rfl⟩
theorem zd_R_findSeenEyes_66 : decode zb_R_findSeenEyes 66 = .ok (.iload_n 2, 1) ∧ 66 + 1 = 67 := ⟨by decide +kernel, rfl⟩
theorem zd_R_findSeenEyes_67 : decode zb_R_findSeenEyes 67 = .ok (.iconst 0, 1) ∧ 67 + 1 = 68 := ⟨by decide +kernel, rfl⟩
theorem zd_R_findSeenEyes_68 : decode zb_R_findSeenEyes 68 = .ok (.invokestatic 164, 3) ∧ 68 + 3 = 71 := ⟨by decide +kernel, rfl⟩
theorem zd_R_findSeenEyes_71 : decode zb_R_findSeenEyes 71 = .ok (.ior, 1) ∧ 71 + 1 = 72 := ⟨by decide +kernel, rfl⟩
theorem zd_R_findSeenEyes_72 : decode zb_R_findSeenEyes 72 = .ok (.iastore, 1) ∧ 72 + 1 = 73 := ⟨by decide +kernel, rfl⟩
theorem zd_R_findSeenEyes_73 : decode zb_R_findSeenEyes 73 = .ok (.iinc 1 1, 3) ∧ 73 + 3 = 76 := ⟨by decide +kernel, rfl⟩
theorem zd_R_findSeenEyes_76 : decode zb_R_findSeenEyes 76 = .ok (.goto (-74), 3) ∧ ((76 : Nat) : Int) + (-74) = ((2 : Nat) : Int) ∧ 76 + 3 = 79 := ⟨by decide +kernel, by decide, rfl⟩
theorem zd_R_findSeenEyes_79 : decode zb_R_findSeenEyes 79 = .ok (.return_, 1) ∧ 79 + 1 = 80 := ⟨by decide +kernel, rfl⟩
theorem zd_R_colourOf_0 : decode zb_R_colourOf 0 = .ok (.iload_n 0, 1) ∧ 0 + 1 = 1 := ⟨by decide +kernel, rfl⟩
theorem zd_R_colourOf_1 : decode zb_R_colourOf 1 = .ok (.iconst 3, 1) ∧ 1 + 1 = 2 := ⟨by decide +kernel, rfl⟩
theorem zd_R_colourOf_2 : decode zb_R_colourOf 2 = .ok (.if_icmp .ne 8, 3) ∧ ((2 : Nat) : Int) + (8) = ((10 : Nat) : Int) ∧ 2 + 3 = 5 := ⟨by decide +kernel, by decide, rfl⟩
theorem zd_R_colourOf_5 : decode zb_R_colourOf 5 = .ok (.bipush 7, 2) ∧ 5 + 2 = 7 := ⟨by decide +kernel, rfl⟩
theorem zd_R_colourOf_7 : decode zb_R_colourOf 7 = .ok (.goto 6, 3) ∧ ((7 : Nat) : Int) + (6) = ((13 : Nat) : Int) ∧ 7 + 3 = 10 := ⟨by decide +kernel, by decide, rfl⟩
theorem zd_R_colourOf_10 : decode zb_R_colourOf 10 = .ok (.iconst 1, 1) ∧ 10 + 1 = 11 := ⟨by decide +kernel, rfl⟩
theorem zd_R_colourOf_11 : decode zb_R_colourOf 11 = .ok (.iload_n 0, 1) ∧ 11 + 1 = 12 := ⟨by decide +kernel, rfl⟩
theorem zd_R_colourOf_12 : decode zb_R_colourOf 12 = .ok (.ishl, 1) ∧ 12 + 1 = 13 := ⟨by decide +kernel, rfl⟩
theorem zd_R_colourOf_13 : decode zb_R_colourOf 13 = .ok (.ireturn, 1) ∧ 13 + 1 = 14 := ⟨by decide +kernel, rfl⟩
theorem zd_R_choose_0 : decode zb_R_choose 0 = .ok (.aload_n 0, 1) ∧ 0 + 1 = 1 := ⟨by decide +kernel, rfl⟩
theorem zd_R_choose_1 : decode zb_R_choose 1 = .ok (.getfield 18, 3) ∧ 1 + 3 = 4 := ⟨by decide +kernel, rfl⟩
theorem zd_R_choose_4 : decode zb_R_choose 4 = .ok (.getfield 55, 3) ∧ 4 + 3 = 7 := ⟨by decide +kernel, rfl⟩
theorem zd_R_choose_7 : decode zb_R_choose 7 = .ok (.aload_n 0, 1) ∧ 7 + 1 = 8 := ⟨by decide +kernel, rfl⟩
theorem zd_R_choose_8 : decode zb_R_choose 8 = .ok (.getfield 46, 3) ∧ 8 + 3 = 11 := ⟨by decide +kernel, rfl⟩
theorem zd_R_choose_11 : decode zb_R_choose 11 = .ok (.iaload, 1) ∧ 11 + 1 = 12 := ⟨by decide +kernel, rfl⟩
theorem zd_R_choose_12 : decode zb_R_choose 12 = .ok (.ifCond .ne 18, 3) ∧ ((12 : Nat) : Int) + (18) = ((30 : Nat) : Int) ∧ 12 + 3 = 15 := ⟨by decide +kernel, by decide, rfl⟩
theorem zd_R_choose_15 : decode zb_R_choose 15 = .ok (.aload_n 0, 1) ∧ 15 + 1 = 16 := ⟨by decide +kernel, rfl⟩
theorem zd_R_choose_16 : decode zb_R_choose 16 = .ok (.getfield 18, 3) ∧ 16 + 3 = 19 := ⟨by decide +kernel, rfl⟩
theorem zd_R_choose_19 : decode zb_R_choose 19 = .ok (.getfield 94, 3) ∧ 19 + 3 = 22 := ⟨by decide +kernel, rfl⟩
theorem zd_R_choose_22 : decode zb_R_choose 22 = .ok (.aload_n 0, 1) ∧ 22 + 1 = 23 := ⟨by decide +kernel, rfl⟩
theorem zd_R_choose_23 : decode zb_R_choose 23 = .ok (.getfield 46, 3) ∧ 23 + 3 = 26 := ⟨by decide +kernel, rfl⟩
theorem zd_R_choose_26 : decode zb_R_choose 26 = .ok (.iaload, 1) ∧ 26 + 1 = 27 := ⟨by decide +kernel, rfl⟩
theorem zd_R_choose_27 : decode zb_R_choose 27 = .ok (.goto 4, 3) ∧ ((27 : Nat) : Int) + (4) = ((31 : Nat) : Int) ∧ 27 + 3 = 30 := ⟨by decide +kernel, by decide, rfl⟩
theorem zd_R_choose_30 : decode zb_R_choose 30 = .ok (.iconst (-1), 1) ∧ 30 + 1 = 31 := ⟨by decide +kernel, rfl⟩
theorem zd_R_choose_31 : decode zb_R_choose 31 = .ok (.istore_n 3, 1) ∧ 31 + 1 = 32 := ⟨by decide +kernel, rfl⟩
theorem zd_R_choose_32 : decode zb_R_choose 32 = .ok (.iload_n 3, 1) ∧ 32 + 1 = 33 := ⟨by decide +kernel, rfl⟩
theorem zd_R_choose_33 : decode zb_R_choose 33 = .ok (.iload_n 1, 1) ∧ 33 + 1 = 34 := ⟨by decide +kernel, rfl⟩
theorem zd_R_choose_34 : decode zb_R_choose 34 = .ok (.if_icmp .lt 8, 3) ∧ ((34 : Nat) : Int) + (8) = ((42 : Nat) : Int) ∧ 34 + 3 = 37 := ⟨by decide +kernel, by decide, rfl⟩
theorem zd_R_choose_37 : decode zb_R_choose 37 = .ok (.iload_n 3, 1) ∧ 37 + 1 = 38 := ⟨by decide +kernel, rfl⟩
theorem zd_R_choose_38 : decode zb_R_choose 38 = .ok (.iload_n 2, 1) ∧ 38 + 1 = 39 := ⟨by decide +kernel, rfl⟩
theorem zd_R_choose_39 : decode zb_R_choose 39 = .ok (.if_icmp .le 22, 3) ∧ ((39 : Nat) : Int) + (22) = ((61 : Nat) : Int) ∧ 39 + 3 = 42 := ⟨by decide +kernel, by decide, rfl⟩
theorem zd_R_choose_42 : decode zb_R_choose 42 = .ok (.aload_n 0, 1) ∧ 42 + 1 = 43 := ⟨by decide +kernel, rfl⟩
theorem zd_R_choose_43 : decode zb_R_choose 43 = .ok (.iconst 1, 1) ∧ 43 + 1 = 44 := ⟨by decide +kernel, rfl⟩
theorem zd_R_choose_44 : decode zb_R_choose 44 = .ok (.aload_n 0, 1) ∧ 44 + 1 = 45 := ⟨by decide +kernel, rfl⟩
theorem zd_R_choose_45 : decode zb_R_choose 45 = .ok (.getfield 18, 3) ∧ 45 + 3 = 48 := ⟨by decide +kernel, rfl⟩
theorem zd_R_choose_48 : decode zb_R_choose 48 = .ok (.getfield 170, 3) ∧ 48 + 3 = 51 := ⟨by decide +kernel, rfl⟩
theorem zd_R_choose_51 : decode zb_R_choose 51 = .ok (.aload_n 0, 1) ∧ 51 + 1 = 52 := ⟨by decide +kernel, rfl⟩
theorem zd_R_choose_52 : decode zb_R_choose 52 = .ok (.getfield 46, 3) ∧ 52 + 3 = 55 := ⟨by decide +kernel, rfl⟩
theorem zd_R_choose_55 : decode zb_R_choose 55 = .ok (.iaload, 1) ∧ 55 + 1 = 56 := ⟨by decide +kernel, rfl⟩
theorem zd_R_choose_56 : decode zb_R_choose 56 = .ok (.invokevirtual 64, 3) ∧ 56 + 3 = 59 := ⟨by decide +kernel, rfl⟩
theorem zd_R_choose_59 : decode zb_R_choose 59 = .ok (.iconst 0, 1) ∧ 59 + 1 = 60 := ⟨by decide +kernel, rfl⟩
theorem zd_R_choose_60 : decode zb_R_choose 60 = .ok (.ireturn, 1) ∧ 60 + 1 = 61 := ⟨by decide +kernel, rfl⟩
theorem zd_R_choose_61 : decode zb_R_choose 61 = .ok (.aload_n 0, 1) ∧ 61 + 1 = 62 := ⟨by decide +kernel, rfl⟩
theorem zd_R_choose_62 : decode zb_R_choose 62 = .ok (.invokevirtual 88, 3) ∧ 62 + 3 = 65 := ⟨by decide +kernel, rfl⟩
theorem zd_R_choose_65 : decode zb_R_choose 65 = .ok (.iload_n 3, 1) ∧ 65 + 1 = 66 := ⟨by decide +kernel, rfl⟩
theorem zd_R_choose_66 : decode zb_R_choose 66 = .ok (.iload_n 1, 1) ∧ 66 + 1 = 67 := ⟨by decide +kernel, rfl⟩
theorem zd_R_choose_67 : decode zb_R_choose 67 = .ok (.isub, 1) ∧ 67 + 1 = 68 := ⟨by decide +kernel, rfl⟩
theorem zd_R_choose_68 : decode zb_R_choose 68 = .ok (.ireturn, 1) ∧ 68 + 1 = 69 := ⟨by decide +kernel, rfl⟩
theorem zd_R_readNumber_0 : decode zb_R_readNumber 0 = .ok (.aload_n 0, 1) ∧ 0 + 1 = 1 := ⟨by decide +kernel, rfl⟩
theorem zd_R_readNumber_1 : decode zb_R_readNumber 1 = .ok (.getfield 18, 3) ∧ 1 + 3 = 4 := ⟨by decide +kernel, rfl⟩
theorem zd_R_readNumber_4 : decode zb_R_readNumber 4 = .ok (.getfield 94, 3) ∧ 4 + 3 = 7 := ⟨by decide +kernel, rfl⟩
theorem zd_R_readNumber_7 : decode zb_R_readNumber 7 = .ok (.aload_n 0, 1) ∧ 7 + 1 = 8 := ⟨by decide +kernel, rfl⟩
theorem zd_R_readNumber_8 : decode zb_R_readNumber 8 = .ok (.getfield 46, 3) ∧ 8 + 3 = 11 := ⟨by decide +kernel, rfl⟩
theorem zd_R_readNumber_11 : decode zb_R_readNumber 11 = .ok (.iaload, 1) ∧ 11 + 1 = 12 := ⟨by decide +kernel, rfl⟩
theorem zd_R_readNumber_12 : decode zb_R_readNumber 12 = .ok (.istore_n 3, 1) ∧ 12 + 1 = 13 := ⟨by decide +kernel, rfl⟩
theorem zd_R_readNumber_13 : decode zb_R_readNumber 13 = .ok (.aload_n 0, 1) ∧ 13 + 1 = 14 := ⟨by decide +kernel, rfl⟩
theorem zd_R_readNumber_14 : decode zb_R_readNumber 14 = .ok (.getfield 18, 3) ∧ 14 + 3 = 17 := ⟨by decide +kernel, rfl⟩
theorem zd_R_readNumber_17 : decode zb_R_readNumber 17 = .ok (.getfield 55, 3) ∧ 17 + 3 = 20 := ⟨by decide +kernel, rfl⟩
theorem zd_R_readNumber_20 : decode zb_R_readNumber 20 = .ok (.aload_n 0, 1) ∧ 20 + 1 = 21 := ⟨by decide +kernel, rfl⟩
theorem zd_R_readNumber_21 : decode zb_R_readNumber 21 = .ok (.getfield 46, 3) ∧ 21 + 3 = 24 := ⟨by decide +kernel, rfl⟩
theorem zd_R_readNumber_24 : decode zb_R_readNumber 24 = .ok (.iaload, 1) ∧ 24 + 1 = 25 := ⟨by decide +kernel, rfl⟩
theorem zd_R_readNumber_25 : decode zb_R_readNumber 25 = .ok (.iconst 2, 1) ∧ 25 + 1 = 26 := ⟨by decide +kernel, rfl⟩
theorem zd_R_readNumber_26 : decode zb_R_readNumber 26 = .ok (.if_icmp .eq 10, 3) ∧ ((26 : Nat) : Int) + (10) = ((36 : Nat) : Int) ∧ 26 + 3 = 29 := ⟨by decide +kernel, by decide, rfl⟩
theorem zd_R_readNumber_29 : decode zb_R_readNumber 29 = .ok (.aload_n 0, 1) ∧ 29 + 1 = 30 := ⟨by decide +kernel, rfl⟩
theorem zd_R_readNumber_30 : decode zb_R_readNumber 30 = .ok (.invokevirtual 75, 3) ∧ 30 + 3 = 33 := ⟨by decide +kernel, rfl⟩
theorem zd_R_readNumber_33 : decode zb_R_readNumber 33 = .ok (.goto 30, 3) ∧ ((33 : Nat) : Int) + (30) = ((63 : Nat) : Int) ∧ 33 + 3 = 36 := ⟨by decide +kernel, by decide, rfl⟩
theorem zd_R_readNumber_36 : decode zb_R_readNumber 36 = .ok (.iload_n 3, 1) ∧ 36 + 1 = 37 := ⟨by decide +kernel, rfl⟩
theorem zd_R_readNumber_37 : decode zb_R_readNumber 37 = .ok (.iload_n 1, 1) ∧ 37 + 1 = 38 := ⟨by decide +kernel, rfl⟩
theorem zd_R_readNumber_38 : decode zb_R_readNumber 38 = .ok (.if_icmp .lt 8, 3) ∧ ((38 : Nat) : Int) + (8) = ((46 : Nat) : Int) ∧ 38 + 3 = 41 := ⟨by decide +kernel, by decide, rfl⟩
theorem zd_R_readNumber_41 : decode zb_R_readNumber 41 = .ok (.iload_n 3, 1) ∧ 41 + 1 = 42 := ⟨by decide +kernel, rfl⟩
theorem zd_R_readNumber_42 : decode zb_R_readNumber 42 = .ok (.iload_n 2, 1) ∧ 42 + 1 = 43 := ⟨by decide +kernel, rfl⟩
theorem zd_R_readNumber_43 : decode zb_R_readNumber 43 = .ok (.if_icmp .le 20, 3) ∧ ((43 : Nat) : Int) + (20) = ((63 : Nat) : Int) ∧ 43 + 3 = 46 := ⟨by decide +kernel, by decide, rfl⟩
theorem zd_R_readNumber_46 : decode zb_R_readNumber 46 = .ok (.aload_n 0, 1) ∧ 46 + 1 = 47 := ⟨by decide +kernel, rfl⟩
theorem zd_R_readNumber_47 : decode zb_R_readNumber 47 = .ok (.iconst 2, 1) ∧ 47 + 1 = 48 := ⟨by decide +kernel, rfl⟩
theorem zd_R_readNumber_48 : decode zb_R_readNumber 48 = .ok (.aload_n 0, 1) ∧ 48 + 1 = 49 := ⟨by decide +kernel, rfl⟩
theorem zd_R_readNumber_49 : decode zb_R_readNumber 49 = .ok (.getfield 18, 3) ∧ 49 + 3 = 52 := ⟨by decide +kernel, rfl⟩
theorem zd_R_readNumber_52 : decode zb_R_readNumber 52 = .ok (.getfield 61, 3) ∧ 52 + 3 = 55 := ⟨by decide +kernel, rfl⟩
theorem zd_R_readNumber_55 : decode zb_R_readNumber 55 = .ok (.aload_n 0, 1) ∧ 55 + 1 = 56 := ⟨by decide +kernel, rfl⟩
theorem zd_R_readNumber_56 : decode zb_R_readNumber 56 = .ok (.getfield 46, 3) ∧ 56 + 3 = 59 := ⟨by decide +kernel, rfl⟩
theorem zd_R_readNumber_59 : decode zb_R_readNumber 59 = .ok (.iaload, 1) ∧ 59 + 1 = 60 := ⟨by decide +kernel, rfl⟩
theorem zd_R_readNumber_60 : decode zb_R_readNumber 60 = .ok (.invokevirtual 64, 3) ∧ 60 + 3 = 63 := ⟨by decide +kernel, rfl⟩
theorem zd_R_readNumber_63 : decode zb_R_readNumber 63 = .ok (.iload_n 3, 1) ∧ 63 + 1 = 64 := ⟨by decide +kernel, rfl⟩
theorem zd_R_readNumber_64 : decode zb_R_readNumber 64 = .ok (.ireturn, 1) ∧ 64 + 1 = 65 := ⟨by decide +kernel, rfl⟩
theorem zd_R_isWord_0 : decode zb_R_isWord 0 = .ok (.aload_n 0, 1) ∧ 0 + 1 = 1 := ⟨by decide +kernel, rfl⟩
theorem zd_R_isWord_1 : decode zb_R_isWord 1 = .ok (.getfield 39, 3) ∧ 1 + 3 = 4 := ⟨by decide +kernel, rfl⟩
theorem zd_R_isWord_4 : decode zb_R_isWord 4 = .ok (.ifCond .ne 38, 3) ∧ ((4 : Nat) : Int) + (38) = ((42 : Nat) : Int) ∧ 4 + 3 = 7 := ⟨by decide +kernel, by decide, rfl⟩
theorem zd_R_isWord_7 : decode zb_R_isWord 7 = .ok (.aload_n 0, 1) ∧ 7 + 1 = 8 := ⟨by decide +kernel, rfl⟩
theorem zd_R_isWord_8 : decode zb_R_isWord 8 = .ok (.getfield 18, 3) ∧ 8 + 3 = 11 := ⟨by decide +kernel, rfl⟩
theorem zd_R_isWord_11 : decode zb_R_isWord 11 = .ok (.getfield 55, 3) ∧ 11 + 3 = 14 := ⟨by decide +kernel, rfl⟩
theorem zd_R_isWord_14 : decode zb_R_isWord 14 = .ok (.aload_n 0, 1) ∧ 14 + 1 = 15 := ⟨by decide +kernel, rfl⟩
theorem zd_R_isWord_15 : decode zb_R_isWord 15 = .ok (.getfield 46, 3) ∧ 15 + 3 = 18 := ⟨by decide +kernel, rfl⟩
theorem zd_R_isWord_18 : decode zb_R_isWord 18 = .ok (.iaload, 1) ∧ 18 + 1 = 19 := ⟨by decide +kernel, rfl⟩
theorem zd_R_isWord_19 : decode zb_R_isWord 19 = .ok (.ifCond .ne 23, 3) ∧ ((19 : Nat) : Int) + (23) = ((42 : Nat) : Int) ∧ 19 + 3 = 22 := ⟨by decide +kernel, by decide, rfl⟩
theorem zd_R_isWord_22 : decode zb_R_isWord 22 = .ok (.aload_n 0, 1) ∧ 22 + 1 = 23 := ⟨by decide +kernel, rfl⟩
theorem zd_R_isWord_23 : decode zb_R_isWord 23 = .ok (.getfield 18, 3) ∧ 23 + 3 = 26 := ⟨by decide +kernel, rfl⟩
theorem zd_R_isWord_26 : decode zb_R_isWord 26 = .ok (.getfield 94, 3) ∧ 26 + 3 = 29 := ⟨by decide +kernel, rfl⟩
theorem zd_R_isWord_29 : decode zb_R_isWord 29 = .ok (.aload_n 0, 1) ∧ 29 + 1 = 30 := ⟨by decide +kernel, rfl⟩
theorem zd_R_isWord_30 : decode zb_R_isWord 30 = .ok (.getfield 46, 3) ∧ 30 + 3 = 33 := ⟨by decide +kernel, rfl⟩
theorem zd_R_isWord_33 : decode zb_R_isWord 33 = .ok (.iaload, 1) ∧ 33 + 1 = 34 := ⟨by decide +kernel, rfl⟩
theorem zd_R_isWord_34 : decode zb_R_isWord 34 = .ok (.iload_n 1, 1) ∧ 34 + 1 = 35 := ⟨by decide +kernel, rfl⟩
theorem zd_R_isWord_35 : decode zb_R_isWord 35 = .ok (.if_icmp .ne 7, 3) ∧ ((35 : Nat) : Int) + (7) = ((42 : Nat) : Int) ∧ 35 + 3 = 38 := ⟨by decide +kernel, by decide, rfl⟩
theorem zd_R_isWord_38 : decode zb_R_isWord 38 = .ok (.iconst 1, 1) ∧ 38 + 1 = 39 := ⟨by decide +kernel, rfl⟩
theorem zd_R_isWord_39 : decode zb_R_isWord 39 = .ok (.goto 4, 3) ∧ ((39 : Nat) : Int) + (4) = ((43 : Nat) : Int) ∧ 39 + 3 = 42 := ⟨by decide +kernel, by decide, rfl⟩
theorem zd_R_isWord_42 : decode zb_R_isWord 42 = .ok (.iconst 0, 1) ∧ 42 + 1 = 43 := ⟨by decide +kernel, rfl⟩
theorem zd_R_isWord_43 : decode zb_R_isWord 43 = .ok (.ireturn, 1) ∧ 43 + 1 = 44 := ⟨by decide +kernel, rfl⟩
theorem zd_R_isSign_0 : decode zb_R_isSign 0 = .ok (.aload_n 0, 1) ∧ 0 + 1 = 1 := ⟨by decide +kernel, rfl⟩
theorem zd_R_isSign_1 : decode zb_R_isSign 1 = .ok (.getfield 39, 3) ∧ 1 + 3 = 4 := ⟨by decide +kernel, rfl⟩
theorem zd_R_isSign_4 : decode zb_R_isSign 4 = .ok (.ifCond .ne 39, 3) ∧ ((4 : Nat) : Int) + (39) = ((43 : Nat) : Int) ∧ 4 + 3 = 7 := ⟨by decide +kernel, by decide, rfl⟩
theorem zd_R_isSign_7 : decode zb_R_isSign 7 = .ok (.aload_n 0, 1) ∧ 7 + 1 = 8 := ⟨by decide +kernel, rfl⟩
theorem zd_R_isSign_8 : decode zb_R_isSign 8 = .ok (.getfield 18, 3) ∧ 8 + 3 = 11 := ⟨by decide +kernel, rfl⟩
theorem zd_R_isSign_11 : decode zb_R_isSign 11 = .ok (.getfield 55, 3) ∧ 11 + 3 = 14 := ⟨by decide +kernel, rfl⟩
theorem zd_R_isSign_14 : decode zb_R_isSign 14 = .ok (.aload_n 0, 1) ∧ 14 + 1 = 15 := ⟨by decide +kernel, rfl⟩
theorem zd_R_isSign_15 : decode zb_R_isSign 15 = .ok (.getfield 46, 3) ∧ 15 + 3 = 18 := ⟨by decide +kernel, rfl⟩
theorem zd_R_isSign_18 : decode zb_R_isSign 18 = .ok (.iaload, 1) ∧ 18 + 1 = 19 := ⟨by decide +kernel, rfl⟩
theorem zd_R_isSign_19 : decode zb_R_isSign 19 = .ok (.iconst 3, 1) ∧ 19 + 1 = 20 := ⟨by decide +kernel, rfl⟩
theorem zd_R_isSign_20 : decode zb_R_isSign 20 = .ok (.if_icmp .ne 23, 3) ∧ ((20 : Nat) : Int) + (23) = ((43 : Nat) : Int) ∧ 20 + 3 = 23 := ⟨by decide +kernel, by decide, rfl⟩
theorem zd_R_isSign_23 : decode zb_R_isSign 23 = .ok (.aload_n 0, 1) ∧ 23 + 1 = 24 := ⟨by decide +kernel, rfl⟩
theorem zd_R_isSign_24 : decode zb_R_isSign 24 = .ok (.getfield 18, 3) ∧ 24 + 3 = 27 := ⟨by decide +kernel, rfl⟩
theorem zd_R_isSign_27 : decode zb_R_isSign 27 = .ok (.getfield 94, 3) ∧ 27 + 3 = 30 := ⟨by decide +kernel, rfl⟩
theorem zd_R_isSign_30 : decode zb_R_isSign 30 = .ok (.aload_n 0, 1) ∧ 30 + 1 = 31 := ⟨by decide +kernel, rfl⟩
theorem zd_R_isSign_31 : decode zb_R_isSign 31 = .ok (.getfield 46, 3) ∧ 31 + 3 = 34 := ⟨by decide +kernel, rfl⟩
theorem zd_R_isSign_34 : decode zb_R_isSign 34 = .ok (.iaload, 1) ∧ 34 + 1 = 35 := ⟨by decide +kernel, rfl⟩
theorem zd_R_isSign_35 : decode zb_R_isSign 35 = .ok (.iload_n 1, 1) ∧ 35 + 1 = 36 := ⟨by decide +kernel, rfl⟩
theorem zd_R_isSign_36 : decode zb_R_isSign 36 = .ok (.if_icmp .ne 7, 3) ∧ ((36 : Nat) : Int) + (7) = ((43 : Nat) : Int) ∧ 36 + 3 = 39 := ⟨by decide +kernel, by decide, rfl⟩
theorem zd_R_isSign_39 : decode zb_R_isSign 39 = .ok (.iconst 1, 1) ∧ 39 + 1 = 40 := ⟨by decide +kernel, rfl⟩
theorem zd_R_isSign_40 : decode zb_R_isSign 40 = .ok (.goto 4, 3) ∧ ((40 : Nat) : Int) + (4) = ((44 : Nat) : Int) ∧ 40 + 3 = 43 := ⟨by decide +kernel, by decide, rfl⟩
theorem zd_R_isSign_43 : decode zb_R_isSign 43 = .ok (.iconst 0, 1) ∧ 43 + 1 = 44 := ⟨by decide +kernel, rfl⟩
theorem zd_R_isSign_44 : decode zb_R_isSign 44 = .ok (.ireturn, 1) ∧ 44 + 1 = 45 := ⟨by decide +kernel, rfl⟩
theorem zd_R_expect_0 : decode zb_R_expect 0 = .ok (.aload_n 0, 1) ∧ 0 + 1 = 1 := ⟨by decide +kernel, rfl⟩
theorem zd_R_expect_1 : decode zb_R_expect 1 = .ok (.iload_n 1, 1) ∧ 1 + 1 = 2 := ⟨by decide +kernel, rfl⟩
theorem zd_R_expect_2 : decode zb_R_expect 2 = .ok (.invokevirtual 152, 3) ∧ 2 + 3 = 5 := ⟨by decide +kernel, rfl⟩
theorem zd_R_expect_5 : decode zb_R_expect 5 = .ok (.ifCond .eq 10, 3) ∧ ((5 : Nat) : Int) + (10) = ((15 : Nat) : Int) ∧ 5 + 3 = 8 := ⟨by decide +kernel, by decide, rfl⟩
theorem zd_R_expect_8 : decode zb_R_expect 8 = .ok (.aload_n 0, 1) ∧ 8 + 1 = 9 := ⟨by decide +kernel, rfl⟩
theorem zd_R_expect_9 : decode zb_R_expect 9 = .ok (.invokevirtual 88, 3) ∧ 9 + 3 = 12 := ⟨by decide +kernel, rfl⟩
theorem zd_R_expect_12 : decode zb_R_expect 12 = .ok (.goto 7, 3) ∧ ((12 : Nat) : Int) + (7) = ((19 : Nat) : Int) ∧ 12 + 3 = 15 := ⟨by decide +kernel, by decide, rfl⟩
theorem zd_R_expect_15 : decode zb_R_expect 15 = .ok (.aload_n 0, 1) ∧ 15 + 1 = 16 := ⟨by decide +kernel, rfl⟩
theorem zd_R_expect_16 : decode zb_R_expect 16 = .ok (.invokevirtual 75, 3) ∧ 16 + 3 = 19 := ⟨by decide +kernel, rfl⟩
theorem zd_R_expect_19 : decode zb_R_expect 19 = .ok (.return_, 1) ∧ 19 + 1 = 20 := ⟨by decide +kernel, rfl⟩
theorem zd_R_expectSign_0 : decode zb_R_expectSign 0 = .ok (.aload_n 0, 1) ∧ 0 + 1 = 1 := ⟨by decide +kernel, rfl⟩
theorem zd_R_expectSign_1 : decode zb_R_expectSign 1 = .ok (.iload_n 1, 1) ∧ 1 + 1 = 2 := ⟨by decide +kernel, rfl⟩
theorem zd_R_expectSign_2 : decode zb_R_expectSign 2 = .ok (.invokevirtual 155, 3) ∧ 2 + 3 = 5 := ⟨by decide +kernel, rfl⟩
theorem zd_R_expectSign_5 : decode zb_R_expectSign 5 = .ok (.ifCond .eq 10, 3) ∧ ((5 : Nat) : Int) + (10) = ((15 : Nat) : Int) ∧ 5 + 3 = 8 := ⟨by decide +kernel, by decide, rfl⟩
theorem zd_R_expectSign_8 : decode zb_R_expectSign 8 = .ok (.aload_n 0, 1) ∧ 8 + 1 = 9 := ⟨by decide +kernel, rfl⟩
theorem zd_R_expectSign_9 : decode zb_R_expectSign 9 = .ok (.invokevirtual 88, 3) ∧ 9 + 3 = 12 := ⟨by decide +kernel, rfl⟩
theorem zd_R_expectSign_12 : decode zb_R_expectSign 12 = .ok (.goto 7, 3) ∧ ((12 : Nat) : Int) + (7) = ((19 : Nat) : Int) ∧ 12 + 3 = 15 := ⟨by decide +kernel, by decide, rfl⟩
theorem zd_R_expectSign_15 : decode zb_R_expectSign 15 = .ok (.aload_n 0, 1) ∧ 15 + 1 = 16 := ⟨by decide +kernel, rfl⟩
theorem zd_R_expectSign_16 : decode zb_R_expectSign 16 = .ok (.invokevirtual 75, 3) ∧ 16 + 3 = 19 := ⟨by decide +kernel, rfl⟩
theorem zd_R_expectSign_19 : decode zb_R_expectSign 19 = .ok (.return_, 1) ∧ 19 + 1 = 20 := ⟨by decide +kernel, rfl⟩
theorem zd_R_advance_0 : decode zb_R_advance 0 = .ok (.aload_n 0, 1) ∧ 0 + 1 = 1 := ⟨by decide +kernel, rfl⟩
theorem zd_R_advance_1 : decode zb_R_advance 1 = .ok (.getfield 39, 3) ∧ 1 + 3 = 4 := ⟨by decide +kernel, rfl⟩
theorem zd_R_advance_4 : decode zb_R_advance 4 = .ok (.ifCond .ne 29, 3) ∧ ((4 : Nat) : Int) + (29) = ((33 : Nat) : Int) ∧ 4 + 3 = 7 := ⟨by decide +kernel, by decide, rfl⟩
theorem zd_R_advance_7 : decode zb_R_advance 7 = .ok (.aload_n 0, 1) ∧ 7 + 1 = 8 := ⟨by decide +kernel, rfl⟩
theorem zd_R_advance_8 : decode zb_R_advance 8 = .ok (.getfield 46, 3) ∧ 8 + 3 = 11 := ⟨by decide +kernel, rfl⟩
theorem zd_R_advance_11 : decode zb_R_advance 11 = .ok (.aload_n 0, 1) ∧ 11 + 1 = 12 := ⟨by decide +kernel, rfl⟩
theorem zd_R_advance_12 : decode zb_R_advance 12 = .ok (.getfield 18, 3) ∧ 12 + 3 = 15 := ⟨by decide +kernel, rfl⟩
theorem zd_R_advance_15 : decode zb_R_advance 15 = .ok (.getfield 172, 3) ∧ 15 + 3 = 18 := ⟨by decide +kernel, rfl⟩
theorem zd_R_advance_18 : decode zb_R_advance 18 = .ok (.iconst 1, 1) ∧ 18 + 1 = 19 := ⟨by decide +kernel, rfl⟩
theorem zd_R_advance_19 : decode zb_R_advance 19 = .ok (.isub, 1) ∧ 19 + 1 = 20 := ⟨by decide +kernel, rfl⟩
theorem zd_R_advance_20 : decode zb_R_advance 20 = .ok (.if_icmp .ge 13, 3) ∧ ((20 : Nat) : Int) + (13) = ((33 : Nat) : Int) ∧ 20 + 3 = 23 := ⟨by decide +kernel, by decide, rfl⟩
theorem zd_R_advance_23 : decode zb_R_advance 23 = .ok (.aload_n 0, 1) ∧ 23 + 1 = 24 := ⟨by decide +kernel, rfl⟩
theorem zd_R_advance_24 : decode zb_R_advance 24 = .ok (.dup, 1) ∧ 24 + 1 = 25 := ⟨by decide +kernel, rfl⟩
theorem zd_R_advance_25 : decode zb_R_advance 25 = .ok (.getfield 46, 3) ∧ 25 + 3 = 28 := ⟨by decide +kernel, rfl⟩
theorem zd_R_advance_28 : decode zb_R_advance 28 = .ok (.iconst 1, 1) ∧ 28 + 1 = 29 := ⟨by decide +kernel, rfl⟩
theorem zd_R_advance_29 : decode zb_R_advance 29 = .ok (.iadd, 1) ∧ 29 + 1 = 30 := ⟨by decide +kernel, rfl⟩
theorem zd_R_advance_30 : decode zb_R_advance 30 = .ok (.putfield 46, 3) ∧ 30 + 3 = 33 := ⟨by decide +kernel, rfl⟩
theorem zd_R_advance_33 : decode zb_R_advance 33 = .ok (.return_, 1) ∧ 33 + 1 = 34 := ⟨by decide +kernel, rfl⟩
theorem zd_R_refuseToken_0 : decode zb_R_refuseToken 0 = .ok (.aload_n 0, 1) ∧ 0 + 1 = 1 := ⟨by decide +kernel, rfl⟩
theorem zd_R_refuseToken_1 : decode zb_R_refuseToken 1 = .ok (.iconst 1, 1) ∧ 1 + 1 = 2 := ⟨by decide +kernel, rfl⟩
theorem zd_R_refuseToken_2 : decode zb_R_refuseToken 2 = .ok (.aload_n 0, 1) ∧ 2 + 1 = 3 := ⟨by decide +kernel, rfl⟩
theorem zd_R_refuseToken_3 : decode zb_R_refuseToken 3 = .ok (.getfield 18, 3) ∧ 3 + 3 = 6 := ⟨by decide +kernel, rfl⟩
theorem zd_R_refuseToken_6 : decode zb_R_refuseToken 6 = .ok (.getfield 170, 3) ∧ 6 + 3 = 9 := ⟨by decide +kernel, rfl⟩
theorem zd_R_refuseToken_9 : decode zb_R_refuseToken 9 = .ok (.aload_n 0, 1) ∧ 9 + 1 = 10 := ⟨by decide +kernel, rfl⟩
theorem zd_R_refuseToken_10 : decode zb_R_refuseToken 10 = .ok (.getfield 46, 3) ∧ 10 + 3 = 13 := ⟨by decide +kernel, rfl⟩
theorem zd_R_refuseToken_13 : decode zb_R_refuseToken 13 = .ok (.iaload, 1) ∧ 13 + 1 = 14 := ⟨by decide +kernel, rfl⟩
theorem zd_R_refuseToken_14 : decode zb_R_refuseToken 14 = .ok (.invokevirtual 64, 3) ∧ 14 + 3 = 17 := ⟨by decide +kernel, rfl⟩
theorem zd_R_refuseToken_17 : decode zb_R_refuseToken 17 = .ok (.return_, 1) ∧ 17 + 1 = 18 := ⟨by decide +kernel, rfl⟩
theorem zd_R_refuse_0 : decode zb_R_refuse 0 = .ok (.aload_n 0, 1) ∧ 0 + 1 = 1 := ⟨by decide +kernel, rfl⟩
theorem zd_R_refuse_1 : decode zb_R_refuse 1 = .ok (.getfield 39, 3) ∧ 1 + 3 = 4 := ⟨by decide +kernel, rfl⟩
theorem zd_R_refuse_4 : decode zb_R_refuse 4 = .ok (.ifCond .ne 13, 3) ∧ ((4 : Nat) : Int) + (13) = ((17 : Nat) : Int) ∧ 4 + 3 = 7 := ⟨by decide +kernel, by decide, rfl⟩
theorem zd_R_refuse_7 : decode zb_R_refuse 7 = .ok (.aload_n 0, 1) ∧ 7 + 1 = 8 := ⟨by decide +kernel, rfl⟩
theorem zd_R_refuse_8 : decode zb_R_refuse 8 = .ok (.iload_n 1, 1) ∧ 8 + 1 = 9 := ⟨by decide +kernel, rfl⟩
theorem zd_R_refuse_9 : decode zb_R_refuse 9 = .ok (.putfield 39, 3) ∧ 9 + 3 = 12 := ⟨by decide +kernel, rfl⟩
theorem zd_R_refuse_12 : decode zb_R_refuse 12 = .ok (.aload_n 0, 1) ∧ 12 + 1 = 13 := ⟨by decide +kernel, rfl⟩
theorem zd_R_refuse_13 : decode zb_R_refuse 13 = .ok (.iload_n 2, 1) ∧ 13 + 1 = 14 := ⟨by decide +kernel, rfl⟩
theorem zd_R_refuse_14 : decode zb_R_refuse 14 = .ok (.putfield 9, 3) ∧ 14 + 3 = 17 := ⟨by decide +kernel, rfl⟩
theorem zd_R_refuse_17 : decode zb_R_refuse 17 = .ok (.return_, 1) ∧ 17 + 1 = 18 := ⟨by decide +kernel, rfl⟩
theorem zd_S_init_0 : decode zb_S_init 0 = .ok (.aload_n 0, 1) ∧ 0 + 1 = 1 := ⟨by decide +kernel, rfl⟩
theorem zd_S_init_1 : decode zb_S_init 1 = .ok (.invokespecial 3, 3) ∧ 1 + 3 = 4 := ⟨by decide +kernel, rfl⟩
theorem zd_S_init_4 : decode zb_S_init 4 = .ok (.aload_n 0, 1) ∧ 4 + 1 = 5 := ⟨by decide +kernel, rfl⟩
theorem zd_S_init_5 : decode zb_S_init 5 = .ok (.bipush 16, 2) ∧ 5 + 2 = 7 := ⟨by decide +kernel, rfl⟩
theorem zd_S_init_7 : decode zb_S_init 7 = .ok (.newarray .int, 2) ∧ 7 + 2 = 9 := ⟨by decide +kernel, rfl⟩
theorem zd_S_init_9 : decode zb_S_init 9 = .ok (.putfield 9, 3) ∧ 9 + 3 = 12 := ⟨by decide +kernel, rfl⟩
theorem zd_S_init_12 : decode zb_S_init 12 = .ok (.aload_n 0, 1) ∧ 12 + 1 = 13 := ⟨by decide +kernel, rfl⟩
theorem zd_S_init_13 : decode zb_S_init 13 = .ok (.bipush 16, 2) ∧ 13 + 2 = 15 := ⟨by decide +kernel, rfl⟩
theorem zd_S_init_15 : decode zb_S_init 15 = .ok (.newarray .int, 2) ∧ 15 + 2 = 17 := ⟨by decide +kernel, rfl⟩
theorem zd_S_init_17 : decode zb_S_init 17 = .ok (.putfield 15, 3) ∧ 17 + 3 = 20 := ⟨by decide +kernel, rfl⟩
theorem zd_S_init_20 : decode zb_S_init 20 = .ok (.return_, 1) ∧ 20 + 1 = 21 := ⟨by decide +kernel, rfl⟩
theorem zd_T_init_0 : decode zb_T_init 0 = .ok (.aload_n 0, 1) ∧ 0 + 1 = 1 := ⟨by decide +kernel, rfl⟩
theorem zd_T_init_1 : decode zb_T_init 1 = .ok (.invokespecial 3, 3) ∧ 1 + 3 = 4 := ⟨by decide +kernel, rfl⟩
theorem zd_T_init_4 : decode zb_T_init 4 = .ok (.aload_n 0, 1) ∧ 4 + 1 = 5 := ⟨by decide +kernel, rfl⟩
theorem zd_T_init_5 : decode zb_T_init 5 = .ok (.sipush 576, 3) ∧ 5 + 3 = 8 := ⟨by decide +kernel, rfl⟩
theorem zd_T_init_8 : decode zb_T_init 8 = .ok (.newarray .int, 2) ∧ 8 + 2 = 10 := ⟨by decide +kernel, rfl⟩
theorem zd_T_init_10 : decode zb_T_init 10 = .ok (.putfield 9, 3) ∧ 10 + 3 = 13 := ⟨by decide +kernel, rfl⟩
theorem zd_T_init_13 : decode zb_T_init 13 = .ok (.aload_n 0, 1) ∧ 13 + 1 = 14 := ⟨by decide +kernel, rfl⟩
theorem zd_T_init_14 : decode zb_T_init 14 = .ok (.sipush 144, 3) ∧ 14 + 3 = 17 := ⟨by decide +kernel, rfl⟩
theorem zd_T_init_17 : decode zb_T_init 17 = .ok (.newarray .int, 2) ∧ 17 + 2 = 19 := ⟨by decide +kernel, rfl⟩
theorem zd_T_init_19 : decode zb_T_init 19 = .ok (.putfield 15, 3) ∧ 19 + 3 = 22 := ⟨by decide +kernel, rfl⟩
theorem zd_T_init_22 : decode zb_T_init 22 = .ok (.aload_n 0, 1) ∧ 22 + 1 = 23 := ⟨by decide +kernel, rfl⟩
theorem zd_T_init_23 : decode zb_T_init 23 = .ok (.bipush 60, 2) ∧ 23 + 2 = 25 := ⟨by decide +kernel, rfl⟩
theorem zd_T_init_25 : decode zb_T_init 25 = .ok (.newarray .int, 2) ∧ 25 + 2 = 27 := ⟨by decide +kernel, rfl⟩
theorem zd_T_init_27 : decode zb_T_init 27 = .ok (.putfield 18, 3) ∧ 27 + 3 = 30 := ⟨by decide +kernel, rfl⟩
theorem zd_T_init_30 : decode zb_T_init 30 = .ok (.aload_n 0, 1) ∧ 30 + 1 = 31 := ⟨by decide +kernel, rfl⟩
theorem zd_T_init_31 : decode zb_T_init 31 = .ok (.bipush 60, 2) ∧ 31 + 2 = 33 := ⟨by decide +kernel, rfl⟩
theorem zd_T_init_33 : decode zb_T_init 33 = .ok (.newarray .int, 2) ∧ 33 + 2 = 35 := ⟨by decide +kernel, rfl⟩
theorem zd_T_init_35 : decode zb_T_init 35 = .ok (.putfield 21, 3) ∧ 35 + 3 = 38 := ⟨by decide +kernel, rfl⟩
theorem zd_T_init_38 : decode zb_T_init 38 = .ok (.aload_n 0, 1) ∧ 38 + 1 = 39 := ⟨by decide +kernel, rfl⟩
theorem zd_T_init_39 : decode zb_T_init 39 = .ok (.bipush 60, 2) ∧ 39 + 2 = 41 := ⟨by decide +kernel, rfl⟩
theorem zd_T_init_41 : decode zb_T_init 41 = .ok (.newarray .int, 2) ∧ 41 + 2 = 43 := ⟨by decide +kernel, rfl⟩
theorem zd_T_init_43 : decode zb_T_init 43 = .ok (.putfield 24, 3) ∧ 43 + 3 = 46 := ⟨by decide +kernel, rfl⟩
theorem zd_T_init_46 : decode zb_T_init 46 = .ok (.aload_n 0, 1) ∧ 46 + 1 = 47 := ⟨by decide +kernel, rfl⟩
theorem zd_T_init_47 : decode zb_T_init 47 = .ok (.bipush 60, 2) ∧ 47 + 2 = 49 := ⟨by decide +kernel, rfl⟩
theorem zd_T_init_49 : decode zb_T_init 49 = .ok (.newarray .int, 2) ∧ 49 + 2 = 51 := ⟨by decide +kernel, rfl⟩
theorem zd_T_init_51 : decode zb_T_init 51 = .ok (.putfield 27, 3) ∧ 51 + 3 = 54 := ⟨by decide +kernel, rfl⟩
theorem zd_T_init_54 : decode zb_T_init 54 = .ok (.aload_n 0, 1) ∧ 54 + 1 = 55 := ⟨by decide +kernel, rfl⟩
theorem zd_T_init_55 : decode zb_T_init 55 = .ok (.bipush 60, 2) ∧ 55 + 2 = 57 := ⟨by decide +kernel, rfl⟩
theorem zd_T_init_57 : decode zb_T_init 57 = .ok (.newarray .int, 2) ∧ 57 + 2 = 59 := ⟨by decide +kernel, rfl⟩
theorem zd_T_init_59 : decode zb_T_init 59 = .ok (.putfield 30, 3) ∧ 59 + 3 = 62 := ⟨by decide +kernel, rfl⟩
theorem zd_T_init_62 : decode zb_T_init 62 = .ok (.aload_n 0, 1) ∧ 62 + 1 = 63 := ⟨by decide +kernel, rfl⟩
theorem zd_T_init_63 : decode zb_T_init 63 = .ok (.iconst 4, 1) ∧ 63 + 1 = 64 := ⟨by decide +kernel, rfl⟩
theorem zd_T_init_64 : decode zb_T_init 64 = .ok (.newarray .int, 2) ∧ 64 + 2 = 66 := ⟨by decide +kernel, rfl⟩
theorem zd_T_init_66 : decode zb_T_init 66 = .ok (.putfield 33, 3) ∧ 66 + 3 = 69 := ⟨by decide +kernel, rfl⟩
theorem zd_T_init_69 : decode zb_T_init 69 = .ok (.aload_n 0, 1) ∧ 69 + 1 = 70 := ⟨by decide +kernel, rfl⟩
theorem zd_T_init_70 : decode zb_T_init 70 = .ok (.bipush 32, 2) ∧ 70 + 2 = 72 := ⟨by decide +kernel, rfl⟩
theorem zd_T_init_72 : decode zb_T_init 72 = .ok (.newarray .int, 2) ∧ 72 + 2 = 74 := ⟨by decide +kernel, rfl⟩
theorem zd_T_init_74 : decode zb_T_init 74 = .ok (.putfield 36, 3) ∧ 74 + 3 = 77 := ⟨by decide +kernel, rfl⟩
theorem zd_T_init_77 : decode zb_T_init 77 = .ok (.aload_n 0, 1) ∧ 77 + 1 = 78 := ⟨by decide +kernel, rfl⟩
theorem zd_T_init_78 : decode zb_T_init 78 = .ok (.bipush 8, 2) ∧ 78 + 2 = 80 := ⟨by decide +kernel, rfl⟩
theorem zd_T_init_80 : decode zb_T_init 80 = .ok (.newarray .int, 2) ∧ 80 + 2 = 82 := ⟨by decide +kernel, rfl⟩
theorem zd_T_init_82 : decode zb_T_init 82 = .ok (.putfield 39, 3) ∧ 82 + 3 = 85 := ⟨by decide +kernel, rfl⟩
theorem zd_T_init_85 : decode zb_T_init 85 = .ok (.aload_n 0, 1) ∧ 85 + 1 = 86 := ⟨by decide +kernel, rfl⟩
theorem zd_T_init_86 : decode zb_T_init 86 = .ok (.sipush 533, 3) ∧ 86 + 3 = 89 := ⟨by decide +kernel, rfl⟩
theorem zd_T_init_89 : decode zb_T_init 89 = .ok (.newarray .int, 2) ∧ 89 + 2 = 91 := ⟨by decide +kernel, rfl⟩
theorem zd_T_init_91 : decode zb_T_init 91 = .ok (.putfield 42, 3) ∧ 91 + 3 = 94 := ⟨by decide +kernel, rfl⟩
theorem zd_T_init_94 : decode zb_T_init 94 = .ok (.aload_n 0, 1) ∧ 94 + 1 = 95 := ⟨by decide +kernel, rfl⟩
theorem zd_T_init_95 : decode zb_T_init 95 = .ok (.bipush 6, 2) ∧ 95 + 2 = 97 := ⟨by decide +kernel, rfl⟩
theorem zd_T_init_97 : decode zb_T_init 97 = .ok (.newarray .int, 2) ∧ 97 + 2 = 99 := ⟨by decide +kernel, rfl⟩
theorem zd_T_init_99 : decode zb_T_init 99 = .ok (.putfield 45, 3) ∧ 99 + 3 = 102 := ⟨by decide +kernel, rfl⟩
theorem zd_T_init_102 : decode zb_T_init 102 = .ok (.return_, 1) ∧ 102 + 1 = 103 := ⟨by decide +kernel, rfl⟩
theorem zd_T_clear_0 : decode zb_T_clear 0 = .ok (.aload_n 0, 1) ∧ 0 + 1 = 1 := ⟨by decide +kernel, rfl⟩
theorem zd_T_clear_1 : decode zb_T_clear 1 = .ok (.iconst 0, 1) ∧ 1 + 1 = 2 := ⟨by decide +kernel, rfl⟩
theorem zd_T_clear_2 : decode zb_T_clear 2 = .ok (.putfield 48, 3) ∧ 2 + 3 = 5 := ⟨by decide +kernel, rfl⟩
theorem zd_T_clear_5 : decode zb_T_clear 5 = .ok (.aload_n 0, 1) ∧ 5 + 1 = 6 := ⟨by decide +kernel, rfl⟩
theorem zd_T_clear_6 : decode zb_T_clear 6 = .ok (.iconst 0, 1) ∧ 6 + 1 = 7 := ⟨by decide +kernel, rfl⟩
theorem zd_T_clear_7 : decode zb_T_clear 7 = .ok (.putfield 52, 3) ∧ 7 + 3 = 10 := ⟨by decide +kernel, rfl⟩
theorem zd_T_clear_10 : decode zb_T_clear 10 = .ok (.aload_n 0, 1) ∧ 10 + 1 = 11 := ⟨by decide +kernel, rfl⟩
theorem zd_T_clear_11 : decode zb_T_clear 11 = .ok (.iconst 0, 1) ∧ 11 + 1 = 12 := ⟨by decide +kernel, rfl⟩
theorem zd_T_clear_12 : decode zb_T_clear 12 = .ok (.putfield 55, 3) ∧ 12 + 3 = 15 := ⟨by decide +kernel, rfl⟩
theorem zd_T_clear_15 : decode zb_T_clear 15 = .ok (.aload_n 0, 1) ∧ 15 + 1 = 16 := ⟨by decide +kernel, rfl⟩
theorem zd_T_clear_16 : decode zb_T_clear 16 = .ok (.iconst 0, 1) ∧ 16 + 1 = 17 := ⟨by decide +kernel, rfl⟩
theorem zd_T_clear_17 : decode zb_T_clear 17 = .ok (.putfield 58, 3) ∧ 17 + 3 = 20 := ⟨by decide +kernel, rfl⟩
theorem zd_T_clear_20 : decode zb_T_clear 20 = .ok (.aload_n 0, 1) ∧ 20 + 1 = 21 := ⟨by decide +kernel, rfl⟩
theorem zd_T_clear_21 : decode zb_T_clear 21 = .ok (.getfield 33, 3) ∧ 21 + 3 = 24 := ⟨by decide +kernel, rfl⟩
theorem zd_T_clear_24 : decode zb_T_clear 24 = .ok (.iconst 0, 1) ∧ 24 + 1 = 25 := ⟨by decide +kernel, rfl⟩
theorem zd_T_clear_25 : decode zb_T_clear 25 = .ok (.invokestatic 61, 3) ∧ 25 + 3 = 28 := ⟨by decide +kernel, rfl⟩
theorem zd_T_clear_28 : decode zb_T_clear 28 = .ok (.aload_n 0, 1) ∧ 28 + 1 = 29 := ⟨by decide +kernel, rfl⟩
theorem zd_T_clear_29 : decode zb_T_clear 29 = .ok (.getfield 15, 3) ∧ 29 + 3 = 32 := ⟨by decide +kernel, rfl⟩
theorem zd_T_clear_32 : decode zb_T_clear 32 = .ok (.iconst (-1), 1) ∧ 32 + 1 = 33 := ⟨by decide +kernel, rfl⟩
theorem zd_T_clear_33 : decode zb_T_clear 33 = .ok (.invokestatic 61, 3) ∧ 33 + 3 = 36 := ⟨by decide +kernel, rfl⟩
theorem zd_T_clear_36 : decode zb_T_clear 36 = .ok (.return_, 1) ∧ 36 + 1 = 37 := ⟨by decide +kernel, rfl⟩
theorem zd_T_resize_0 : decode zb_T_resize 0 = .ok (.aload_n 0, 1) ∧ 0 + 1 = 1 := ⟨by decide +kernel, rfl⟩
theorem zd_T_resize_1 : decode zb_T_resize 1 = .ok (.iload_n 1, 1) ∧ 1 + 1 = 2 := ⟨by decide +kernel, rfl⟩
theorem zd_T_resize_2 : decode zb_T_resize 2 = .ok (.putfield 48, 3) ∧ 2 + 3 = 5 := ⟨by decide +kernel, rfl⟩
theorem zd_T_resize_5 : decode zb_T_resize 5 = .ok (.aload_n 0, 1) ∧ 5 + 1 = 6 := ⟨by decide +kernel, rfl⟩
theorem zd_T_resize_6 : decode zb_T_resize 6 = .ok (.iload_n 2, 1) ∧ 6 + 1 = 7 := ⟨by decide +kernel, rfl⟩
theorem zd_T_resize_7 : decode zb_T_resize 7 = .ok (.putfield 52, 3) ∧ 7 + 3 = 10 := ⟨by decide +kernel, rfl⟩
theorem zd_T_resize_10 : decode zb_T_resize 10 = .ok (.iconst 0, 1) ∧ 10 + 1 = 11 := ⟨by decide +kernel, rfl⟩
theorem zd_T_resize_11 : decode zb_T_resize 11 = .ok (.istore_n 3, 1) ∧ 11 + 1 = 12 := ⟨by decide +kernel, rfl⟩
theorem zd_T_resize_12 : decode zb_T_resize 12 = .ok (.iload_n 3, 1) ∧ 12 + 1 = 13 := ⟨by decide +kernel, rfl⟩
theorem zd_T_resize_13 : decode zb_T_resize 13 = .ok (.aload_n 0, 1) ∧ 13 + 1 = 14 := ⟨by decide +kernel, rfl⟩
theorem zd_T_resize_14 : decode zb_T_resize 14 = .ok (.getfield 52, 3) ∧ 14 + 3 = 17 := ⟨by decide +kernel, rfl⟩
theorem zd_T_resize_17 : decode zb_T_resize 17 = .ok (.if_icmp .ge 156, 3) ∧ ((17 : Nat) : Int) + (156) = ((173 : Nat) : Int) ∧ 17 + 3 = 20 := ⟨by decide +kernel, by decide, rfl⟩
theorem zd_T_resize_20 : decode zb_T_resize 20 = .ok (.iconst 0, 1) ∧ 20 + 1 = 21 := ⟨by decide +kernel, rfl⟩
theorem zd_T_resize_21 : decode zb_T_resize 21 = .ok (.istore 4, 2) ∧ 21 + 2 = 23 := ⟨by decide +kernel, rfl⟩
theorem zd_T_resize_23 : decode zb_T_resize 23 = .ok (.iload 4, 2) ∧ 23 + 2 = 25 := ⟨by decide +kernel, rfl⟩
theorem zd_T_resize_25 : decode zb_T_resize 25 = .ok (.aload_n 0, 1) ∧ 25 + 1 = 26 := ⟨by decide +kernel, rfl⟩
theorem zd_T_resize_26 : decode zb_T_resize 26 = .ok (.getfield 48, 3) ∧ 26 + 3 = 29 := ⟨by decide +kernel, rfl⟩
theorem zd_T_resize_29 : decode zb_T_resize 29 = .ok (.if_icmp .ge 138, 3) ∧ ((29 : Nat) : Int) + (138) = ((167 : Nat) : Int) ∧ 29 + 3 = 32 := ⟨by decide +kernel, by decide, rfl⟩
theorem zd_T_resize_32 : decode zb_T_resize 32 = .ok (.iload_n 3, 1) ∧ 32 + 1 = 33 := ⟨by decide +kernel, rfl⟩
theorem zd_T_resize_33 : decode zb_T_resize 33 = .ok (.aload_n 0, 1) ∧ 33 + 1 = 34 := ⟨by decide +kernel, rfl⟩
theorem zd_T_resize_34 : decode zb_T_resize 34 = .ok (.getfield 48, 3) ∧ 34 + 3 = 37 := ⟨by decide +kernel, rfl⟩
theorem zd_T_resize_37 : decode zb_T_resize 37 = .ok (.imul, 1) ∧ 37 + 1 = 38 := ⟨by decide +kernel, rfl⟩
theorem zd_T_resize_38 : decode zb_T_resize 38 = .ok (.iload 4, 2) ∧ 38 + 2 = 40 := ⟨by decide +kernel, rfl⟩
theorem zd_T_resize_40 : decode zb_T_resize 40 = .ok (.iadd, 1) ∧ 40 + 1 = 41 := ⟨by decide +kernel, rfl⟩
theorem zd_T_resize_41 : decode zb_T_resize 41 = .ok (.iconst 4, 1) ∧ 41 + 1 = 42 := ⟨by decide +kernel, rfl⟩
theorem zd_T_resize_42 : decode zb_T_resize 42 = .ok (.imul, 1) ∧ 42 + 1 = 43 := ⟨by decide +kernel, rfl⟩
theorem zd_T_resize_43 : decode zb_T_resize 43 = .ok (.istore 5, 2) ∧ 43 + 2 = 45 := ⟨by decide +kernel, rfl⟩
theorem zd_T_resize_45 : decode zb_T_resize 45 = .ok (.aload_n 0, 1) ∧ 45 + 1 = 46 := ⟨by decide +kernel, rfl⟩
theorem zd_T_resize_46 : decode zb_T_resize 46 = .ok (.getfield 9, 3) ∧ 46 + 3 = 49 := ⟨by decide +kernel, rfl⟩
theorem zd_T_resize_49 : decode zb_T_resize 49 = .ok (.iload 5, 2) ∧ 49 + 2 = 51 := ⟨by decide +kernel, rfl⟩
theorem zd_T_resize_51 : decode zb_T_resize 51 = .ok (.iconst 0, 1) ∧ 51 + 1 = 52 := ⟨by decide +kernel, rfl⟩
theorem zd_T_resize_52 : decode zb_T_resize 52 = .ok (.iadd, 1) ∧ 52 + 1 = 53 := ⟨by decide +kernel, rfl⟩
theorem zd_T_resize_53 : decode zb_T_resize 53 = .ok (.iload_n 3, 1) ∧ 53 + 1 = 54 := ⟨by decide +kernel, rfl⟩
theorem zd_T_resize_54 : decode zb_T_resize 54 = .ok (.ifCond .le 17, 3) ∧ ((54 : Nat) : Int) + (17) = ((71 : Nat) : Int) ∧ 54 + 3 = 57 := ⟨by decide +kernel, by decide, rfl⟩
theorem zd_T_resize_57 : decode zb_T_resize 57 = .ok (.iload 5, 2) ∧ 57 + 2 = 59 := ⟨by decide +kernel, rfl⟩
theorem zd_T_resize_59 : decode zb_T_resize 59 = .ok (.aload_n 0, 1) ∧ 59 + 1 = 60 := ⟨by decide +kernel, rfl⟩
theorem zd_T_resize_60 : decode zb_T_resize 60 = .ok (.getfield 48, 3) ∧ 60 + 3 = 63 := ⟨by decide +kernel, rfl⟩
theorem zd_T_resize_63 : decode zb_T_resize 63 = .ok (.iconst 4, 1) ∧ 63 + 1 = 64 := ⟨by decide +kernel, rfl⟩
theorem zd_T_resize_64 : decode zb_T_resize 64 = .ok (.imul, 1) ∧ 64 + 1 = 65 := ⟨by decide +kernel, rfl⟩
theorem zd_T_resize_65 : decode zb_T_resize 65 = .ok (.isub, 1) ∧ 65 + 1 = 66 := ⟨by decide +kernel, rfl⟩
theorem zd_T_resize_66 : decode zb_T_resize 66 = .ok (.iconst 0, 1) ∧ 66 + 1 = 67 := ⟨by decide +kernel, rfl⟩
theorem zd_T_resize_67 : decode zb_T_resize 67 = .ok (.iadd, 1) ∧ 67 + 1 = 68 := ⟨by decide +kernel, rfl⟩
theorem zd_T_resize_68 : decode zb_T_resize 68 = .ok (.goto 4, 3) ∧ ((68 : Nat) : Int) + (4) = ((72 : Nat) : Int) ∧ 68 + 3 = 71 := ⟨by decide +kernel, by decide, rfl⟩
theorem zd_T_resize_71 : decode zb_T_resize 71 = .ok (.iconst (-1), 1) ∧ 71 + 1 = 72 := ⟨by decide +kernel, rfl⟩
theorem zd_T_resize_72 : decode zb_T_resize 72 = .ok (.iastore, 1) ∧ 72 + 1 = 73 := ⟨by decide +kernel, rfl⟩
theorem zd_T_resize_73 : decode zb_T_resize 73 = .ok (.aload_n 0, 1) ∧ 73 + 1 = 74 := ⟨by decide +kernel, rfl⟩
theorem zd_T_resize_74 : decode zb_T_resize 74 = .ok (.getfield 9, 3) ∧ 74 + 3 = 77 := ⟨by decide +kernel, rfl⟩
theorem zd_T_resize_77 : decode zb_T_resize 77 = .ok (.iload 5, 2) ∧ 77 + 2 = 79 := ⟨by decide +kernel, rfl⟩
theorem zd_T_resize_79 : decode zb_T_resize 79 = .ok (.iconst 1, 1) ∧ 79 + 1 = 80 := ⟨by decide +kernel, rfl⟩
theorem zd_T_resize_80 : decode zb_T_resize 80 = .ok (.iadd, 1) ∧ 80 + 1 = 81 := ⟨by decide +kernel, rfl⟩
theorem zd_T_resize_81 : decode zb_T_resize 81 = .ok (.iload 4, 2) ∧ 81 + 2 = 83 := ⟨by decide +kernel, rfl⟩
theorem zd_T_resize_83 : decode zb_T_resize 83 = .ok (.iconst 1, 1) ∧ 83 + 1 = 84 := ⟨by decide +kernel, rfl⟩
theorem zd_T_resize_84 : decode zb_T_resize 84 = .ok (.iadd, 1) ∧ 84 + 1 = 85 := ⟨by decide +kernel, rfl⟩
theorem zd_T_resize_85 : decode zb_T_resize 85 = .ok (.aload_n 0, 1) ∧ 85 + 1 = 86 := ⟨by decide +kernel, rfl⟩
theorem zd_T_resize_86 : decode zb_T_resize 86 = .ok (.getfield 48, 3) ∧ 86 + 3 = 89 := ⟨by decide +kernel, rfl⟩
theorem zd_T_resize_89 : decode zb_T_resize 89 = .ok (.if_icmp .ge 12, 3) ∧ ((89 : Nat) : Int) + (12) = ((101 : Nat) : Int) ∧ 89 + 3 = 92 := ⟨by decide +kernel, by decide, rfl⟩
theorem zd_T_resize_92 : decode zb_T_resize 92 = .ok (.iload 5, 2) ∧ 92 + 2 = 94 := ⟨by decide +kernel, rfl⟩
theorem zd_T_resize_94 : decode zb_T_resize 94 = .ok (.iconst 4, 1) ∧ 94 + 1 = 95 := ⟨by decide +kernel, rfl⟩
theorem zd_T_resize_95 : decode zb_T_resize 95 = .ok (.iadd, 1) ∧ 95 + 1 = 96 := ⟨by decide +kernel, rfl⟩
theorem zd_T_resize_96 : decode zb_T_resize 96 = .ok (.iconst 1, 1) ∧ 96 + 1 = 97 := ⟨by decide +kernel, rfl⟩
theorem zd_T_resize_97 : decode zb_T_resize 97 = .ok (.iadd, 1) ∧ 97 + 1 = 98 := ⟨by decide +kernel, rfl⟩
theorem zd_T_resize_98 : decode zb_T_resize 98 = .ok (.goto 4, 3) ∧ ((98 : Nat) : Int) + (4) = ((102 : Nat) : Int) ∧ 98 + 3 = 101 := ⟨by decide +kernel, by decide, rfl⟩
theorem zd_T_resize_101 : decode zb_T_resize 101 = .ok (.iconst (-1), 1) ∧ 101 + 1 = 102 := ⟨by decide +kernel, rfl⟩
theorem zd_T_resize_102 : decode zb_T_resize 102 = .ok (.iastore, 1) ∧ 102 + 1 = 103 := ⟨by decide +kernel, rfl⟩
theorem zd_T_resize_103 : decode zb_T_resize 103 = .ok (.aload_n 0, 1) ∧ 103 + 1 = 104 := ⟨by decide +kernel, rfl⟩
theorem zd_T_resize_104 : decode zb_T_resize 104 = .ok (.getfield 9, 3) ∧ 104 + 3 = 107 := ⟨by decide +kernel, rfl⟩
theorem zd_T_resize_107 : decode zb_T_resize 107 = .ok (.iload 5, 2) ∧ 107 + 2 = 109 := ⟨by decide +kernel, rfl⟩
theorem zd_T_resize_109 : decode zb_T_resize 109 = .ok (.iconst 2, 1) ∧ 109 + 1 = 110 := ⟨by decide +kernel, rfl⟩
theorem zd_T_resize_110 : decode zb_T_resize 110 = .ok (.iadd, 1) ∧ 110 + 1 = 111 := ⟨by decide +kernel, rfl⟩
theorem zd_T_resize_111 : decode zb_T_resize 111 = .ok (.iload_n 3, 1) ∧ 111 + 1 = 112 := ⟨by decide +kernel, rfl⟩
theorem zd_T_resize_112 : decode zb_T_resize 112 = .ok (.iconst 1, 1) ∧ 112 + 1 = 113 := ⟨by decide +kernel, rfl⟩
theorem zd_T_resize_113 : decode zb_T_resize 113 = .ok (.iadd, 1) ∧ 113 + 1 = 114 := ⟨by decide +kernel, rfl⟩
theorem zd_T_resize_114 : decode zb_T_resize 114 = .ok (.aload_n 0, 1) ∧ 114 + 1 = 115 := ⟨by decide +kernel, rfl⟩
theorem zd_T_resize_115 : decode zb_T_resize 115 = .ok (.getfield 52, 3) ∧ 115 + 3 = 118 := ⟨by decide +kernel, rfl⟩
theorem zd_T_resize_118 : decode zb_T_resize 118 = .ok (.if_icmp .ge 17, 3) ∧ ((118 : Nat) : Int) + (17) = ((135 : Nat) : Int) ∧ 118 + 3 = 121 := ⟨by decide +kernel, by decide, rfl⟩
theorem zd_T_resize_121 : decode zb_T_resize 121 = .ok (.iload 5, 2) ∧ 121 + 2 = 123 := ⟨by decide +kernel, rfl⟩
theorem zd_T_resize_123 : decode zb_T_resize 123 = .ok (.aload_n 0, 1) ∧ 123 + 1 = 124 := ⟨by decide +kernel, rfl⟩
theorem zd_T_resize_124 : decode zb_T_resize 124 = .ok (.getfield 48, 3) ∧ 124 + 3 = 127 := ⟨by decide +kernel, rfl⟩
theorem zd_T_resize_127 : decode zb_T_resize 127 = .ok (.iconst 4, 1) ∧ 127 + 1 = 128 := ⟨by decide +kernel, rfl⟩
theorem zd_T_resize_128 : decode zb_T_resize 128 = .ok (.imul, 1) ∧ 128 + 1 = 129 := ⟨by decide +kernel, rfl⟩
theorem zd_T_resize_129 : decode zb_T_resize 129 = .ok (.iadd, 1) ∧ 129 + 1 = 130 := ⟨by decide +kernel, rfl⟩
theorem zd_T_resize_130 : decode zb_T_resize 130 = .ok (.iconst 2, 1) ∧ 130 + 1 = 131 := ⟨by decide +kernel, rfl⟩
theorem zd_T_resize_131 : decode zb_T_resize 131 = .ok (.iadd, 1) ∧ 131 + 1 = 132 := ⟨by decide +kernel, rfl⟩
theorem zd_T_resize_132 : decode zb_T_resize 132 = .ok (.goto 4, 3) ∧ ((132 : Nat) : Int) + (4) = ((136 : Nat) : Int) ∧ 132 + 3 = 135 := ⟨by decide +kernel, by decide, rfl⟩
theorem zd_T_resize_135 : decode zb_T_resize 135 = .ok (.iconst (-1), 1) ∧ 135 + 1 = 136 := ⟨by decide +kernel, rfl⟩
theorem zd_T_resize_136 : decode zb_T_resize 136 = .ok (.iastore, 1) ∧ 136 + 1 = 137 := ⟨by decide +kernel, rfl⟩
theorem zd_T_resize_137 : decode zb_T_resize 137 = .ok (.aload_n 0, 1) ∧ 137 + 1 = 138 := ⟨by decide +kernel, rfl⟩
theorem zd_T_resize_138 : decode zb_T_resize 138 = .ok (.getfield 9, 3) ∧ 138 + 3 = 141 := ⟨by decide +kernel, rfl⟩
theorem zd_T_resize_141 : decode zb_T_resize 141 = .ok (.iload 5, 2) ∧ 141 + 2 = 143 := ⟨by decide +kernel, rfl⟩
theorem zd_T_resize_143 : decode zb_T_resize 143 = .ok (.iconst 3, 1) ∧ 143 + 1 = 144 := ⟨by decide +kernel, rfl⟩
theorem zd_T_resize_144 : decode zb_T_resize 144 = .ok (.iadd, 1) ∧ 144 + 1 = 145 := ⟨by decide +kernel, rfl⟩
theorem zd_T_resize_145 : decode zb_T_resize 145 = .ok (.iload 4, 2) ∧ 145 + 2 = 147 := ⟨by decide +kernel, rfl⟩
theorem zd_T_resize_147 : decode zb_T_resize 147 = .ok (.ifCond .le 12, 3) ∧ ((147 : Nat) : Int) + (12) = ((159 : Nat) : Int) ∧ 147 + 3 = 150 := ⟨by decide +kernel, by decide, rfl⟩
theorem zd_T_resize_150 : decode zb_T_resize 150 = .ok (.iload 5, 2) ∧ 150 + 2 = 152 := ⟨by decide +kernel, rfl⟩
theorem zd_T_resize_152 : decode zb_T_resize 152 = .ok (.iconst 4, 1) ∧ 152 + 1 = 153 := ⟨by decide +kernel, rfl⟩
theorem zd_T_resize_153 : decode zb_T_resize 153 = .ok (.isub, 1) ∧ 153 + 1 = 154 := ⟨by decide +kernel, rfl⟩
theorem zd_T_resize_154 : decode zb_T_resize 154 = .ok (.iconst 3, 1) ∧ 154 + 1 = 155 := ⟨by decide +kernel, rfl⟩
theorem zd_T_resize_155 : decode zb_T_resize 155 = .ok (.iadd, 1) ∧ 155 + 1 = 156 := ⟨by decide +kernel, rfl⟩
theorem zd_T_resize_156 : decode zb_T_resize 156 = .ok (.goto 4, 3) ∧ ((156 : Nat) : Int) + (4) = ((160 : Nat) : Int) ∧ 156 + 3 = 159 := ⟨by decide +kernel, by decide, rfl⟩
theorem zd_T_resize_159 : decode zb_T_resize 159 = .ok (.iconst (-1), 1) ∧ 159 + 1 = 160 := ⟨by decide +kernel, rfl⟩
theorem zd_T_resize_160 : decode zb_T_resize 160 = .ok (.iastore, 1) ∧ 160 + 1 = 161 := ⟨by decide +kernel, rfl⟩
theorem zd_T_resize_161 : decode zb_T_resize 161 = .ok (.iinc 4 1, 3) ∧ 161 + 3 = 164 := ⟨by decide +kernel, rfl⟩
theorem zd_T_resize_164 : decode zb_T_resize 164 = .ok (.goto (-141), 3) ∧ ((164 : Nat) : Int) + (-141) = ((23 : Nat) : Int) ∧ 164 + 3 = 167 := ⟨by decide +kernel, by decide, rfl⟩
theorem zd_T_resize_167 : decode zb_T_resize 167 = .ok (.iinc 3 1, 3) ∧ 167 + 3 = 170 := ⟨by decide +kernel, rfl⟩
theorem zd_T_resize_170 : decode zb_T_resize 170 = .ok (.goto (-158), 3) ∧ ((170 : Nat) : Int) + (-158) = ((12 : Nat) : Int) ∧ 170 + 3 = 173 := ⟨by decide +kernel, by decide, rfl⟩
theorem zd_T_resize_173 : decode zb_T_resize 173 = .ok (.return_, 1) ∧ 173 + 1 = 174 := ⟨by decide +kernel, rfl⟩
theorem zd_T_add_0 : decode zb_T_add 0 = .ok (.iload_n 1, 1) ∧ 0 + 1 = 1 := ⟨by decide +kernel, rfl⟩
theorem zd_T_add_1 : decode zb_T_add 1 = .ok (.invokestatic 67, 3) ∧ 1 + 3 = 4 := ⟨by decide +kernel, rfl⟩
theorem zd_T_add_4 : decode zb_T_add 4 = .ok (.istore 5, 2) ∧ 4 + 2 = 6 := ⟨by decide +kernel, rfl⟩
theorem zd_T_add_6 : decode zb_T_add 6 = .ok (.aload_n 0, 1) ∧ 6 + 1 = 7 := ⟨by decide +kernel, rfl⟩
theorem zd_T_add_7 : decode zb_T_add 7 = .ok (.getfield 55, 3) ∧ 7 + 3 = 10 := ⟨by decide +kernel, rfl⟩
theorem zd_T_add_10 : decode zb_T_add 10 = .ok (.bipush 59, 2) ∧ 10 + 2 = 12 := ⟨by decide +kernel, rfl⟩
theorem zd_T_add_12 : decode zb_T_add 12 = .ok (.if_icmp .ge 12, 3) ∧ ((12 : Nat) : Int) + (12) = ((24 : Nat) : Int) ∧ 12 + 3 = 15 := ⟨by decide +kernel, by decide, rfl⟩
theorem zd_T_add_15 : decode zb_T_add 15 = .ok (.aload_n 0, 1) ∧ 15 + 1 = 16 := ⟨by decide +kernel, rfl⟩
theorem zd_T_add_16 : decode zb_T_add 16 = .ok (.iload 5, 2) ∧ 16 + 2 = 18 := ⟨by decide +kernel, rfl⟩
theorem zd_T_add_18 : decode zb_T_add 18 = .ok (.invokevirtual 71, 3) ∧ 18 + 3 = 21 := ⟨by decide +kernel, rfl⟩
theorem zd_T_add_21 : decode zb_T_add 21 = .ok (.ifCond .eq 4, 3) ∧ ((21 : Nat) : Int) + (4) = ((25 : Nat) : Int) ∧ 21 + 3 = 24 := ⟨by decide +kernel, by decide, rfl⟩
theorem zd_T_add_24 : decode zb_T_add 24 = .ok (.return_, 1) ∧ 24 + 1 = 25 := ⟨by decide +kernel, rfl⟩
theorem zd_T_add_25 : decode zb_T_add 25 = .ok (.aload_n 0, 1) ∧ 25 + 1 = 26 := ⟨by decide +kernel, rfl⟩
theorem zd_T_add_26 : decode zb_T_add 26 = .ok (.getfield 21, 3) ∧ 26 + 3 = 29 := ⟨by decide +kernel, rfl⟩
theorem zd_T_add_29 : decode zb_T_add 29 = .ok (.aload_n 0, 1) ∧ 29 + 1 = 30 := ⟨by decide +kernel, rfl⟩
theorem zd_T_add_30 : decode zb_T_add 30 = .ok (.getfield 55, 3) ∧ 30 + 3 = 33 := ⟨by decide +kernel, rfl⟩
theorem zd_T_add_33 : decode zb_T_add 33 = .ok (.iload_n 1, 1) ∧ 33 + 1 = 34 := ⟨by decide +kernel, rfl⟩
theorem zd_T_add_34 : decode zb_T_add 34 = .ok (.iastore, 1) ∧ 34 + 1 = 35 := ⟨by decide +kernel, rfl⟩
theorem zd_T_add_35 : decode zb_T_add 35 = .ok (.aload_n 0, 1) ∧ 35 + 1 = 36 := ⟨by decide +kernel, rfl⟩
theorem zd_T_add_36 : decode zb_T_add 36 = .ok (.getfield 27, 3) ∧ 36 + 3 = 39 := ⟨by decide +kernel, rfl⟩
theorem zd_T_add_39 : decode zb_T_add 39 = .ok (.aload_n 0, 1) ∧ 39 + 1 = 40 := ⟨by decide +kernel, rfl⟩
theorem zd_T_add_40 : decode zb_T_add 40 = .ok (.getfield 55, 3) ∧ 40 + 3 = 43 := ⟨by decide +kernel, rfl⟩
theorem zd_T_add_43 : decode zb_T_add 43 = .ok (.iload_n 2, 1) ∧ 43 + 1 = 44 := ⟨by decide +kernel, rfl⟩
theorem zd_T_add_44 : decode zb_T_add 44 = .ok (.iastore, 1) ∧ 44 + 1 = 45 := ⟨by decide +kernel, rfl⟩
theorem zd_T_add_45 : decode zb_T_add 45 = .ok (.aload_n 0, 1) ∧ 45 + 1 = 46 := ⟨by decide +kernel, rfl⟩
theorem zd_T_add_46 : decode zb_T_add 46 = .ok (.getfield 30, 3) ∧ 46 + 3 = 49 := ⟨by decide +kernel, rfl⟩
theorem zd_T_add_49 : decode zb_T_add 49 = .ok (.aload_n 0, 1) ∧ 49 + 1 = 50 := ⟨by decide +kernel, rfl⟩
theorem zd_T_add_50 : decode zb_T_add 50 = .ok (.getfield 55, 3) ∧ 50 + 3 = 53 := ⟨by decide +kernel, rfl⟩
theorem zd_T_add_53 : decode zb_T_add 53 = .ok (.iload_n 3, 1) ∧ 53 + 1 = 54 := ⟨by decide +kernel, rfl⟩
theorem zd_T_add_54 : decode zb_T_add 54 = .ok (.iastore, 1) ∧ 54 + 1 = 55 := ⟨by decide +kernel, rfl⟩
theorem zd_T_add_55 : decode zb_T_add 55 = .ok (.aload_n 0, 1) ∧ 55 + 1 = 56 := ⟨by decide +kernel, rfl⟩
theorem zd_T_add_56 : decode zb_T_add 56 = .ok (.getfield 24, 3) ∧ 56 + 3 = 59 := ⟨by decide +kernel, rfl⟩
theorem zd_T_add_59 : decode zb_T_add 59 = .ok (.aload_n 0, 1) ∧ 59 + 1 = 60 := ⟨by decide +kernel, rfl⟩
theorem zd_T_add_60 : decode zb_T_add 60 = .ok (.getfield 55, 3) ∧ 60 + 3 = 63 := ⟨by decide +kernel, rfl⟩
theorem zd_T_add_63 : decode zb_T_add 63 = .ok (.iconst (-1), 1) ∧ 63 + 1 = 64 := ⟨by decide +kernel, rfl⟩
theorem zd_T_add_64 : decode zb_T_add 64 = .ok (.iastore, 1) ∧ 64 + 1 = 65 := ⟨by decide +kernel, rfl⟩
theorem zd_T_add_65 : decode zb_T_add 65 = .ok (.iload 5, 2) ∧ 65 + 2 = 67 := ⟨by decide +kernel, rfl⟩
theorem zd_T_add_67 : decode zb_T_add 67 = .ok (.iconst 2, 1) ∧ 67 + 1 = 68 := ⟨by decide +kernel, rfl⟩
theorem zd_T_add_68 : decode zb_T_add 68 = .ok (.if_icmp .ne 18, 3) ∧ ((68 : Nat) : Int) + (18) = ((86 : Nat) : Int) ∧ 68 + 3 = 71 := ⟨by decide +kernel, by decide, rfl⟩
theorem zd_T_add_71 : decode zb_T_add 71 = .ok (.aload_n 0, 1) ∧ 71 + 1 = 72 := ⟨by decide +kernel, rfl⟩
theorem zd_T_add_72 : decode zb_T_add 72 = .ok (.getfield 45, 3) ∧ 72 + 3 = 75 := ⟨by decide +kernel, rfl⟩
theorem zd_T_add_75 : decode zb_T_add 75 = .ok (.aload_n 0, 1) ∧ 75 + 1 = 76 := ⟨by decide +kernel, rfl⟩
theorem zd_T_add_76 : decode zb_T_add 76 = .ok (.getfield 33, 3) ∧ 76 + 3 = 79 := ⟨by decide +kernel, rfl⟩
theorem zd_T_add_79 : decode zb_T_add 79 = .ok (.iconst 2, 1) ∧ 79 + 1 = 80 := ⟨by decide +kernel, rfl⟩
theorem zd_T_add_80 : decode zb_T_add 80 = .ok (.iaload, 1) ∧ 80 + 1 = 81 := ⟨by decide +kernel, rfl⟩
theorem zd_T_add_81 : decode zb_T_add 81 = .ok (.aload_n 0, 1) ∧ 81 + 1 = 82 := ⟨by decide +kernel, rfl⟩
theorem zd_T_add_82 : decode zb_T_add 82 = .ok (.getfield 58, 3) ∧ 82 + 3 = 85 := ⟨by decide +kernel, rfl⟩
theorem zd_T_add_85 : decode zb_T_add 85 = .ok (.iastore, 1) ∧ 85 + 1 = 86 := ⟨by decide +kernel, rfl⟩
theorem zd_T_add_86 : decode zb_T_add 86 = .ok (.iload 5, 2) ∧ 86 + 2 = 88 := ⟨by decide +kernel, rfl⟩
theorem zd_T_add_88 : decode zb_T_add 88 = .ok (.iconst (-1), 1) ∧ 88 + 1 = 89 := ⟨by decide +kernel, rfl⟩
theorem zd_T_add_89 : decode zb_T_add 89 = .ok (.if_icmp .eq 52, 3) ∧ ((89 : Nat) : Int) + (52) = ((141 : Nat) : Int) ∧ 89 + 3 = 92 := ⟨by decide +kernel, by decide, rfl⟩
theorem zd_T_add_92 : decode zb_T_add 92 = .ok (.aload_n 0, 1) ∧ 92 + 1 = 93 := ⟨by decide +kernel, rfl⟩
theorem zd_T_add_93 : decode zb_T_add 93 = .ok (.getfield 24, 3) ∧ 93 + 3 = 96 := ⟨by decide +kernel, rfl⟩
theorem zd_T_add_96 : decode zb_T_add 96 = .ok (.aload_n 0, 1) ∧ 96 + 1 = 97 := ⟨by decide +kernel, rfl⟩
theorem zd_T_add_97 : decode zb_T_add 97 = .ok (.getfield 55, 3) ∧ 97 + 3 = 100 := ⟨by decide +kernel, rfl⟩
theorem zd_T_add_100 : decode zb_T_add 100 = .ok (.aload_n 0, 1) ∧ 100 + 1 = 101 := ⟨by decide +kernel, rfl⟩
theorem zd_T_add_101 : decode zb_T_add 101 = .ok (.getfield 33, 3) ∧ 101 + 3 = 104 := ⟨by decide +kernel, rfl⟩
theorem zd_T_add_104 : decode zb_T_add 104 = .ok (.iload 5, 2) ∧ 104 + 2 = 106 := ⟨by decide +kernel, rfl⟩
theorem zd_T_add_106 : decode zb_T_add 106 = .ok (.iaload, 1) ∧ 106 + 1 = 107 := ⟨by decide +kernel, rfl⟩
theorem zd_T_add_107 : decode zb_T_add 107 = .ok (.iastore, 1) ∧ 107 + 1 = 108 := ⟨by decide +kernel, rfl⟩
theorem zd_T_add_108 : decode zb_T_add 108 = .ok (.aload_n 0, 1) ∧ 108 + 1 = 109 := ⟨by decide +kernel, rfl⟩
theorem zd_T_add_109 : decode zb_T_add 109 = .ok (.getfield 36, 3) ∧ 109 + 3 = 112 := ⟨by decide +kernel, rfl⟩
theorem zd_T_add_112 : decode zb_T_add 112 = .ok (.iload 5, 2) ∧ 112 + 2 = 114 := ⟨by decide +kernel, rfl⟩
theorem zd_T_add_114 : decode zb_T_add 114 = .ok (.bipush 8, 2) ∧ 114 + 2 = 116 := ⟨by decide +kernel, rfl⟩
theorem zd_T_add_116 : decode zb_T_add 116 = .ok (.imul, 1) ∧ 116 + 1 = 117 := ⟨by decide +kernel, rfl⟩
theorem zd_T_add_117 : decode zb_T_add 117 = .ok (.aload_n 0, 1) ∧ 117 + 1 = 118 := ⟨by decide +kernel, rfl⟩
theorem zd_T_add_118 : decode zb_T_add 118 = .ok (.getfield 33, 3) ∧ 118 + 3 = 121 := ⟨by decide +kernel, rfl⟩
theorem zd_T_add_121 : decode zb_T_add 121 = .ok (.iload 5, 2) ∧ 121 + 2 = 123 := ⟨by decide +kernel, rfl⟩
theorem zd_T_add_123 : decode zb_T_add 123 = .ok (.iaload, 1) ∧ 123 + 1 = 124 := ⟨by decide +kernel, rfl⟩
theorem zd_T_add_124 : decode zb_T_add 124 = .ok (.iadd, 1) ∧ 124 + 1 = 125 := ⟨by decide +kernel, rfl⟩
theorem zd_T_add_125 : decode zb_T_add 125 = .ok (.aload_n 0, 1) ∧ 125 + 1 = 126 := ⟨by decide +kernel, rfl⟩
theorem zd_T_add_126 : decode zb_T_add 126 = .ok (.getfield 55, 3) ∧ 126 + 3 = 129 := ⟨by decide +kernel, rfl⟩
theorem zd_T_add_129 : decode zb_T_add 129 = .ok (.iastore, 1) ∧ 129 + 1 = 130 := ⟨by decide +kernel, rfl⟩
theorem zd_T_add_130 : decode zb_T_add 130 = .ok (.aload_n 0, 1) ∧ 130 + 1 = 131 := ⟨by decide +kernel, rfl⟩
theorem zd_T_add_131 : decode zb_T_add 131 = .ok (.getfield 33, 3) ∧ 131 + 3 = 134 := ⟨by decide +kernel, rfl⟩
theorem zd_T_add_134 : decode zb_T_add 134 = .ok (.iload 5, 2) ∧ 134 + 2 = 136 := ⟨by decide +kernel, rfl⟩
theorem zd_T_add_136 : decode zb_T_add 136 = .ok (.dup2, 1) ∧ 136 + 1 = 137 := ⟨by decide +kernel, rfl⟩
theorem zd_T_add_137 : decode zb_T_add 137 = .ok (.iaload, 1) ∧ 137 + 1 = 138 := ⟨by decide +kernel, rfl⟩
theorem zd_T_add_138 : decode zb_T_add 138 = .ok (.iconst 1, 1) ∧ 138 + 1 = 139 := ⟨by decide +kernel, rfl⟩
theorem zd_T_add_139 : decode zb_T_add 139 = .ok (.iadd, 1) ∧ 139 + 1 = 140 := ⟨by decide +kernel, rfl⟩
theorem zd_T_add_140 : decode zb_T_add 140 = .ok (.iastore, 1) ∧ 140 + 1 = 141 := ⟨by decide +kernel, rfl⟩
theorem zd_T_add_141 : decode zb_T_add 141 = .ok (.aload_n 0, 1) ∧ 141 + 1 = 142 := ⟨by decide +kernel, rfl⟩
theorem zd_T_add_142 : decode zb_T_add 142 = .ok (.aload_n 0, 1) ∧ 142 + 1 = 143 := ⟨by decide +kernel, rfl⟩
theorem zd_T_add_143 : decode zb_T_add 143 = .ok (.getfield 55, 3) ∧ 143 + 3 = 146 := ⟨by decide +kernel, rfl⟩
theorem zd_T_add_146 : decode zb_T_add 146 = .ok (.iload 4, 2) ∧ 146 + 2 = 148 := ⟨by decide +kernel, rfl⟩
theorem zd_T_add_148 : decode zb_T_add 148 = .ok (.invokevirtual 75, 3) ∧ 148 + 3 = 151 := ⟨by decide +kernel, rfl⟩
theorem zd_T_add_151 : decode zb_T_add 151 = .ok (.aload_n 0, 1) ∧ 151 + 1 = 152 := ⟨by decide +kernel, rfl⟩
theorem zd_T_add_152 : decode zb_T_add 152 = .ok (.dup, 1) ∧ 152 + 1 = 153 := ⟨by decide +kernel, rfl⟩
theorem zd_T_add_153 : decode zb_T_add 153 = .ok (.getfield 55, 3) ∧ 153 + 3 = 156 := ⟨by decide +kernel, rfl⟩
theorem zd_T_add_156 : decode zb_T_add 156 = .ok (.iconst 1, 1) ∧ 156 + 1 = 157 := ⟨by decide +kernel, rfl⟩
theorem zd_T_add_157 : decode zb_T_add 157 = .ok (.iadd, 1) ∧ 157 + 1 = 158 := ⟨by decide +kernel, rfl⟩
theorem zd_T_add_158 : decode zb_T_add 158 = .ok (.putfield 55, 3) ∧ 158 + 3 = 161 := ⟨by decide +kernel, rfl⟩
theorem zd_T_add_161 : decode zb_T_add 161 = .ok (.return_, 1) ∧ 161 + 1 = 162 := ⟨by decide +kernel, rfl⟩
theorem zd_T_groupOf_0 : decode zb_T_groupOf 0 = .ok (.iload_n 0, 1) ∧ 0 + 1 = 1 := ⟨by decide +kernel, rfl⟩
theorem zd_T_groupOf_1 : decode zb_T_groupOf 1 = .ok (.tableswitch 59 1 9 #[51, 53, 53, 59, 59, 59, 57, 55, 55], 51) ∧ 1 + 51 = 52 := ⟨by decide +kernel, rfl⟩
theorem zd_T_groupOf_52 : decode zb_T_groupOf 52 = .ok (.iconst 0, 1) ∧ 52 + 1 = 53 := ⟨by decide +kernel, rfl⟩
theorem zd_T_groupOf_53 : decode zb_T_groupOf 53 = .ok (.ireturn, 1) ∧ 53 + 1 = 54 := ⟨by decide +kernel, rfl⟩
theorem zd_T_groupOf_54 : decode zb_T_groupOf 54 = .ok (.iconst 1, 1) ∧ 54 + 1 = 55 := ⟨by decide +kernel, rfl⟩
theorem zd_T_groupOf_55 : decode zb_T_groupOf 55 = .ok (.ireturn, 1) ∧ 55 + 1 = 56 := ⟨by decide +kernel, rfl⟩
theorem zd_T_groupOf_56 : decode zb_T_groupOf 56 = .ok (.iconst 2, 1) ∧ 56 + 1 = 57 := ⟨by decide +kernel, rfl⟩
theorem zd_T_groupOf_57 : decode zb_T_groupOf 57 = .ok (.ireturn, 1) ∧ 57 + 1 = 58 := ⟨by decide +kernel, rfl⟩
theorem zd_T_groupOf_58 : decode zb_T_groupOf 58 = .ok (.iconst 3, 1) ∧ 58 + 1 = 59 := ⟨by decide +kernel, rfl⟩
theorem zd_T_groupOf_59 : decode zb_T_groupOf 59 = .ok (.ireturn, 1) ∧ 59 + 1 = 60 := ⟨by decide +kernel, rfl⟩
theorem zd_T_groupOf_60 : decode zb_T_groupOf 60 = .ok (.iconst (-1), 1) ∧ 60 + 1 = 61 := ⟨by decide +kernel, rfl⟩
theorem zd_T_groupOf_61 : decode zb_T_groupOf 61 = .ok (.ireturn, 1) ∧ 61 + 1 = 62 := ⟨by decide +kernel, rfl⟩
theorem zd_T_isFull_0 : decode zb_T_isFull 0 = .ok (.iload_n 1, 1) ∧ 0 + 1 = 1 := ⟨by decide +kernel, rfl⟩
theorem zd_T_isFull_1 : decode zb_T_isFull 1 = .ok (.iconst (-1), 1) ∧ 1 + 1 = 2 := ⟨by decide +kernel, rfl⟩
theorem zd_T_isFull_2 : decode zb_T_isFull 2 = .ok (.if_icmp .eq 28, 3) ∧ ((2 : Nat) : Int) + (28) = ((30 : Nat) : Int) ∧ 2 + 3 = 5 := ⟨by decide +kernel, by decide, rfl⟩
theorem zd_T_isFull_5 : decode zb_T_isFull 5 = .ok (.aload_n 0, 1) ∧ 5 + 1 = 6 := ⟨by decide +kernel, rfl⟩
theorem zd_T_isFull_6 : decode zb_T_isFull 6 = .ok (.getfield 33, 3) ∧ 6 + 3 = 9 := ⟨by decide +kernel, rfl⟩
theorem zd_T_isFull_9 : decode zb_T_isFull 9 = .ok (.iload_n 1, 1) ∧ 9 + 1 = 10 := ⟨by decide +kernel, rfl⟩
theorem zd_T_isFull_10 : decode zb_T_isFull 10 = .ok (.iaload, 1) ∧ 10 + 1 = 11 := ⟨by decide +kernel, rfl⟩
theorem zd_T_isFull_11 : decode zb_T_isFull 11 = .ok (.iload_n 1, 1) ∧ 11 + 1 = 12 := ⟨by decide +kernel, rfl⟩
theorem zd_T_isFull_12 : decode zb_T_isFull 12 = .ok (.iconst 2, 1) ∧ 12 + 1 = 13 := ⟨by decide +kernel, rfl⟩
theorem zd_T_isFull_13 : decode zb_T_isFull 13 = .ok (.if_icmp .ne 8, 3) ∧ ((13 : Nat) : Int) + (8) = ((21 : Nat) : Int) ∧ 13 + 3 = 16 := ⟨by decide +kernel, by decide, rfl⟩
theorem zd_T_isFull_16 : decode zb_T_isFull 16 = .ok (.bipush 6, 2) ∧ 16 + 2 = 18 := ⟨by decide +kernel, rfl⟩
theorem zd_T_isFull_18 : decode zb_T_isFull 18 = .ok (.goto 5, 3) ∧ ((18 : Nat) : Int) + (5) = ((23 : Nat) : Int) ∧ 18 + 3 = 21 := ⟨by decide +kernel, by decide, rfl⟩
theorem zd_T_isFull_21 : decode zb_T_isFull 21 = .ok (.bipush 8, 2) ∧ 21 + 2 = 23 := ⟨by decide +kernel, rfl⟩
theorem zd_T_isFull_23 : decode zb_T_isFull 23 = .ok (.if_icmp .lt 7, 3) ∧ ((23 : Nat) : Int) + (7) = ((30 : Nat) : Int) ∧ 23 + 3 = 26 := ⟨by decide +kernel, by decide, rfl⟩
theorem zd_T_isFull_26 : decode zb_T_isFull 26 = .ok (.iconst 1, 1) ∧ 26 + 1 = 27 := ⟨by decide +kernel, rfl⟩
theorem zd_T_isFull_27 : decode zb_T_isFull 27 = .ok (.goto 4, 3) ∧ ((27 : Nat) : Int) + (4) = ((31 : Nat) : Int) ∧ 27 + 3 = 30 := ⟨by decide +kernel, by decide, rfl⟩
theorem zd_T_isFull_30 : decode zb_T_isFull 30 = .ok (.iconst 0, 1) ∧ 30 + 1 = 31 := ⟨by decide +kernel, rfl⟩
theorem zd_T_isFull_31 : decode zb_T_isFull 31 = .ok (.ireturn, 1) ∧ 31 + 1 = 32 := ⟨by decide +kernel, rfl⟩
theorem zd_T_put_0 : decode zb_T_put 0 = .ok (.aload_n 0, 1) ∧ 0 + 1 = 1 := ⟨by decide +kernel, rfl⟩
theorem zd_T_put_1 : decode zb_T_put 1 = .ok (.getfield 15, 3) ∧ 1 + 3 = 4 := ⟨by decide +kernel, rfl⟩
theorem zd_T_put_4 : decode zb_T_put 4 = .ok (.iload_n 2, 1) ∧ 4 + 1 = 5 := ⟨by decide +kernel, rfl⟩
theorem zd_T_put_5 : decode zb_T_put 5 = .ok (.iaload, 1) ∧ 5 + 1 = 6 := ⟨by decide +kernel, rfl⟩
theorem zd_T_put_6 : decode zb_T_put 6 = .ok (.istore_n 3, 1) ∧ 6 + 1 = 7 := ⟨by decide +kernel, rfl⟩
theorem zd_T_put_7 : decode zb_T_put 7 = .ok (.iload_n 3, 1) ∧ 7 + 1 = 8 := ⟨by decide +kernel, rfl⟩
theorem zd_T_put_8 : decode zb_T_put 8 = .ok (.iconst (-1), 1) ∧ 8 + 1 = 9 := ⟨by decide +kernel, rfl⟩
theorem zd_T_put_9 : decode zb_T_put 9 = .ok (.if_icmp .eq 20, 3) ∧ ((9 : Nat) : Int) + (20) = ((29 : Nat) : Int) ∧ 9 + 3 = 12 := ⟨by decide +kernel, by decide, rfl⟩
theorem zd_T_put_12 : decode zb_T_put 12 = .ok (.aload_n 0, 1) ∧ 12 + 1 = 13 := ⟨by decide +kernel, rfl⟩
theorem zd_T_put_13 : decode zb_T_put 13 = .ok (.getfield 18, 3) ∧ 13 + 3 = 16 := ⟨by decide +kernel, rfl⟩
theorem zd_T_put_16 : decode zb_T_put 16 = .ok (.iload_n 3, 1) ∧ 16 + 1 = 17 := ⟨by decide +kernel, rfl⟩
theorem zd_T_put_17 : decode zb_T_put 17 = .ok (.iaload, 1) ∧ 17 + 1 = 18 := ⟨by decide +kernel, rfl⟩
theorem zd_T_put_18 : decode zb_T_put 18 = .ok (.iload_n 2, 1) ∧ 18 + 1 = 19 := ⟨by decide +kernel, rfl⟩
theorem zd_T_put_19 : decode zb_T_put 19 = .ok (.if_icmp .ne 10, 3) ∧ ((19 : Nat) : Int) + (10) = ((29 : Nat) : Int) ∧ 19 + 3 = 22 := ⟨by decide +kernel, by decide, rfl⟩
theorem zd_T_put_22 : decode zb_T_put 22 = .ok (.aload_n 0, 1) ∧ 22 + 1 = 23 := ⟨by decide +kernel, rfl⟩
theorem zd_T_put_23 : decode zb_T_put 23 = .ok (.getfield 18, 3) ∧ 23 + 3 = 26 := ⟨by decide +kernel, rfl⟩
theorem zd_T_put_26 : decode zb_T_put 26 = .ok (.iload_n 3, 1) ∧ 26 + 1 = 27 := ⟨by decide +kernel, rfl⟩
theorem zd_T_put_27 : decode zb_T_put 27 = .ok (.iconst (-1), 1) ∧ 27 + 1 = 28 := ⟨by decide +kernel, rfl⟩
theorem zd_T_put_28 : decode zb_T_put 28 = .ok (.iastore, 1) ∧ 28 + 1 = 29 := ⟨by decide +kernel, rfl⟩
theorem zd_T_put_29 : decode zb_T_put 29 = .ok (.aload_n 0, 1) ∧ 29 + 1 = 30 := ⟨by decide +kernel, rfl⟩
theorem zd_T_put_30 : decode zb_T_put 30 = .ok (.getfield 15, 3) ∧ 30 + 3 = 33 := ⟨by decide +kernel, rfl⟩
theorem zd_T_put_33 : decode zb_T_put 33 = .ok (.iload_n 2, 1) ∧ 33 + 1 = 34 := ⟨by decide +kernel, rfl⟩
theorem zd_T_put_34 : decode zb_T_put 34 = .ok (.iload_n 1, 1) ∧ 34 + 1 = 35 := ⟨by decide +kernel, rfl⟩
theorem zd_T_put_35 : decode zb_T_put 35 = .ok (.iastore, 1) ∧ 35 + 1 = 36 := ⟨by decide +kernel, rfl⟩
theorem zd_T_put_36 : decode zb_T_put 36 = .ok (.iload_n 1, 1) ∧ 36 + 1 = 37 := ⟨by decide +kernel, rfl⟩
theorem zd_T_put_37 : decode zb_T_put 37 = .ok (.iconst (-1), 1) ∧ 37 + 1 = 38 := ⟨by decide +kernel, rfl⟩
theorem zd_T_put_38 : decode zb_T_put 38 = .ok (.if_icmp .eq 10, 3) ∧ ((38 : Nat) : Int) + (10) = ((48 : Nat) : Int) ∧ 38 + 3 = 41 := ⟨by decide +kernel, by decide, rfl⟩
theorem zd_T_put_41 : decode zb_T_put 41 = .ok (.aload_n 0, 1) ∧ 41 + 1 = 42 := ⟨by decide +kernel, rfl⟩
theorem zd_T_put_42 : decode zb_T_put 42 = .ok (.getfield 18, 3) ∧ 42 + 3 = 45 := ⟨by decide +kernel, rfl⟩
theorem zd_T_put_45 : decode zb_T_put 45 = .ok (.iload_n 1, 1) ∧ 45 + 1 = 46 := ⟨by decide +kernel, rfl⟩
theorem zd_T_put_46 : decode zb_T_put 46 = .ok (.iload_n 2, 1) ∧ 46 + 1 = 47 := ⟨by decide +kernel, rfl⟩
theorem zd_T_put_47 : decode zb_T_put 47 = .ok (.iastore, 1) ∧ 47 + 1 = 48 := ⟨by decide +kernel, rfl⟩
theorem zd_T_put_48 : decode zb_T_put 48 = .ok (.return_, 1) ∧ 48 + 1 = 49 := ⟨by decide +kernel, rfl⟩
theorem zd_T_squareAt_0 : decode zb_T_squareAt 0 = .ok (.iload_n 1, 1) ∧ 0 + 1 = 1 := ⟨by decide +kernel, rfl⟩
theorem zd_T_squareAt_1 : decode zb_T_squareAt 1 = .ok (.ifCond .lt 27, 3) ∧ ((1 : Nat) : Int) + (27) = ((28 : Nat) : Int) ∧ 1 + 3 = 4 := ⟨by decide +kernel, by decide, rfl⟩
theorem zd_T_squareAt_4 : decode zb_T_squareAt 4 = .ok (.iload_n 1, 1) ∧ 4 + 1 = 5 := ⟨by decide +kernel, rfl⟩
theorem zd_T_squareAt_5 : decode zb_T_squareAt 5 = .ok (.aload_n 0, 1) ∧ 5 + 1 = 6 := ⟨by decide +kernel, rfl⟩
theorem zd_T_squareAt_6 : decode zb_T_squareAt 6 = .ok (.getfield 48, 3) ∧ 6 + 3 = 9 := ⟨by decide +kernel, rfl⟩
theorem zd_T_squareAt_9 : decode zb_T_squareAt 9 = .ok (.if_icmp .ge 19, 3) ∧ ((9 : Nat) : Int) + (19) = ((28 : Nat) : Int) ∧ 9 + 3 = 12 := ⟨by decide +kernel, by decide, rfl⟩
theorem zd_T_squareAt_12 : decode zb_T_squareAt 12 = .ok (.iload_n 2, 1) ∧ 12 + 1 = 13 := ⟨by decide +kernel, rfl⟩
theorem zd_T_squareAt_13 : decode zb_T_squareAt 13 = .ok (.ifCond .lt 15, 3) ∧ ((13 : Nat) : Int) + (15) = ((28 : Nat) : Int) ∧ 13 + 3 = 16 := ⟨by decide +kernel, by decide, rfl⟩
theorem zd_T_squareAt_16 : decode zb_T_squareAt 16 = .ok (.iload_n 2, 1) ∧ 16 + 1 = 17 := ⟨by decide +kernel, rfl⟩
theorem zd_T_squareAt_17 : decode zb_T_squareAt 17 = .ok (.aload_n 0, 1) ∧ 17 + 1 = 18 := ⟨by decide +kernel, rfl⟩
theorem zd_T_squareAt_18 : decode zb_T_squareAt 18 = .ok (.getfield 52, 3) ∧ 18 + 3 = 21 := ⟨by decide +kernel, rfl⟩
theorem zd_T_squareAt_21 : decode zb_T_squareAt 21 = .ok (.if_icmp .ge 7, 3) ∧ ((21 : Nat) : Int) + (7) = ((28 : Nat) : Int) ∧ 21 + 3 = 24 := ⟨by decide +kernel, by decide, rfl⟩
theorem zd_T_squareAt_24 : decode zb_T_squareAt 24 = .ok (.iconst 1, 1) ∧ 24 + 1 = 25 := ⟨by decide +kernel, rfl⟩
theorem zd_T_squareAt_25 : decode zb_T_squareAt 25 = .ok (.goto 4, 3) ∧ ((25 : Nat) : Int) + (4) = ((29 : Nat) : Int) ∧ 25 + 3 = 28 := ⟨by decide +kernel, by decide, rfl⟩
theorem zd_T_squareAt_28 : decode zb_T_squareAt 28 = .ok (.iconst 0, 1) ∧ 28 + 1 = 29 := ⟨by decide +kernel, rfl⟩
theorem zd_T_squareAt_29 : decode zb_T_squareAt 29 = .ok (.istore_n 3, 1) ∧ 29 + 1 = 30 := ⟨by decide +kernel, rfl⟩
theorem zd_T_squareAt_30 : decode zb_T_squareAt 30 = .ok (.iload_n 3, 1) ∧ 30 + 1 = 31 := ⟨by decide +kernel, rfl⟩
theorem zd_T_squareAt_31 : decode zb_T_squareAt 31 = .ok (.ifCond .eq 14, 3) ∧ ((31 : Nat) : Int) + (14) = ((45 : Nat) : Int) ∧ 31 + 3 = 34 := ⟨by decide +kernel, by decide, rfl⟩
theorem zd_T_squareAt_34 : decode zb_T_squareAt 34 = .ok (.iload_n 2, 1) ∧ 34 + 1 = 35 := ⟨by decide +kernel, rfl⟩
theorem zd_T_squareAt_35 : decode zb_T_squareAt 35 = .ok (.aload_n 0, 1) ∧ 35 + 1 = 36 := ⟨by decide +kernel, rfl⟩
theorem zd_T_squareAt_36 : decode zb_T_squareAt 36 = .ok (.getfield 48, 3) ∧ 36 + 3 = 39 := ⟨by decide +kernel, rfl⟩
theorem zd_T_squareAt_39 : decode zb_T_squareAt 39 = .ok (.imul, 1) ∧ 39 + 1 = 40 := ⟨by decide +kernel, rfl⟩
theorem zd_T_squareAt_40 : decode zb_T_squareAt 40 = .ok (.iload_n 1, 1) ∧ 40 + 1 = 41 := ⟨by decide +kernel, rfl⟩
theorem zd_T_squareAt_41 : decode zb_T_squareAt 41 = .ok (.iadd, 1) ∧ 41 + 1 = 42 := ⟨by decide +kernel, rfl⟩
theorem zd_T_squareAt_42 : decode zb_T_squareAt 42 = .ok (.goto 4, 3) ∧ ((42 : Nat) : Int) + (4) = ((46 : Nat) : Int) ∧ 42 + 3 = 45 := ⟨by decide +kernel, by decide, rfl⟩
theorem zd_T_squareAt_45 : decode zb_T_squareAt 45 = .ok (.iconst (-1), 1) ∧ 45 + 1 = 46 := ⟨by decide +kernel, rfl⟩
theorem zd_T_squareAt_46 : decode zb_T_squareAt 46 = .ok (.ireturn, 1) ∧ 46 + 1 = 47 := ⟨by decide +kernel, rfl⟩
theorem zd_T_pieceOf_0 : decode zb_T_pieceOf 0 = .ok (.aload_n 0, 1) ∧ 0 + 1 = 1 := ⟨by decide +kernel, rfl⟩
theorem zd_T_pieceOf_1 : decode zb_T_pieceOf 1 = .ok (.getfield 36, 3) ∧ 1 + 3 = 4 := ⟨by decide +kernel, rfl⟩
theorem zd_T_pieceOf_4 : decode zb_T_pieceOf 4 = .ok (.iload_n 1, 1) ∧ 4 + 1 = 5 := ⟨by decide +kernel, rfl⟩
theorem zd_T_pieceOf_5 : decode zb_T_pieceOf 5 = .ok (.bipush 8, 2) ∧ 5 + 2 = 7 := ⟨by decide +kernel, rfl⟩
theorem zd_T_pieceOf_7 : decode zb_T_pieceOf 7 = .ok (.imul, 1) ∧ 7 + 1 = 8 := ⟨by decide +kernel, rfl⟩
theorem zd_T_pieceOf_8 : decode zb_T_pieceOf 8 = .ok (.iload_n 2, 1) ∧ 8 + 1 = 9 := ⟨by decide +kernel, rfl⟩
theorem zd_T_pieceOf_9 : decode zb_T_pieceOf 9 = .ok (.iadd, 1) ∧ 9 + 1 = 10 := ⟨by decide +kernel, rfl⟩
theorem zd_T_pieceOf_10 : decode zb_T_pieceOf 10 = .ok (.iaload, 1) ∧ 10 + 1 = 11 := ⟨by decide +kernel, rfl⟩
theorem zd_T_pieceOf_11 : decode zb_T_pieceOf 11 = .ok (.ireturn, 1) ∧ 11 + 1 = 12 := ⟨by decide +kernel, rfl⟩
theorem zd_T_squareOf_0 : decode zb_T_squareOf 0 = .ok (.aload_n 0, 1) ∧ 0 + 1 = 1 := ⟨by decide +kernel, rfl⟩
theorem zd_T_squareOf_1 : decode zb_T_squareOf 1 = .ok (.getfield 18, 3) ∧ 1 + 3 = 4 := ⟨by decide +kernel, rfl⟩
theorem zd_T_squareOf_4 : decode zb_T_squareOf 4 = .ok (.aload_n 0, 1) ∧ 4 + 1 = 5 := ⟨by decide +kernel, rfl⟩
theorem zd_T_squareOf_5 : decode zb_T_squareOf 5 = .ok (.iload_n 1, 1) ∧ 5 + 1 = 6 := ⟨by decide +kernel, rfl⟩
theorem zd_T_squareOf_6 : decode zb_T_squareOf 6 = .ok (.iload_n 2, 1) ∧ 6 + 1 = 7 := ⟨by decide +kernel, rfl⟩
theorem zd_T_squareOf_7 : decode zb_T_squareOf 7 = .ok (.invokevirtual 79, 3) ∧ 7 + 3 = 10 := ⟨by decide +kernel, rfl⟩
theorem zd_T_squareOf_10 : decode zb_T_squareOf 10 = .ok (.iaload, 1) ∧ 10 + 1 = 11 := ⟨by decide +kernel, rfl⟩
theorem zd_T_squareOf_11 : decode zb_T_squareOf 11 = .ok (.ireturn, 1) ∧ 11 + 1 = 12 := ⟨by decide +kernel, rfl⟩
theorem zd_T_lookNow_0 : decode zb_T_lookNow 0 = .ok (.aload_n 0, 1) ∧ 0 + 1 = 1 := ⟨by decide +kernel, rfl⟩
theorem zd_T_lookNow_1 : decode zb_T_lookNow 1 = .ok (.getfield 21, 3) ∧ 1 + 3 = 4 := ⟨by decide +kernel, rfl⟩
theorem zd_T_lookNow_4 : decode zb_T_lookNow 4 = .ok (.iload_n 1, 1) ∧ 4 + 1 = 5 := ⟨by decide +kernel, rfl⟩
theorem zd_T_lookNow_5 : decode zb_T_lookNow 5 = .ok (.iaload, 1) ∧ 5 + 1 = 6 := ⟨by decide +kernel, rfl⟩
theorem zd_T_lookNow_6 : decode zb_T_lookNow 6 = .ok (.tableswitch 101 2 9 #[46, 46, 101, 101, 101, 101, 83, 83], 46) ∧ 6 + 46 = 52 := ⟨by decide +kernel, rfl⟩
theorem zd_T_lookNow_52 : decode zb_T_lookNow 52 = .ok (.aload_n 0, 1) ∧ 52 + 1 = 53 := ⟨by decide +kernel, rfl⟩
theorem zd_T_lookNow_53 : decode zb_T_lookNow 53 = .ok (.getfield 24, 3) ∧ 53 + 3 = 56 := ⟨by decide +kernel, rfl⟩
theorem zd_T_lookNow_56 : decode zb_T_lookNow 56 = .ok (.iload_n 1, 1) ∧ 56 + 1 = 57 := ⟨by decide +kernel, rfl⟩
theorem zd_T_lookNow_57 : decode zb_T_lookNow 57 = .ok (.iaload, 1) ∧ 57 + 1 = 58 := ⟨by decide +kernel, rfl⟩
theorem zd_T_lookNow_58 : decode zb_T_lookNow 58 = .ok (.iconst (-1), 1) ∧ 58 + 1 = 59 := ⟨by decide +kernel, rfl⟩
theorem zd_T_lookNow_59 : decode zb_T_lookNow 59 = .ok (.if_icmp .ne 12, 3) ∧ ((59 : Nat) : Int) + (12) = ((71 : Nat) : Int) ∧ 59 + 3 = 62 := ⟨by decide +kernel, by decide, rfl⟩
theorem zd_T_lookNow_62 : decode zb_T_lookNow 62 = .ok (.aload_n 0, 1) ∧ 62 + 1 = 63 := ⟨by decide +kernel, rfl⟩
theorem zd_T_lookNow_63 : decode zb_T_lookNow 63 = .ok (.getfield 27, 3) ∧ 63 + 3 = 66 := ⟨by decide +kernel, rfl⟩
theorem zd_T_lookNow_66 : decode zb_T_lookNow 66 = .ok (.iload_n 1, 1) ∧ 66 + 1 = 67 := ⟨by decide +kernel, rfl⟩
theorem zd_T_lookNow_67 : decode zb_T_lookNow 67 = .ok (.iaload, 1) ∧ 67 + 1 = 68 := ⟨by decide +kernel, rfl⟩
theorem zd_T_lookNow_68 : decode zb_T_lookNow 68 = .ok (.goto 20, 3) ∧ ((68 : Nat) : Int) + (20) = ((88 : Nat) : Int) ∧ 68 + 3 = 71 := ⟨by decide +kernel, by decide, rfl⟩
theorem zd_T_lookNow_71 : decode zb_T_lookNow 71 = .ok (.aload_n 0, 1) ∧ 71 + 1 = 72 := ⟨by decide +kernel, rfl⟩
theorem zd_T_lookNow_72 : decode zb_T_lookNow 72 = .ok (.getfield 27, 3) ∧ 72 + 3 = 75 := ⟨by decide +kernel, rfl⟩
theorem zd_T_lookNow_75 : decode zb_T_lookNow 75 = .ok (.iload_n 1, 1) ∧ 75 + 1 = 76 := ⟨by decide +kernel, rfl⟩
theorem zd_T_lookNow_76 : decode zb_T_lookNow 76 = .ok (.iaload, 1) ∧ 76 + 1 = 77 := ⟨by decide +kernel, rfl⟩
theorem zd_T_lookNow_77 : decode zb_T_lookNow 77 = .ok (.iload_n 2, 1) ∧ 77 + 1 = 78 := ⟨by decide +kernel, rfl⟩
theorem zd_T_lookNow_78 : decode zb_T_lookNow 78 = .ok (.aload_n 0, 1) ∧ 78 + 1 = 79 := ⟨by decide +kernel, rfl⟩
theorem zd_T_lookNow_79 : decode zb_T_lookNow 79 = .ok (.getfield 24, 3) ∧ 79 + 3 = 82 := ⟨by decide +kernel, rfl⟩
theorem zd_T_lookNow_82 : decode zb_T_lookNow 82 = .ok (.iload_n 1, 1) ∧ 82 + 1 = 83 := ⟨by decide +kernel, rfl⟩
theorem zd_T_lookNow_83 : decode zb_T_lookNow 83 = .ok (.iaload, 1) ∧ 83 + 1 = 84 := ⟨by decide +kernel, rfl⟩
theorem zd_T_lookNow_84 : decode zb_T_lookNow 84 = .ok (.ishr, 1) ∧ 84 + 1 = 85 := ⟨by decide +kernel, rfl⟩
theorem zd_T_lookNow_85 : decode zb_T_lookNow 85 = .ok (.iconst 1, 1) ∧ 85 + 1 = 86 := ⟨by decide +kernel, rfl⟩
theorem zd_T_lookNow_86 : decode zb_T_lookNow 86 = .ok (.iand, 1) ∧ 86 + 1 = 87 := ⟨by decide +kernel, rfl⟩
theorem zd_T_lookNow_87 : decode zb_T_lookNow 87 = .ok (.ixor, 1) ∧ 87 + 1 = 88 := ⟨by decide +kernel, rfl⟩
theorem zd_T_lookNow_88 : decode zb_T_lookNow 88 = .ok (.ireturn, 1) ∧ 88 + 1 = 89 := ⟨by decide +kernel, rfl⟩
theorem zd_T_lookNow_89 : decode zb_T_lookNow 89 = .ok (.aload_n 0, 1) ∧ 89 + 1 = 90 := ⟨by decide +kernel, rfl⟩
theorem zd_T_lookNow_90 : decode zb_T_lookNow 90 = .ok (.getfield 27, 3) ∧ 90 + 3 = 93 := ⟨by decide +kernel, rfl⟩
theorem zd_T_lookNow_93 : decode zb_T_lookNow 93 = .ok (.iload_n 1, 1) ∧ 93 + 1 = 94 := ⟨by decide +kernel, rfl⟩
theorem zd_T_lookNow_94 : decode zb_T_lookNow 94 = .ok (.iaload, 1) ∧ 94 + 1 = 95 := ⟨by decide +kernel, rfl⟩
theorem zd_T_lookNow_95 : decode zb_T_lookNow 95 = .ok (.iload_n 3, 1) ∧ 95 + 1 = 96 := ⟨by decide +kernel, rfl⟩
theorem zd_T_lookNow_96 : decode zb_T_lookNow 96 = .ok (.aload_n 0, 1) ∧ 96 + 1 = 97 := ⟨by decide +kernel, rfl⟩
theorem zd_T_lookNow_97 : decode zb_T_lookNow 97 = .ok (.getfield 24, 3) ∧ 97 + 3 = 100 := ⟨by decide +kernel, rfl⟩
theorem zd_T_lookNow_100 : decode zb_T_lookNow 100 = .ok (.iload_n 1, 1) ∧ 100 + 1 = 101 := ⟨by decide +kernel, rfl⟩
theorem zd_T_lookNow_101 : decode zb_T_lookNow 101 = .ok (.iaload, 1) ∧ 101 + 1 = 102 := ⟨by decide +kernel, rfl⟩
theorem zd_T_lookNow_102 : decode zb_T_lookNow 102 = .ok (.ishr, 1) ∧ 102 + 1 = 103 := ⟨by decide +kernel, rfl⟩
theorem zd_T_lookNow_103 : decode zb_T_lookNow 103 = .ok (.iconst 1, 1) ∧ 103 + 1 = 104 := ⟨by decide +kernel, rfl⟩
theorem zd_T_lookNow_104 : decode zb_T_lookNow 104 = .ok (.iand, 1) ∧ 104 + 1 = 105 := ⟨by decide +kernel, rfl⟩
theorem zd_T_lookNow_105 : decode zb_T_lookNow 105 = .ok (.ixor, 1) ∧ 105 + 1 = 106 := ⟨by decide +kernel, rfl⟩
theorem zd_T_lookNow_106 : decode zb_T_lookNow 106 = .ok (.ireturn, 1) ∧ 106 + 1 = 107 := ⟨by decide +kernel, rfl⟩
theorem zd_T_lookNow_107 : decode zb_T_lookNow 107 = .ok (.aload_n 0, 1) ∧ 107 + 1 = 108 := ⟨by decide +kernel, rfl⟩
theorem zd_T_lookNow_108 : decode zb_T_lookNow 108 = .ok (.getfield 27, 3) ∧ 108 + 3 = 111 := ⟨by decide +kernel, rfl⟩
theorem zd_T_lookNow_111 : decode zb_T_lookNow 111 = .ok (.iload_n 1, 1) ∧ 111 + 1 = 112 := ⟨by decide +kernel, rfl⟩
theorem zd_T_lookNow_112 : decode zb_T_lookNow 112 = .ok (.iaload, 1) ∧ 112 + 1 = 113 := ⟨by decide +kernel, rfl⟩
theorem zd_T_lookNow_113 : decode zb_T_lookNow 113 = .ok (.ireturn, 1) ∧ 113 + 1 = 114 := ⟨by decide +kernel, rfl⟩
theorem zd_T_eyeNamed_0 : decode zb_T_eyeNamed 0 = .ok (.iconst 0, 1) ∧ 0 + 1 = 1 := ⟨by decide +kernel, rfl⟩
theorem zd_T_eyeNamed_1 : decode zb_T_eyeNamed 1 = .ok (.istore_n 2, 1) ∧ 1 + 1 = 2 := ⟨by decide +kernel, rfl⟩
theorem zd_T_eyeNamed_2 : decode zb_T_eyeNamed 2 = .ok (.iload_n 2, 1) ∧ 2 + 1 = 3 := ⟨by decide +kernel, rfl⟩
theorem zd_T_eyeNamed_3 : decode zb_T_eyeNamed 3 = .ok (.aload_n 0, 1) ∧ 3 + 1 = 4 := ⟨by decide +kernel, rfl⟩
theorem zd_T_eyeNamed_4 : decode zb_T_eyeNamed 4 = .ok (.getfield 33, 3) ∧ 4 + 3 = 7 := ⟨by decide +kernel, rfl⟩
theorem zd_T_eyeNamed_7 : decode zb_T_eyeNamed 7 = .ok (.iconst 3, 1) ∧ 7 + 1 = 8 := ⟨by decide +kernel, rfl⟩
theorem zd_T_eyeNamed_8 : decode zb_T_eyeNamed 8 = .ok (.iaload, 1) ∧ 8 + 1 = 9 := ⟨by decide +kernel, rfl⟩
theorem zd_T_eyeNamed_9 : decode zb_T_eyeNamed 9 = .ok (.if_icmp .ge 21, 3) ∧ ((9 : Nat) : Int) + (21) = ((30 : Nat) : Int) ∧ 9 + 3 = 12 := ⟨by decide +kernel, by decide, rfl⟩
theorem zd_T_eyeNamed_12 : decode zb_T_eyeNamed 12 = .ok (.aload_n 0, 1) ∧ 12 + 1 = 13 := ⟨by decide +kernel, rfl⟩
theorem zd_T_eyeNamed_13 : decode zb_T_eyeNamed 13 = .ok (.getfield 39, 3) ∧ 13 + 3 = 16 := ⟨by decide +kernel, rfl⟩
theorem zd_T_eyeNamed_16 : decode zb_T_eyeNamed 16 = .ok (.iload_n 2, 1) ∧ 16 + 1 = 17 := ⟨by decide +kernel, rfl⟩
theorem zd_T_eyeNamed_17 : decode zb_T_eyeNamed 17 = .ok (.iaload, 1) ∧ 17 + 1 = 18 := ⟨by decide +kernel, rfl⟩
theorem zd_T_eyeNamed_18 : decode zb_T_eyeNamed 18 = .ok (.iload_n 1, 1) ∧ 18 + 1 = 19 := ⟨by decide +kernel, rfl⟩
theorem zd_T_eyeNamed_19 : decode zb_T_eyeNamed 19 = .ok (.if_icmp .ne 5, 3) ∧ ((19 : Nat) : Int) + (5) = ((24 : Nat) : Int) ∧ 19 + 3 = 22 := ⟨by decide +kernel, by decide, rfl⟩
theorem zd_T_eyeNamed_22 : decode zb_T_eyeNamed 22 = .ok (.iload_n 2, 1) ∧ 22 + 1 = 23 := ⟨by decide +kernel, rfl⟩
theorem zd_T_eyeNamed_23 : decode zb_T_eyeNamed 23 = .ok (.ireturn, 1) ∧ 23 + 1 = 24 := ⟨by decide +kernel, rfl⟩
theorem zd_T_eyeNamed_24 : decode zb_T_eyeNamed 24 = .ok (.iinc 2 1, 3) ∧ 24 + 3 = 27 := ⟨by decide +kernel, rfl⟩
theorem zd_T_eyeNamed_27 : decode zb_T_eyeNamed 27 = .ok (.goto (-25), 3) ∧ ((27 : Nat) : Int) + (-25) = ((2 : Nat) : Int) ∧ 27 + 3 = 30 := ⟨by decide +kernel, by decide, rfl⟩
theorem zd_T_eyeNamed_30 : decode zb_T_eyeNamed 30 = .ok (.iconst (-1), 1) ∧ 30 + 1 = 31 := ⟨by decide +kernel, rfl⟩
theorem zd_T_eyeNamed_31 : decode zb_T_eyeNamed 31 = .ok (.ireturn, 1) ∧ 31 + 1 = 32 := ⟨by decide +kernel, rfl⟩
theorem zd_T_addCode_0 : decode zb_T_addCode 0 = .ok (.aload_n 0, 1) ∧ 0 + 1 = 1 := ⟨by decide +kernel, rfl⟩
theorem zd_T_addCode_1 : decode zb_T_addCode 1 = .ok (.getfield 58, 3) ∧ 1 + 3 = 4 := ⟨by decide +kernel, rfl⟩
theorem zd_T_addCode_4 : decode zb_T_addCode 4 = .ok (.aload_n 0, 1) ∧ 4 + 1 = 5 := ⟨by decide +kernel, rfl⟩
theorem zd_T_addCode_5 : decode zb_T_addCode 5 = .ok (.getfield 42, 3) ∧ 5 + 3 = 8 := ⟨by decide +kernel, rfl⟩
theorem zd_T_addCode_8 : decode zb_T_addCode 8 = .ok (.arraylength, 1) ∧ 8 + 1 = 9 := ⟨by decide +kernel, rfl⟩
theorem zd_T_addCode_9 : decode zb_T_addCode 9 = .ok (.if_icmp .ge 23, 3) ∧ ((9 : Nat) : Int) + (23) = ((32 : Nat) : Int) ∧ 9 + 3 = 12 := ⟨by decide +kernel, by decide, rfl⟩
theorem zd_T_addCode_12 : decode zb_T_addCode 12 = .ok (.aload_n 0, 1) ∧ 12 + 1 = 13 := ⟨by decide +kernel, rfl⟩
theorem zd_T_addCode_13 : decode zb_T_addCode 13 = .ok (.getfield 42, 3) ∧ 13 + 3 = 16 := ⟨by decide +kernel, rfl⟩
theorem zd_T_addCode_16 : decode zb_T_addCode 16 = .ok (.aload_n 0, 1) ∧ 16 + 1 = 17 := ⟨by decide +kernel, rfl⟩
theorem zd_T_addCode_17 : decode zb_T_addCode 17 = .ok (.getfield 58, 3) ∧ 17 + 3 = 20 := ⟨by decide +kernel, rfl⟩
theorem zd_T_addCode_20 : decode zb_T_addCode 20 = .ok (.iload_n 1, 1) ∧ 20 + 1 = 21 := ⟨by decide +kernel, rfl⟩
theorem zd_T_addCode_21 : decode zb_T_addCode 21 = .ok (.iastore, 1) ∧ 21 + 1 = 22 := ⟨by decide +kernel, rfl⟩
theorem zd_T_addCode_22 : decode zb_T_addCode 22 = .ok (.aload_n 0, 1) ∧ 22 + 1 = 23 := ⟨by decide +kernel, rfl⟩
theorem zd_T_addCode_23 : decode zb_T_addCode 23 = .ok (.dup, 1) ∧ 23 + 1 = 24 := ⟨by decide +kernel, rfl⟩
theorem zd_T_addCode_24 : decode zb_T_addCode 24 = .ok (.getfield 58, 3) ∧ 24 + 3 = 27 := ⟨by decide +kernel, rfl⟩
theorem zd_T_addCode_27 : decode zb_T_addCode 27 = .ok (.iconst 1, 1) ∧ 27 + 1 = 28 := ⟨by decide +kernel, rfl⟩
theorem zd_T_addCode_28 : decode zb_T_addCode 28 = .ok (.iadd, 1) ∧ 28 + 1 = 29 := ⟨by decide +kernel, rfl⟩
theorem zd_T_addCode_29 : decode zb_T_addCode 29 = .ok (.putfield 58, 3) ∧ 29 + 3 = 32 := ⟨by decide +kernel, rfl⟩
theorem zd_T_addCode_32 : decode zb_T_addCode 32 = .ok (.return_, 1) ∧ 32 + 1 = 33 := ⟨by decide +kernel, rfl⟩
theorem zd_T_codeOfSees_0 : decode zb_T_codeOfSees 0 = .ok (.sipush 1664, 3) ∧ 0 + 3 = 3 := ⟨by decide +kernel, rfl⟩
theorem zd_T_codeOfSees_3 : decode zb_T_codeOfSees 3 = .ok (.iload_n 0, 1) ∧ 3 + 1 = 4 := ⟨by decide +kernel, rfl⟩
theorem zd_T_codeOfSees_4 : decode zb_T_codeOfSees 4 = .ok (.iconst 3, 1) ∧ 4 + 1 = 5 := ⟨by decide +kernel, rfl⟩
theorem zd_T_codeOfSees_5 : decode zb_T_codeOfSees 5 = .ok (.ishl, 1) ∧ 5 + 1 = 6 := ⟨by decide +kernel, rfl⟩
theorem zd_T_codeOfSees_6 : decode zb_T_codeOfSees 6 = .ok (.ior, 1) ∧ 6 + 1 = 7 := ⟨by decide +kernel, rfl⟩
theorem zd_T_codeOfSees_7 : decode zb_T_codeOfSees 7 = .ok (.iload_n 1, 1) ∧ 7 + 1 = 8 := ⟨by decide +kernel, rfl⟩
theorem zd_T_codeOfSees_8 : decode zb_T_codeOfSees 8 = .ok (.ior, 1) ∧ 8 + 1 = 9 := ⟨by decide +kernel, rfl⟩
theorem zd_T_codeOfSees_9 : decode zb_T_codeOfSees 9 = .ok (.ireturn, 1) ∧ 9 + 1 = 10 := ⟨by decide +kernel, rfl⟩
theorem zd_K_init_0 : decode zb_K_init 0 = .ok (.aload_n 0, 1) ∧ 0 + 1 = 1 := ⟨by decide +kernel, rfl⟩
theorem zd_K_init_1 : decode zb_K_init 1 = .ok (.invokespecial 3, 3) ∧ 1 + 3 = 4 := ⟨by decide +kernel, rfl⟩
theorem zd_K_init_4 : decode zb_K_init 4 = .ok (.aload_n 0, 1) ∧ 4 + 1 = 5 := ⟨by decide +kernel, rfl⟩
theorem zd_K_init_5 : decode zb_K_init 5 = .ok (.sipush 1601, 3) ∧ 5 + 3 = 8 := ⟨by decide +kernel, rfl⟩
theorem zd_K_init_8 : decode zb_K_init 8 = .ok (.newarray .int, 2) ∧ 8 + 2 = 10 := ⟨by decide +kernel, rfl⟩
theorem zd_K_init_10 : decode zb_K_init 10 = .ok (.putfield 9, 3) ∧ 10 + 3 = 13 := ⟨by decide +kernel, rfl⟩
theorem zd_K_init_13 : decode zb_K_init 13 = .ok (.aload_n 0, 1) ∧ 13 + 1 = 14 := ⟨by decide +kernel, rfl⟩
theorem zd_K_init_14 : decode zb_K_init 14 = .ok (.sipush 1601, 3) ∧ 14 + 3 = 17 := ⟨by decide +kernel, rfl⟩
theorem zd_K_init_17 : decode zb_K_init 17 = .ok (.newarray .int, 2) ∧ 17 + 2 = 19 := ⟨by decide +kernel, rfl⟩
theorem zd_K_init_19 : decode zb_K_init 19 = .ok (.putfield 15, 3) ∧ 19 + 3 = 22 := ⟨by decide +kernel, rfl⟩
theorem zd_K_init_22 : decode zb_K_init 22 = .ok (.aload_n 0, 1) ∧ 22 + 1 = 23 := ⟨by decide +kernel, rfl⟩
theorem zd_K_init_23 : decode zb_K_init 23 = .ok (.sipush 1601, 3) ∧ 23 + 3 = 26 := ⟨by decide +kernel, rfl⟩
theorem zd_K_init_26 : decode zb_K_init 26 = .ok (.newarray .int, 2) ∧ 26 + 2 = 28 := ⟨by decide +kernel, rfl⟩
theorem zd_K_init_28 : decode zb_K_init 28 = .ok (.putfield 18, 3) ∧ 28 + 3 = 31 := ⟨by decide +kernel, rfl⟩
theorem zd_K_init_31 : decode zb_K_init 31 = .ok (.aload_n 0, 1) ∧ 31 + 1 = 32 := ⟨by decide +kernel, rfl⟩
theorem zd_K_init_32 : decode zb_K_init 32 = .ok (.sipush 1601, 3) ∧ 32 + 3 = 35 := ⟨by decide +kernel, rfl⟩
theorem zd_K_init_35 : decode zb_K_init 35 = .ok (.newarray .int, 2) ∧ 35 + 2 = 37 := ⟨by decide +kernel, rfl⟩
theorem zd_K_init_37 : decode zb_K_init 37 = .ok (.putfield 21, 3) ∧ 37 + 3 = 40 := ⟨by decide +kernel, rfl⟩
theorem zd_K_init_40 : decode zb_K_init 40 = .ok (.aload_n 0, 1) ∧ 40 + 1 = 41 := ⟨by decide +kernel, rfl⟩
theorem zd_K_init_41 : decode zb_K_init 41 = .ok (.iconst 0, 1) ∧ 41 + 1 = 42 := ⟨by decide +kernel, rfl⟩
theorem zd_K_init_42 : decode zb_K_init 42 = .ok (.newarray .int, 2) ∧ 42 + 2 = 44 := ⟨by decide +kernel, rfl⟩
theorem zd_K_init_44 : decode zb_K_init 44 = .ok (.putfield 24, 3) ∧ 44 + 3 = 47 := ⟨by decide +kernel, rfl⟩
theorem zd_K_init_47 : decode zb_K_init 47 = .ok (.return_, 1) ∧ 47 + 1 = 48 := ⟨by decide +kernel, rfl⟩
theorem zd_K_split_0 : decode zb_K_split 0 = .ok (.aload_n 0, 1) ∧ 0 + 1 = 1 := ⟨by decide +kernel, rfl⟩
theorem zd_K_split_1 : decode zb_K_split 1 = .ok (.aload_n 1, 1) ∧ 1 + 1 = 2 := ⟨by decide +kernel, rfl⟩
theorem zd_K_split_2 : decode zb_K_split 2 = .ok (.putfield 24, 3) ∧ 2 + 3 = 5 := ⟨by decide +kernel, rfl⟩
theorem zd_K_split_5 : decode zb_K_split 5 = .ok (.aload_n 0, 1) ∧ 5 + 1 = 6 := ⟨by decide +kernel, rfl⟩
theorem zd_K_split_6 : decode zb_K_split 6 = .ok (.iconst 0, 1) ∧ 6 + 1 = 7 := ⟨by decide +kernel, rfl⟩
theorem zd_K_split_7 : decode zb_K_split 7 = .ok (.putfield 27, 3) ∧ 7 + 3 = 10 := ⟨by decide +kernel, rfl⟩
theorem zd_K_split_10 : decode zb_K_split 10 = .ok (.iconst 0, 1) ∧ 10 + 1 = 11 := ⟨by decide +kernel, rfl⟩
theorem zd_K_split_11 : decode zb_K_split 11 = .ok (.istore_n 3, 1) ∧ 11 + 1 = 12 := ⟨by decide +kernel, rfl⟩
theorem zd_K_split_12 : decode zb_K_split 12 = .ok (.iload_n 3, 1) ∧ 12 + 1 = 13 := ⟨by decide +kernel, rfl⟩
theorem zd_K_split_13 : decode zb_K_split 13 = .ok (.iload_n 2, 1) ∧ 13 + 1 = 14 := ⟨by decide +kernel, rfl⟩
theorem zd_K_split_14 : decode zb_K_split 14 = .ok (.if_icmp .ge 109, 3) ∧ ((14 : Nat) : Int) + (109) = ((123 : Nat) : Int) ∧ 14 + 3 = 17 := ⟨by decide +kernel, by decide, rfl⟩
theorem zd_K_split_17 : decode zb_K_split 17 = .ok (.iconst 1, 1) ∧ 17 + 1 = 18 := ⟨by decide +kernel, rfl⟩
theorem zd_K_split_18 : decode zb_K_split 18 = .ok (.istore 4, 2) ∧ 18 + 2 = 20 := ⟨by decide +kernel, rfl⟩
theorem zd_K_split_20 : decode zb_K_split 20 = .ok (.aload_n 0, 1) ∧ 20 + 1 = 21 := ⟨by decide +kernel, rfl⟩
theorem zd_K_split_21 : decode zb_K_split 21 = .ok (.getfield 24, 3) ∧ 21 + 3 = 24 := ⟨by decide +kernel, rfl⟩
theorem zd_K_split_24 : decode zb_K_split 24 = .ok (.iload_n 3, 1) ∧ 24 + 1 = 25 := ⟨by decide +kernel, rfl⟩
theorem zd_K_split_25 : decode zb_K_split 25 = .ok (.iaload, 1) ∧ 25 + 1 = 26 := ⟨by decide +kernel, rfl⟩
theorem zd_K_split_26 : decode zb_K_split 26 = .ok (.invokestatic 31, 3) ∧ 26 + 3 = 29 := ⟨by decide +kernel, rfl⟩
theorem zd_K_split_29 : decode zb_K_split 29 = .ok (.ifCond .ne 15, 3) ∧ ((29 : Nat) : Int) + (15) = ((44 : Nat) : Int) ∧ 29 + 3 = 32 := ⟨by decide +kernel, by decide, rfl⟩
theorem zd_K_split_32 : decode zb_K_split 32 = .ok (.aload_n 0, 1) ∧ 32 + 1 = 33 := ⟨by decide +kernel, rfl⟩
theorem zd_K_split_33 : decode zb_K_split 33 = .ok (.getfield 24, 3) ∧ 33 + 3 = 36 := ⟨by decide +kernel, rfl⟩
theorem zd_K_split_36 : decode zb_K_split 36 = .ok (.iload_n 3, 1) ∧ 36 + 1 = 37 := ⟨by decide +kernel, rfl⟩
theorem zd_K_split_37 : decode zb_K_split 37 = .ok (.iaload, 1) ∧ 37 + 1 = 38 := ⟨by decide +kernel, rfl⟩
theorem zd_K_split_38 : decode zb_K_split 38 = .ok (.invokestatic 35, 3) ∧ 38 + 3 = 41 := ⟨by decide +kernel, rfl⟩
theorem zd_K_split_41 : decode zb_K_split 41 = .ok (.ifCond .eq 39, 3) ∧ ((41 : Nat) : Int) + (39) = ((80 : Nat) : Int) ∧ 41 + 3 = 44 := ⟨by decide +kernel, by decide, rfl⟩
theorem zd_K_split_44 : decode zb_K_split 44 = .ok (.iload_n 3, 1) ∧ 44 + 1 = 45 := ⟨by decide +kernel, rfl⟩
theorem zd_K_split_45 : decode zb_K_split 45 = .ok (.iload 4, 2) ∧ 45 + 2 = 47 := ⟨by decide +kernel, rfl⟩
theorem zd_K_split_47 : decode zb_K_split 47 = .ok (.iadd, 1) ∧ 47 + 1 = 48 := ⟨by decide +kernel, rfl⟩
theorem zd_K_split_48 : decode zb_K_split 48 = .ok (.iload_n 2, 1) ∧ 48 + 1 = 49 := ⟨by decide +kernel, rfl⟩
theorem zd_K_split_49 : decode zb_K_split 49 = .ok (.if_icmp .ge 21, 3) ∧ ((49 : Nat) : Int) + (21) = ((70 : Nat) : Int) ∧ 49 + 3 = 52 := ⟨by decide +kernel, by decide, rfl⟩
theorem zd_K_split_52 : decode zb_K_split 52 = .ok (.aload_n 0, 1) ∧ 52 + 1 = 53 := ⟨by decide +kernel, rfl⟩
theorem zd_K_split_53 : decode zb_K_split 53 = .ok (.iload_n 3, 1) ∧ 53 + 1 = 54 := ⟨by decide +kernel, rfl⟩
theorem zd_K_split_54 : decode zb_K_split 54 = .ok (.iload_n 3, 1) ∧ 54 + 1 = 55 := ⟨by decide +kernel, rfl⟩
theorem zd_K_split_55 : decode zb_K_split 55 = .ok (.iload 4, 2) ∧ 55 + 2 = 57 := ⟨by decide +kernel, rfl⟩
theorem zd_K_split_57 : decode zb_K_split 57 = .ok (.iadd, 1) ∧ 57 + 1 = 58 := ⟨by decide +kernel, rfl⟩
theorem zd_K_split_58 : decode zb_K_split 58 = .ok (.invokevirtual 38, 3) ∧ 58 + 3 = 61 := ⟨by decide +kernel, rfl⟩
theorem zd_K_split_61 : decode zb_K_split 61 = .ok (.ifCond .eq 9, 3) ∧ ((61 : Nat) : Int) + (9) = ((70 : Nat) : Int) ∧ 61 + 3 = 64 := ⟨by decide +kernel, by decide, rfl⟩
theorem zd_K_split_64 : decode zb_K_split 64 = .ok (.iinc 4 1, 3) ∧ 64 + 3 = 67 := ⟨by decide +kernel, rfl⟩
theorem zd_K_split_67 : decode zb_K_split 67 = .ok (.goto (-23), 3) ∧ ((67 : Nat) : Int) + (-23) = ((44 : Nat) : Int) ∧ 67 + 3 = 70 := ⟨by decide +kernel, by decide, rfl⟩
theorem zd_K_split_70 : decode zb_K_split 70 = .ok (.aload_n 0, 1) ∧ 70 + 1 = 71 := ⟨by decide +kernel, rfl⟩
theorem zd_K_split_71 : decode zb_K_split 71 = .ok (.iload_n 3, 1) ∧ 71 + 1 = 72 := ⟨by decide +kernel, rfl⟩
theorem zd_K_split_72 : decode zb_K_split 72 = .ok (.iload 4, 2) ∧ 72 + 2 = 74 := ⟨by decide +kernel, rfl⟩
theorem zd_K_split_74 : decode zb_K_split 74 = .ok (.invokevirtual 42, 3) ∧ 74 + 3 = 77 := ⟨by decide +kernel, rfl⟩
theorem zd_K_split_77 : decode zb_K_split 77 = .ok (.goto 38, 3) ∧ ((77 : Nat) : Int) + (38) = ((115 : Nat) : Int) ∧ 77 + 3 = 80 := ⟨by decide +kernel, by decide, rfl⟩
theorem zd_K_split_80 : decode zb_K_split 80 = .ok (.aload_n 0, 1) ∧ 80 + 1 = 81 := ⟨by decide +kernel, rfl⟩
theorem zd_K_split_81 : decode zb_K_split 81 = .ok (.getfield 24, 3) ∧ 81 + 3 = 84 := ⟨by decide +kernel, rfl⟩
theorem zd_K_split_84 : decode zb_K_split 84 = .ok (.iload_n 3, 1) ∧ 84 + 1 = 85 := ⟨by decide +kernel, rfl⟩
theorem zd_K_split_85 : decode zb_K_split 85 = .ok (.iaload, 1) ∧ 85 + 1 = 86 := ⟨by decide +kernel, rfl⟩
theorem zd_K_split_86 : decode zb_K_split 86 = .ok (.bipush 32, 2) ∧ 86 + 2 = 88 := ⟨by decide +kernel, rfl⟩
theorem zd_K_split_88 : decode zb_K_split 88 = .ok (.if_icmp .eq 27, 3) ∧ ((88 : Nat) : Int) + (27) = ((115 : Nat) : Int) ∧ 88 + 3 = 91 := ⟨by decide +kernel, by decide, rfl⟩
theorem zd_K_split_91 : decode zb_K_split 91 = .ok (.aload_n 0, 1) ∧ 91 + 1 = 92 := ⟨by decide +kernel, rfl⟩
theorem zd_K_split_92 : decode zb_K_split 92 = .ok (.getfield 24, 3) ∧ 92 + 3 = 95 := ⟨by decide +kernel, rfl⟩
theorem zd_K_split_95 : decode zb_K_split 95 = .ok (.iload_n 3, 1) ∧ 95 + 1 = 96 := ⟨by decide +kernel, rfl⟩
theorem zd_K_split_96 : decode zb_K_split 96 = .ok (.iaload, 1) ∧ 96 + 1 = 97 := ⟨by decide +kernel, rfl⟩
theorem zd_K_split_97 : decode zb_K_split 97 = .ok (.bipush 10, 2) ∧ 97 + 2 = 99 := ⟨by decide +kernel, rfl⟩
theorem zd_K_split_99 : decode zb_K_split 99 = .ok (.if_icmp .eq 16, 3) ∧ ((99 : Nat) : Int) + (16) = ((115 : Nat) : Int) ∧ 99 + 3 = 102 := ⟨by decide +kernel, by decide, rfl⟩
theorem zd_K_split_102 : decode zb_K_split 102 = .ok (.aload_n 0, 1) ∧ 102 + 1 = 103 := ⟨by decide +kernel, rfl⟩
theorem zd_K_split_103 : decode zb_K_split 103 = .ok (.iconst 3, 1) ∧ 103 + 1 = 104 := ⟨by decide +kernel, rfl⟩
theorem zd_K_split_104 : decode zb_K_split 104 = .ok (.aload_n 0, 1) ∧ 104 + 1 = 105 := ⟨by decide +kernel, rfl⟩
theorem zd_K_split_105 : decode zb_K_split 105 = .ok (.getfield 24, 3) ∧ 105 + 3 = 108 := ⟨by decide +kernel, rfl⟩
theorem zd_K_split_108 : decode zb_K_split 108 = .ok (.iload_n 3, 1) ∧ 108 + 1 = 109 := ⟨by decide +kernel, rfl⟩
theorem zd_K_split_109 : decode zb_K_split 109 = .ok (.iaload, 1) ∧ 109 + 1 = 110 := ⟨by decide +kernel, rfl⟩
theorem zd_K_split_110 : decode zb_K_split 110 = .ok (.iload_n 3, 1) ∧ 110 + 1 = 111 := ⟨by decide +kernel, rfl⟩
theorem zd_K_split_111 : decode zb_K_split 111 = .ok (.iload_n 3, 1) ∧ 111 + 1 = 112 := ⟨by decide +kernel, rfl⟩
theorem zd_K_split_112 : decode zb_K_split 112 = .ok (.invokevirtual 46, 3) ∧ 112 + 3 = 115 := ⟨by decide +kernel, rfl⟩
theorem zd_K_split_115 : decode zb_K_split 115 = .ok (.iload_n 3, 1) ∧ 115 + 1 = 116 := ⟨by decide +kernel, rfl⟩
theorem zd_K_split_116 : decode zb_K_split 116 = .ok (.iload 4, 2) ∧ 116 + 2 = 118 := ⟨by decide +kernel, rfl⟩
theorem zd_K_split_118 : decode zb_K_split 118 = .ok (.iadd, 1) ∧ 118 + 1 = 119 := ⟨by decide +kernel, rfl⟩
theorem zd_K_split_119 : decode zb_K_split 119 = .ok (.istore_n 3, 1) ∧ 119 + 1 = 120 := ⟨by decide +kernel, rfl⟩
theorem zd_K_split_120 : decode zb_K_split 120 = .ok (.goto (-108), 3) ∧ ((120 : Nat) : Int) + (-108) = ((12 : Nat) : Int) ∧ 120 + 3 = 123 := ⟨by decide +kernel, by decide, rfl⟩
theorem zd_K_split_123 : decode zb_K_split 123 = .ok (.aload_n 0, 1) ∧ 123 + 1 = 124 := ⟨by decide +kernel, rfl⟩
theorem zd_K_split_124 : decode zb_K_split 124 = .ok (.iconst 4, 1) ∧ 124 + 1 = 125 := ⟨by decide +kernel, rfl⟩
theorem zd_K_split_125 : decode zb_K_split 125 = .ok (.iconst (-1), 1) ∧ 125 + 1 = 126 := ⟨by decide +kernel, rfl⟩
theorem zd_K_split_126 : decode zb_K_split 126 = .ok (.iload_n 2, 1) ∧ 126 + 1 = 127 := ⟨by decide +kernel, rfl⟩
theorem zd_K_split_127 : decode zb_K_split 127 = .ok (.iload_n 2, 1) ∧ 127 + 1 = 128 := ⟨by decide +kernel, rfl⟩
theorem zd_K_split_128 : decode zb_K_split 128 = .ok (.invokevirtual 46, 3) ∧ 128 + 3 = 131 := ⟨by decide +kernel, rfl⟩
theorem zd_K_split_131 : decode zb_K_split 131 = .ok (.return_, 1) ∧ 131 + 1 = 132 := ⟨by decide +kernel, rfl⟩
theorem zd_K_addWordOrNumber_0 : decode zb_K_addWordOrNumber 0 = .ok (.aload_n 0, 1) ∧ 0 + 1 = 1 := ⟨by decide +kernel, rfl⟩
theorem zd_K_addWordOrNumber_1 : decode zb_K_addWordOrNumber 1 = .ok (.getfield 24, 3) ∧ 1 + 3 = 4 := ⟨by decide +kernel, rfl⟩
theorem zd_K_addWordOrNumber_4 : decode zb_K_addWordOrNumber 4 = .ok (.iload_n 1, 1) ∧ 4 + 1 = 5 := ⟨by decide +kernel, rfl⟩
theorem zd_K_addWordOrNumber_5 : decode zb_K_addWordOrNumber 5 = .ok (.iaload, 1) ∧ 5 + 1 = 6 := ⟨by decide +kernel, rfl⟩
theorem zd_K_addWordOrNumber_6 : decode zb_K_addWordOrNumber 6 = .ok (.invokestatic 31, 3) ∧ 6 + 3 = 9 := ⟨by decide +kernel, rfl⟩
theorem zd_K_addWordOrNumber_9 : decode zb_K_addWordOrNumber 9 = .ok (.istore_n 3, 1) ∧ 9 + 1 = 10 := ⟨by decide +kernel, rfl⟩
theorem zd_K_addWordOrNumber_10 : decode zb_K_addWordOrNumber 10 = .ok (.iload_n 3, 1) ∧ 10 + 1 = 11 := ⟨by decide +kernel, rfl⟩
theorem zd_K_addWordOrNumber_11 : decode zb_K_addWordOrNumber 11 = .ok (.ifCond .eq 8, 3) ∧ ((11 : Nat) : Int) + (8) = ((19 : Nat) : Int) ∧ 11 + 3 = 14 := ⟨by decide +kernel, by decide, rfl⟩
theorem zd_K_addWordOrNumber_14 : decode zb_K_addWordOrNumber 14 = .ok (.bipush 6, 2) ∧ 14 + 2 = 16 := ⟨by decide +kernel, rfl⟩
theorem zd_K_addWordOrNumber_16 : decode zb_K_addWordOrNumber 16 = .ok (.goto 4, 3) ∧ ((16 : Nat) : Int) + (4) = ((20 : Nat) : Int) ∧ 16 + 3 = 19 := ⟨by decide +kernel, by decide, rfl⟩
theorem zd_K_addWordOrNumber_19 : decode zb_K_addWordOrNumber 19 = .ok (.iconst 4, 1) ∧ 19 + 1 = 20 := ⟨by decide +kernel, rfl⟩
theorem zd_K_addWordOrNumber_20 : decode zb_K_addWordOrNumber 20 = .ok (.istore 4, 2) ∧ 20 + 2 = 22 := ⟨by decide +kernel, rfl⟩
theorem zd_K_addWordOrNumber_22 : decode zb_K_addWordOrNumber 22 = .ok (.iload_n 3, 1) ∧ 22 + 1 = 23 := ⟨by decide +kernel, rfl⟩
theorem zd_K_addWordOrNumber_23 : decode zb_K_addWordOrNumber 23 = .ok (.ifCond .eq 12, 3) ∧ ((23 : Nat) : Int) + (12) = ((35 : Nat) : Int) ∧ 23 + 3 = 26 := ⟨by decide +kernel, by decide, rfl⟩
theorem zd_K_addWordOrNumber_26 : decode zb_K_addWordOrNumber 26 = .ok (.aload_n 0, 1) ∧ 26 + 1 = 27 := ⟨by decide +kernel, rfl⟩
theorem zd_K_addWordOrNumber_27 : decode zb_K_addWordOrNumber 27 = .ok (.iload_n 1, 1) ∧ 27 + 1 = 28 := ⟨by decide +kernel, rfl⟩
theorem zd_K_addWordOrNumber_28 : decode zb_K_addWordOrNumber 28 = .ok (.iload_n 2, 1) ∧ 28 + 1 = 29 := ⟨by decide +kernel, rfl⟩
theorem zd_K_addWordOrNumber_29 : decode zb_K_addWordOrNumber 29 = .ok (.invokevirtual 50, 3) ∧ 29 + 3 = 32 := ⟨by decide +kernel, rfl⟩
theorem zd_K_addWordOrNumber_32 : decode zb_K_addWordOrNumber 32 = .ok (.goto 4, 3) ∧ ((32 : Nat) : Int) + (4) = ((36 : Nat) : Int) ∧ 32 + 3 = 35 := ⟨by decide +kernel, by decide, rfl⟩
theorem zd_K_addWordOrNumber_35 : decode zb_K_addWordOrNumber 35 = .ok (.iconst (-1), 1) ∧ 35 + 1 = 36 := ⟨by decide +kernel, rfl⟩
theorem zd_K_addWordOrNumber_36 : decode zb_K_addWordOrNumber 36 = .ok (.istore 5, 2) ∧ 36 + 2 = 38 := ⟨by decide +kernel, rfl⟩
theorem zd_K_addWordOrNumber_38 : decode zb_K_addWordOrNumber 38 = .ok (.iload_n 1, 1) ∧ 38 + 1 = 39 := ⟨by decide +kernel, rfl⟩
theorem zd_K_addWordOrNumber_39 : decode zb_K_addWordOrNumber 39 = .ok (.ifCond .le 35, 3) ∧ ((39 : Nat) : Int) + (35) = ((74 : Nat) : Int) ∧ 39 + 3 = 42 := ⟨by decide +kernel, by decide, rfl⟩
theorem zd_K_addWordOrNumber_42 : decode zb_K_addWordOrNumber 42 = .ok (.aload_n 0, 1) ∧ 42 + 1 = 43 := ⟨by decide +kernel, rfl⟩
theorem zd_K_addWordOrNumber_43 : decode zb_K_addWordOrNumber 43 = .ok (.getfield 24, 3) ∧ 43 + 3 = 46 := ⟨by decide +kernel, rfl⟩
theorem zd_K_addWordOrNumber_46 : decode zb_K_addWordOrNumber 46 = .ok (.iload_n 1, 1) ∧ 46 + 1 = 47 := ⟨by decide +kernel, rfl⟩
theorem zd_K_addWordOrNumber_47 : decode zb_K_addWordOrNumber 47 = .ok (.iconst 1, 1) ∧ 47 + 1 = 48 := ⟨by decide +kernel, rfl⟩
theorem zd_K_addWordOrNumber_48 : decode zb_K_addWordOrNumber 48 = .ok (.isub, 1) ∧ 48 + 1 = 49 := ⟨by decide +kernel, rfl⟩
theorem zd_K_addWordOrNumber_49 : decode zb_K_addWordOrNumber 49 = .ok (.iaload, 1) ∧ 49 + 1 = 50 := ⟨by decide +kernel, rfl⟩
theorem zd_K_addWordOrNumber_50 : decode zb_K_addWordOrNumber 50 = .ok (.invokestatic 31, 3) ∧ 50 + 3 = 53 := ⟨by decide +kernel, rfl⟩
theorem zd_K_addWordOrNumber_53 : decode zb_K_addWordOrNumber 53 = .ok (.ifCond .ne 17, 3) ∧ ((53 : Nat) : Int) + (17) = ((70 : Nat) : Int) ∧ 53 + 3 = 56 := ⟨by decide +kernel, by decide, rfl⟩
theorem zd_K_addWordOrNumber_56 : decode zb_K_addWordOrNumber 56 = .ok (.aload_n 0, 1) ∧ 56 + 1 = 57 := ⟨by decide +kernel, rfl⟩
theorem zd_K_addWordOrNumber_57 : decode zb_K_addWordOrNumber 57 = .ok (.getfield 24, 3) ∧ 57 + 3 = 60 := ⟨by decide +kernel, rfl⟩
theorem zd_K_addWordOrNumber_60 : decode zb_K_addWordOrNumber 60 = .ok (.iload_n 1, 1) ∧ 60 + 1 = 61 := ⟨by decide +kernel, rfl⟩
theorem zd_K_addWordOrNumber_61 : decode zb_K_addWordOrNumber 61 = .ok (.iconst 1, 1) ∧ 61 + 1 = 62 := ⟨by decide +kernel, rfl⟩
theorem zd_K_addWordOrNumber_62 : decode zb_K_addWordOrNumber 62 = .ok (.isub, 1) ∧ 62 + 1 = 63 := ⟨by decide +kernel, rfl⟩
theorem zd_K_addWordOrNumber_63 : decode zb_K_addWordOrNumber 63 = .ok (.iaload, 1) ∧ 63 + 1 = 64 := ⟨by decide +kernel, rfl⟩
theorem zd_K_addWordOrNumber_64 : decode zb_K_addWordOrNumber 64 = .ok (.invokestatic 35, 3) ∧ 64 + 3 = 67 := ⟨by decide +kernel, rfl⟩
theorem zd_K_addWordOrNumber_67 : decode zb_K_addWordOrNumber 67 = .ok (.ifCond .eq 7, 3) ∧ ((67 : Nat) : Int) + (7) = ((74 : Nat) : Int) ∧ 67 + 3 = 70 := ⟨by decide +kernel, by decide, rfl⟩
theorem zd_K_addWordOrNumber_70 : decode zb_K_addWordOrNumber 70 = .ok (.iconst 1, 1) ∧ 70 + 1 = 71 := ⟨by decide +kernel, rfl⟩
theorem zd_K_addWordOrNumber_71 : decode zb_K_addWordOrNumber 71 = .ok (.goto 4, 3) ∧ ((71 : Nat) : Int) + (4) = ((75 : Nat) : Int) ∧ 71 + 3 = 74 := ⟨by decide +kernel, by decide, rfl⟩
theorem zd_K_addWordOrNumber_74 : decode zb_K_addWordOrNumber 74 = .ok (.iconst 0, 1) ∧ 74 + 1 = 75 := ⟨by decide +kernel, rfl⟩
theorem zd_K_addWordOrNumber_75 : decode zb_K_addWordOrNumber 75 = .ok (.istore 6, 2) ∧ 75 + 2 = 77 := ⟨by decide +kernel, rfl⟩
theorem zd_K_addWordOrNumber_77 : decode zb_K_addWordOrNumber 77 = .ok (.iload 6, 2) ∧ 77 + 2 = 79 := ⟨by decide +kernel, rfl⟩
theorem zd_K_addWordOrNumber_79 : decode zb_K_addWordOrNumber 79 = .ok (.ifCond .eq 14, 3) ∧ ((79 : Nat) : Int) + (14) = ((93 : Nat) : Int) ∧ 79 + 3 = 82 := ⟨by decide +kernel, by decide, rfl⟩
theorem zd_K_addWordOrNumber_82 : decode zb_K_addWordOrNumber 82 = .ok (.aload_n 0, 1) ∧ 82 + 1 = 83 := ⟨by decide +kernel, rfl⟩
theorem zd_K_addWordOrNumber_83 : decode zb_K_addWordOrNumber 83 = .ok (.iconst 5, 1) ∧ 83 + 1 = 84 := ⟨by decide +kernel, rfl⟩
theorem zd_K_addWordOrNumber_84 : decode zb_K_addWordOrNumber 84 = .ok (.iconst (-1), 1) ∧ 84 + 1 = 85 := ⟨by decide +kernel, rfl⟩
theorem zd_K_addWordOrNumber_85 : decode zb_K_addWordOrNumber 85 = .ok (.iload_n 1, 1) ∧ 85 + 1 = 86 := ⟨by decide +kernel, rfl⟩
theorem zd_K_addWordOrNumber_86 : decode zb_K_addWordOrNumber 86 = .ok (.iload_n 1, 1) ∧ 86 + 1 = 87 := ⟨by decide +kernel, rfl⟩
theorem zd_K_addWordOrNumber_87 : decode zb_K_addWordOrNumber 87 = .ok (.invokevirtual 46, 3) ∧ 87 + 3 = 90 := ⟨by decide +kernel, rfl⟩
theorem zd_K_addWordOrNumber_90 : decode zb_K_addWordOrNumber 90 = .ok (.goto 82, 3) ∧ ((90 : Nat) : Int) + (82) = ((172 : Nat) : Int) ∧ 90 + 3 = 93 := ⟨by decide +kernel, by decide, rfl⟩
theorem zd_K_addWordOrNumber_93 : decode zb_K_addWordOrNumber 93 = .ok (.iload 5, 2) ∧ 93 + 2 = 95 := ⟨by decide +kernel, rfl⟩
theorem zd_K_addWordOrNumber_95 : decode zb_K_addWordOrNumber 95 = .ok (.iconst (-1), 1) ∧ 95 + 1 = 96 := ⟨by decide +kernel, rfl⟩
theorem zd_K_addWordOrNumber_96 : decode zb_K_addWordOrNumber 96 = .ok (.if_icmp .eq 15, 3) ∧ ((96 : Nat) : Int) + (15) = ((111 : Nat) : Int) ∧ 96 + 3 = 99 := ⟨by decide +kernel, by decide, rfl⟩
theorem zd_K_addWordOrNumber_99 : decode zb_K_addWordOrNumber 99 = .ok (.aload_n 0, 1) ∧ 99 + 1 = 100 := ⟨by decide +kernel, rfl⟩
theorem zd_K_addWordOrNumber_100 : decode zb_K_addWordOrNumber 100 = .ok (.iconst 0, 1) ∧ 100 + 1 = 101 := ⟨by decide +kernel, rfl⟩
theorem zd_K_addWordOrNumber_101 : decode zb_K_addWordOrNumber 101 = .ok (.iload 5, 2) ∧ 101 + 2 = 103 := ⟨by decide +kernel, rfl⟩
theorem zd_K_addWordOrNumber_103 : decode zb_K_addWordOrNumber 103 = .ok (.iload_n 1, 1) ∧ 103 + 1 = 104 := ⟨by decide +kernel, rfl⟩
theorem zd_K_addWordOrNumber_104 : decode zb_K_addWordOrNumber 104 = .ok (.iload_n 1, 1) ∧ 104 + 1 = 105 := ⟨by decide +kernel, rfl⟩
theorem zd_K_addWordOrNumber_105 : decode zb_K_addWordOrNumber 105 = .ok (.invokevirtual 46, 3) ∧ 105 + 3 = 108 := ⟨by decide +kernel, rfl⟩
theorem zd_K_addWordOrNumber_108 : decode zb_K_addWordOrNumber 108 = .ok (.goto 64, 3) ∧ ((108 : Nat) : Int) + (64) = ((172 : Nat) : Int) ∧ 108 + 3 = 111 := ⟨by decide +kernel, by decide, rfl⟩
theorem zd_K_addWordOrNumber_111 : decode zb_K_addWordOrNumber 111 = .ok (.iload_n 2, 1) ∧ 111 + 1 = 112 := ⟨by decide +kernel, rfl⟩
theorem zd_K_addWordOrNumber_112 : decode zb_K_addWordOrNumber 112 = .ok (.iload 4, 2) ∧ 112 + 2 = 114 := ⟨by decide +kernel, rfl⟩
theorem zd_K_addWordOrNumber_114 : decode zb_K_addWordOrNumber 114 = .ok (.if_icmp .le 17, 3) ∧ ((114 : Nat) : Int) + (17) = ((131 : Nat) : Int) ∧ 114 + 3 = 117 := ⟨by decide +kernel, by decide, rfl⟩
theorem zd_K_addWordOrNumber_117 : decode zb_K_addWordOrNumber 117 = .ok (.aload_n 0, 1) ∧ 117 + 1 = 118 := ⟨by decide +kernel, rfl⟩
theorem zd_K_addWordOrNumber_118 : decode zb_K_addWordOrNumber 118 = .ok (.iconst 5, 1) ∧ 118 + 1 = 119 := ⟨by decide +kernel, rfl⟩
theorem zd_K_addWordOrNumber_119 : decode zb_K_addWordOrNumber 119 = .ok (.iconst (-1), 1) ∧ 119 + 1 = 120 := ⟨by decide +kernel, rfl⟩
theorem zd_K_addWordOrNumber_120 : decode zb_K_addWordOrNumber 120 = .ok (.iload_n 1, 1) ∧ 120 + 1 = 121 := ⟨by decide +kernel, rfl⟩
theorem zd_K_addWordOrNumber_121 : decode zb_K_addWordOrNumber 121 = .ok (.iload_n 1, 1) ∧ 121 + 1 = 122 := ⟨by decide +kernel, rfl⟩
theorem zd_K_addWordOrNumber_122 : decode zb_K_addWordOrNumber 122 = .ok (.iload 4, 2) ∧ 122 + 2 = 124 := ⟨by decide +kernel, rfl⟩
theorem zd_K_addWordOrNumber_124 : decode zb_K_addWordOrNumber 124 = .ok (.iadd, 1) ∧ 124 + 1 = 125 := ⟨by decide +kernel, rfl⟩
theorem zd_K_addWordOrNumber_125 : decode zb_K_addWordOrNumber 125 = .ok (.invokevirtual 46, 3) ∧ 125 + 3 = 128 := ⟨by decide +kernel, rfl⟩
theorem zd_K_addWordOrNumber_128 : decode zb_K_addWordOrNumber 128 = .ok (.goto 44, 3) ∧ ((128 : Nat) : Int) + (44) = ((172 : Nat) : Int) ∧ 128 + 3 = 131 := ⟨by decide +kernel, by decide, rfl⟩
theorem zd_K_addWordOrNumber_131 : decode zb_K_addWordOrNumber 131 = .ok (.iload_n 3, 1) ∧ 131 + 1 = 132 := ⟨by decide +kernel, rfl⟩
theorem zd_K_addWordOrNumber_132 : decode zb_K_addWordOrNumber 132 = .ok (.ifCond .eq 23, 3) ∧ ((132 : Nat) : Int) + (23) = ((155 : Nat) : Int) ∧ 132 + 3 = 135 := ⟨by decide +kernel, by decide, rfl⟩
theorem zd_K_addWordOrNumber_135 : decode zb_K_addWordOrNumber 135 = .ok (.aload_n 0, 1) ∧ 135 + 1 = 136 := ⟨by decide +kernel, rfl⟩
theorem zd_K_addWordOrNumber_136 : decode zb_K_addWordOrNumber 136 = .ok (.iconst 1, 1) ∧ 136 + 1 = 137 := ⟨by decide +kernel, rfl⟩
theorem zd_K_addWordOrNumber_137 : decode zb_K_addWordOrNumber 137 = .ok (.aload_n 0, 1) ∧ 137 + 1 = 138 := ⟨by decide +kernel, rfl⟩
theorem zd_K_addWordOrNumber_138 : decode zb_K_addWordOrNumber 138 = .ok (.iload_n 1, 1) ∧ 138 + 1 = 139 := ⟨by decide +kernel, rfl⟩
theorem zd_K_addWordOrNumber_139 : decode zb_K_addWordOrNumber 139 = .ok (.iload_n 2, 1) ∧ 139 + 1 = 140 := ⟨by decide +kernel, rfl⟩
theorem zd_K_addWordOrNumber_140 : decode zb_K_addWordOrNumber 140 = .ok (.bipush 27, 2) ∧ 140 + 2 = 142 := ⟨by decide +kernel, rfl⟩
theorem zd_K_addWordOrNumber_142 : decode zb_K_addWordOrNumber 142 = .ok (.bipush 96, 2) ∧ 142 + 2 = 144 := ⟨by decide +kernel, rfl⟩
theorem zd_K_addWordOrNumber_144 : decode zb_K_addWordOrNumber 144 = .ok (.invokevirtual 54, 3) ∧ 144 + 3 = 147 := ⟨by decide +kernel, rfl⟩
theorem zd_K_addWordOrNumber_147 : decode zb_K_addWordOrNumber 147 = .ok (.iload_n 1, 1) ∧ 147 + 1 = 148 := ⟨by decide +kernel, rfl⟩
theorem zd_K_addWordOrNumber_148 : decode zb_K_addWordOrNumber 148 = .ok (.iload_n 1, 1) ∧ 148 + 1 = 149 := ⟨by decide +kernel, rfl⟩
theorem zd_K_addWordOrNumber_149 : decode zb_K_addWordOrNumber 149 = .ok (.invokevirtual 46, 3) ∧ 149 + 3 = 152 := ⟨by decide +kernel, rfl⟩
theorem zd_K_addWordOrNumber_152 : decode zb_K_addWordOrNumber 152 = .ok (.goto 20, 3) ∧ ((152 : Nat) : Int) + (20) = ((172 : Nat) : Int) ∧ 152 + 3 = 155 := ⟨by decide +kernel, by decide, rfl⟩
theorem zd_K_addWordOrNumber_155 : decode zb_K_addWordOrNumber 155 = .ok (.aload_n 0, 1) ∧ 155 + 1 = 156 := ⟨by decide +kernel, rfl⟩
theorem zd_K_addWordOrNumber_156 : decode zb_K_addWordOrNumber 156 = .ok (.iconst 2, 1) ∧ 156 + 1 = 157 := ⟨by decide +kernel, rfl⟩
theorem zd_K_addWordOrNumber_157 : decode zb_K_addWordOrNumber 157 = .ok (.aload_n 0, 1) ∧ 157 + 1 = 158 := ⟨by decide +kernel, rfl⟩
theorem zd_K_addWordOrNumber_158 : decode zb_K_addWordOrNumber 158 = .ok (.iload_n 1, 1) ∧ 158 + 1 = 159 := ⟨by decide +kernel, rfl⟩
theorem zd_K_addWordOrNumber_159 : decode zb_K_addWordOrNumber 159 = .ok (.iload_n 2, 1) ∧ 159 + 1 = 160 := ⟨by decide +kernel, rfl⟩
theorem zd_K_addWordOrNumber_160 : decode zb_K_addWordOrNumber 160 = .ok (.bipush 10, 2) ∧ 160 + 2 = 162 := ⟨by decide +kernel, rfl⟩
theorem zd_K_addWordOrNumber_162 : decode zb_K_addWordOrNumber 162 = .ok (.bipush 48, 2) ∧ 162 + 2 = 164 := ⟨by decide +kernel, rfl⟩
theorem zd_K_addWordOrNumber_164 : decode zb_K_addWordOrNumber 164 = .ok (.invokevirtual 54, 3) ∧ 164 + 3 = 167 := ⟨by decide +kernel, rfl⟩
theorem zd_K_addWordOrNumber_167 : decode zb_K_addWordOrNumber 167 = .ok (.iload_n 1, 1) ∧ 167 + 1 = 168 := ⟨by decide +kernel, rfl⟩
theorem zd_K_addWordOrNumber_168 : decode zb_K_addWordOrNumber 168 = .ok (.iload_n 1, 1) ∧ 168 + 1 = 169 := ⟨by decide +kernel, rfl⟩
theorem zd_K_addWordOrNumber_169 : decode zb_K_addWordOrNumber 169 = .ok (.invokevirtual 46, 3) ∧ 169 + 3 = 172 := ⟨by decide +kernel, rfl⟩
theorem zd_K_addWordOrNumber_172 : decode zb_K_addWordOrNumber 172 = .ok (.return_, 1) ∧ 172 + 1 = 173 := ⟨by decide +kernel, rfl⟩
theorem zd_K_put_0 : decode zb_K_put 0 = .ok (.aload_n 0, 1) ∧ 0 + 1 = 1 := ⟨by decide +kernel, rfl⟩
theorem zd_K_put_1 : decode zb_K_put 1 = .ok (.getfield 27, 3) ∧ 1 + 3 = 4 := ⟨by decide +kernel, rfl⟩
theorem zd_K_put_4 : decode zb_K_put 4 = .ok (.aload_n 0, 1) ∧ 4 + 1 = 5 := ⟨by decide +kernel, rfl⟩
theorem zd_K_put_5 : decode zb_K_put 5 = .ok (.getfield 9, 3) ∧ 5 + 3 = 8 := ⟨by decide +kernel, rfl⟩
theorem zd_K_put_8 : decode zb_K_put 8 = .ok (.arraylength, 1) ∧ 8 + 1 = 9 := ⟨by decide +kernel, rfl⟩
theorem zd_K_put_9 : decode zb_K_put 9 = .ok (.if_icmp .ge 54, 3) ∧ ((9 : Nat) : Int) + (54) = ((63 : Nat) : Int) ∧ 9 + 3 = 12 := ⟨by decide +kernel, by decide, rfl⟩
theorem zd_K_put_12 : decode zb_K_put 12 = .ok (.aload_n 0, 1) ∧ 12 + 1 = 13 := ⟨by decide +kernel, rfl⟩
theorem zd_K_put_13 : decode zb_K_put 13 = .ok (.getfield 9, 3) ∧ 13 + 3 = 16 := ⟨by decide +kernel, rfl⟩
theorem zd_K_put_16 : decode zb_K_put 16 = .ok (.aload_n 0, 1) ∧ 16 + 1 = 17 := ⟨by decide +kernel, rfl⟩
theorem zd_K_put_17 : decode zb_K_put 17 = .ok (.getfield 27, 3) ∧ 17 + 3 = 20 := ⟨by decide +kernel, rfl⟩
theorem zd_K_put_20 : decode zb_K_put 20 = .ok (.iload_n 1, 1) ∧ 20 + 1 = 21 := ⟨by decide +kernel, rfl⟩
theorem zd_K_put_21 : decode zb_K_put 21 = .ok (.iastore, 1) ∧ 21 + 1 = 22 := ⟨by decide +kernel, rfl⟩
theorem zd_K_put_22 : decode zb_K_put 22 = .ok (.aload_n 0, 1) ∧ 22 + 1 = 23 := ⟨by decide +kernel, rfl⟩
theorem zd_K_put_23 : decode zb_K_put 23 = .ok (.getfield 15, 3) ∧ 23 + 3 = 26 := ⟨by decide +kernel, rfl⟩
theorem zd_K_put_26 : decode zb_K_put 26 = .ok (.aload_n 0, 1) ∧ 26 + 1 = 27 := ⟨by decide +kernel, rfl⟩
theorem zd_K_put_27 : decode zb_K_put 27 = .ok (.getfield 27, 3) ∧ 27 + 3 = 30 := ⟨by decide +kernel, rfl⟩
theorem zd_K_put_30 : decode zb_K_put 30 = .ok (.iload_n 2, 1) ∧ 30 + 1 = 31 := ⟨by decide +kernel, rfl⟩
theorem zd_K_put_31 : decode zb_K_put 31 = .ok (.iastore, 1) ∧ 31 + 1 = 32 := ⟨by decide +kernel, rfl⟩
theorem zd_K_put_32 : decode zb_K_put 32 = .ok (.aload_n 0, 1) ∧ 32 + 1 = 33 := ⟨by decide +kernel, rfl⟩
theorem zd_K_put_33 : decode zb_K_put 33 = .ok (.getfield 18, 3) ∧ 33 + 3 = 36 := ⟨by decide +kernel, rfl⟩
theorem zd_K_put_36 : decode zb_K_put 36 = .ok (.aload_n 0, 1) ∧ 36 + 1 = 37 := ⟨by decide +kernel, rfl⟩
theorem zd_K_put_37 : decode zb_K_put 37 = .ok (.getfield 27, 3) ∧ 37 + 3 = 40 := ⟨by decide +kernel, rfl⟩
theorem zd_K_put_40 : decode zb_K_put 40 = .ok (.iload_n 3, 1) ∧ 40 + 1 = 41 := ⟨by decide +kernel, rfl⟩
theorem zd_K_put_41 : decode zb_K_put 41 = .ok (.iastore, 1) ∧ 41 + 1 = 42 := ⟨by decide +kernel, rfl⟩
theorem zd_K_put_42 : decode zb_K_put 42 = .ok (.aload_n 0, 1) ∧ 42 + 1 = 43 := ⟨by decide +kernel, rfl⟩
theorem zd_K_put_43 : decode zb_K_put 43 = .ok (.getfield 21, 3) ∧ 43 + 3 = 46 := ⟨by decide +kernel, rfl⟩
theorem zd_K_put_46 : decode zb_K_put 46 = .ok (.aload_n 0, 1) ∧ 46 + 1 = 47 := ⟨by decide +kernel, rfl⟩
theorem zd_K_put_47 : decode zb_K_put 47 = .ok (.getfield 27, 3) ∧ 47 + 3 = 50 := ⟨by decide +kernel, rfl⟩
theorem zd_K_put_50 : decode zb_K_put 50 = .ok (.iload 4, 2) ∧ 50 + 2 = 52 := ⟨by decide +kernel, rfl⟩
theorem zd_K_put_52 : decode zb_K_put 52 = .ok (.iastore, 1) ∧ 52 + 1 = 53 := ⟨by decide +kernel, rfl⟩
theorem zd_K_put_53 : decode zb_K_put 53 = .ok (.aload_n 0, 1) ∧ 53 + 1 = 54 := ⟨by decide +kernel, rfl⟩
theorem zd_K_put_54 : decode zb_K_put 54 = .ok (.dup, 1) ∧ 54 + 1 = 55 := ⟨by decide +kernel, rfl⟩
theorem zd_K_put_55 : decode zb_K_put 55 = .ok (.getfield 27, 3) ∧ 55 + 3 = 58 := ⟨by decide +kernel, rfl⟩
theorem zd_K_put_58 : decode zb_K_put 58 = .ok (.iconst 1, 1) ∧ 58 + 1 = 59 := ⟨by decide +kernel, rfl⟩
theorem zd_K_put_59 : decode zb_K_put 59 = .ok (.iadd, 1) ∧ 59 + 1 = 60 := ⟨by decide +kernel, rfl⟩
theorem zd_K_put_60 : decode zb_K_put 60 = .ok (.putfield 27, 3) ∧ 60 + 3 = 63 := ⟨by decide +kernel, rfl⟩
theorem zd_K_put_63 : decode zb_K_put 63 = .ok (.return_, 1) ∧ 63 + 1 = 64 := ⟨by decide +kernel, rfl⟩
theorem zd_K_packed_0 : decode zb_K_packed 0 = .ok (.iconst 0, 1) ∧ 0 + 1 = 1 := ⟨by decide +kernel, rfl⟩
theorem zd_K_packed_1 : decode zb_K_packed 1 = .ok (.istore 5, 2) ∧ 1 + 2 = 3 := ⟨by decide +kernel, rfl⟩
theorem zd_K_packed_3 : decode zb_K_packed 3 = .ok (.iload_n 1, 1) ∧ 3 + 1 = 4 := ⟨by decide +kernel, rfl⟩
theorem zd_K_packed_4 : decode zb_K_packed 4 = .ok (.istore 6, 2) ∧ 4 + 2 = 6 := ⟨by decide +kernel, rfl⟩
theorem zd_K_packed_6 : decode zb_K_packed 6 = .ok (.iload 6, 2) ∧ 6 + 2 = 8 := ⟨by decide +kernel, rfl⟩
theorem zd_K_packed_8 : decode zb_K_packed 8 = .ok (.iload_n 1, 1) ∧ 8 + 1 = 9 := ⟨by decide +kernel, rfl⟩
theorem zd_K_packed_9 : decode zb_K_packed 9 = .ok (.iload_n 2, 1) ∧ 9 + 1 = 10 := ⟨by decide +kernel, rfl⟩
theorem zd_K_packed_10 : decode zb_K_packed 10 = .ok (.iadd, 1) ∧ 10 + 1 = 11 := ⟨by decide +kernel, rfl⟩
theorem zd_K_packed_11 : decode zb_K_packed 11 = .ok (.if_icmp .ge 26, 3) ∧ ((11 : Nat) : Int) + (26) = ((37 : Nat) : Int) ∧ 11 + 3 = 14 := ⟨by decide +kernel, by decide, rfl⟩
theorem zd_K_packed_14 : decode zb_K_packed 14 = .ok (.iload 5, 2) ∧ 14 + 2 = 16 := ⟨by decide +kernel, rfl⟩
theorem zd_K_packed_16 : decode zb_K_packed 16 = .ok (.iload_n 3, 1) ∧ 16 + 1 = 17 := ⟨by decide +kernel, rfl⟩
theorem zd_K_packed_17 : decode zb_K_packed 17 = .ok (.imul, 1) ∧ 17 + 1 = 18 := ⟨by decide +kernel, rfl⟩
theorem zd_K_packed_18 : decode zb_K_packed 18 = .ok (.aload_n 0, 1) ∧ 18 + 1 = 19 := ⟨by decide +kernel, rfl⟩
theorem zd_K_packed_19 : decode zb_K_packed 19 = .ok (.getfield 24, 3) ∧ 19 + 3 = 22 := ⟨by decide +kernel, rfl⟩
theorem zd_K_packed_22 : decode zb_K_packed 22 = .ok (.iload 6, 2) ∧ 22 + 2 = 24 := ⟨by decide +kernel, rfl⟩
theorem zd_K_packed_24 : decode zb_K_packed 24 = .ok (.iaload, 1) ∧ 24 + 1 = 25 := ⟨by decide +kernel, rfl⟩
theorem zd_K_packed_25 : decode zb_K_packed 25 = .ok (.iadd, 1) ∧ 25 + 1 = 26 := ⟨by decide +kernel, rfl⟩
theorem zd_K_packed_26 : decode zb_K_packed 26 = .ok (.iload 4, 2) ∧ 26 + 2 = 28 := ⟨by decide +kernel, rfl⟩
theorem zd_K_packed_28 : decode zb_K_packed 28 = .ok (.isub, 1) ∧ 28 + 1 = 29 := ⟨by decide +kernel, rfl⟩
theorem zd_K_packed_29 : decode zb_K_packed 29 = .ok (.istore 5, 2) ∧ 29 + 2 = 31 := ⟨by decide +kernel, rfl⟩
theorem zd_K_packed_31 : decode zb_K_packed 31 = .ok (.iinc 6 1, 3) ∧ 31 + 3 = 34 := ⟨by decide +kernel, rfl⟩
theorem zd_K_packed_34 : decode zb_K_packed 34 = .ok (.goto (-28), 3) ∧ ((34 : Nat) : Int) + (-28) = ((6 : Nat) : Int) ∧ 34 + 3 = 37 := ⟨by decide +kernel, by decide, rfl⟩
theorem zd_K_packed_37 : decode zb_K_packed 37 = .ok (.iload 5, 2) ∧ 37 + 2 = 39 := ⟨by decide +kernel, rfl⟩
theorem zd_K_packed_39 : decode zb_K_packed 39 = .ok (.ireturn, 1) ∧ 39 + 1 = 40 := ⟨by decide +kernel, rfl⟩
theorem zd_K_ownWord_0 : decode zb_K_ownWord 0 = .ok (.iconst 0, 1) ∧ 0 + 1 = 1 := ⟨by decide +kernel, rfl⟩
theorem zd_K_ownWord_1 : decode zb_K_ownWord 1 = .ok (.istore_n 3, 1) ∧ 1 + 1 = 2 := ⟨by decide +kernel, rfl⟩
theorem zd_K_ownWord_2 : decode zb_K_ownWord 2 = .ok (.iconst 0, 1) ∧ 2 + 1 = 3 := ⟨by decide +kernel, rfl⟩
theorem zd_K_ownWord_3 : decode zb_K_ownWord 3 = .ok (.istore 4, 2) ∧ 3 + 2 = 5 := ⟨by decide +kernel, rfl⟩
theorem zd_K_ownWord_5 : decode zb_K_ownWord 5 = .ok (.iconst 0, 1) ∧ 5 + 1 = 6 := ⟨by decide +kernel, rfl⟩
theorem zd_K_ownWord_6 : decode zb_K_ownWord 6 = .ok (.istore 5, 2) ∧ 6 + 2 = 8 := ⟨by decide +kernel, rfl⟩
theorem zd_K_ownWord_8 : decode zb_K_ownWord 8 = .ok (.iload 5, 2) ∧ 8 + 2 = 10 := ⟨by decide +kernel, rfl⟩
theorem zd_K_ownWord_10 : decode zb_K_ownWord 10 = .ok (.ldc 58, 2) ∧ 10 + 2 = 12 := ⟨by decide +kernel, rfl⟩
theorem zd_K_ownWord_12 : decode zb_K_ownWord 12 = .ok (.invokevirtual 60, 3) ∧ 12 + 3 = 15 := ⟨by decide +kernel, rfl⟩
theorem zd_K_ownWord_15 : decode zb_K_ownWord 15 = .ok (.if_icmp .ge 78, 3) ∧ ((15 : Nat) : Int) + (78) = ((93 : Nat) : Int) ∧ 15 + 3 = 18 := ⟨by decide +kernel, by decide, rfl⟩
theorem zd_K_ownWord_18 : decode zb_K_ownWord 18 = .ok (.ldc 58, 2) ∧ 18 + 2 = 20 := ⟨by decide +kernel, rfl⟩
theorem zd_K_ownWord_20 : decode zb_K_ownWord 20 = .ok (.iload 5, 2) ∧ 20 + 2 = 22 := ⟨by decide +kernel, rfl⟩
theorem zd_K_ownWord_22 : decode zb_K_ownWord 22 = .ok (.invokevirtual 66, 3) ∧ 22 + 3 = 25 := ⟨by decide +kernel, rfl⟩
theorem zd_K_ownWord_25 : decode zb_K_ownWord 25 = .ok (.istore 6, 2) ∧ 25 + 2 = 27 := ⟨by decide +kernel, rfl⟩
theorem zd_K_ownWord_27 : decode zb_K_ownWord 27 = .ok (.iload 6, 2) ∧ 27 + 2 = 29 := ⟨by decide +kernel, rfl⟩
theorem zd_K_ownWord_29 : decode zb_K_ownWord 29 = .ok (.bipush 32, 2) ∧ 29 + 2 = 31 := ⟨by decide +kernel, rfl⟩
theorem zd_K_ownWord_31 : decode zb_K_ownWord 31 = .ok (.if_icmp .ne 20, 3) ∧ ((31 : Nat) : Int) + (20) = ((51 : Nat) : Int) ∧ 31 + 3 = 34 := ⟨by decide +kernel, by decide, rfl⟩
theorem zd_K_ownWord_34 : decode zb_K_ownWord 34 = .ok (.iload 4, 2) ∧ 34 + 2 = 36 := ⟨by decide +kernel, rfl⟩
theorem zd_K_ownWord_36 : decode zb_K_ownWord 36 = .ok (.iload_n 2, 1) ∧ 36 + 1 = 37 := ⟨by decide +kernel, rfl⟩
theorem zd_K_ownWord_37 : decode zb_K_ownWord 37 = .ok (.if_icmp .ne 5, 3) ∧ ((37 : Nat) : Int) + (5) = ((42 : Nat) : Int) ∧ 37 + 3 = 40 := ⟨by decide +kernel, by decide, rfl⟩
theorem zd_K_ownWord_40 : decode zb_K_ownWord 40 = .ok (.iload_n 3, 1) ∧ 40 + 1 = 41 := ⟨by decide +kernel, rfl⟩
theorem zd_K_ownWord_41 : decode zb_K_ownWord 41 = .ok (.ireturn, 1) ∧ 41 + 1 = 42 := ⟨by decide +kernel, rfl⟩
theorem zd_K_ownWord_42 : decode zb_K_ownWord 42 = .ok (.iinc 3 1, 3) ∧ 42 + 3 = 45 := ⟨by decide +kernel, rfl⟩
theorem zd_K_ownWord_45 : decode zb_K_ownWord 45 = .ok (.iconst 0, 1) ∧ 45 + 1 = 46 := ⟨by decide +kernel, rfl⟩
theorem zd_K_ownWord_46 : decode zb_K_ownWord 46 = .ok (.istore 4, 2) ∧ 46 + 2 = 48 := ⟨by decide +kernel, rfl⟩
theorem zd_K_ownWord_48 : decode zb_K_ownWord 48 = .ok (.goto 39, 3) ∧ ((48 : Nat) : Int) + (39) = ((87 : Nat) : Int) ∧ 48 + 3 = 51 := ⟨by decide +kernel, by decide, rfl⟩
theorem zd_K_ownWord_51 : decode zb_K_ownWord 51 = .ok (.iload 4, 2) ∧ 51 + 2 = 53 := ⟨by decide +kernel, rfl⟩
theorem zd_K_ownWord_53 : decode zb_K_ownWord 53 = .ok (.iconst (-1), 1) ∧ 53 + 1 = 54 := ⟨by decide +kernel, rfl⟩
theorem zd_K_ownWord_54 : decode zb_K_ownWord 54 = .ok (.if_icmp .eq 33, 3) ∧ ((54 : Nat) : Int) + (33) = ((87 : Nat) : Int) ∧ 54 + 3 = 57 := ⟨by decide +kernel, by decide, rfl⟩
theorem zd_K_ownWord_57 : decode zb_K_ownWord 57 = .ok (.iload 4, 2) ∧ 57 + 2 = 59 := ⟨by decide +kernel, rfl⟩
theorem zd_K_ownWord_59 : decode zb_K_ownWord 59 = .ok (.iload_n 2, 1) ∧ 59 + 1 = 60 := ⟨by decide +kernel, rfl⟩
theorem zd_K_ownWord_60 : decode zb_K_ownWord 60 = .ok (.if_icmp .ge 24, 3) ∧ ((60 : Nat) : Int) + (24) = ((84 : Nat) : Int) ∧ 60 + 3 = 63 := ⟨by decide +kernel, by decide, rfl⟩
theorem zd_K_ownWord_63 : decode zb_K_ownWord 63 = .ok (.aload_n 0, 1) ∧ 63 + 1 = 64 := ⟨by decide +kernel, rfl⟩
theorem zd_K_ownWord_64 : decode zb_K_ownWord 64 = .ok (.getfield 24, 3) ∧ 64 + 3 = 67 := ⟨by decide +kernel, rfl⟩
theorem zd_K_ownWord_67 : decode zb_K_ownWord 67 = .ok (.iload_n 1, 1) ∧ 67 + 1 = 68 := ⟨by decide +kernel, rfl⟩
theorem zd_K_ownWord_68 : decode zb_K_ownWord 68 = .ok (.iload 4, 2) ∧ 68 + 2 = 70 := ⟨by decide +kernel, rfl⟩
theorem zd_K_ownWord_70 : decode zb_K_ownWord 70 = .ok (.iadd, 1) ∧ 70 + 1 = 71 := ⟨by decide +kernel, rfl⟩
theorem zd_K_ownWord_71 : decode zb_K_ownWord 71 = .ok (.iaload, 1) ∧ 71 + 1 = 72 := ⟨by decide +kernel, rfl⟩
theorem zd_K_ownWord_72 : decode zb_K_ownWord 72 = .ok (.iload 6, 2) ∧ 72 + 2 = 74 := ⟨by decide +kernel, rfl⟩
theorem zd_K_ownWord_74 : decode zb_K_ownWord 74 = .ok (.if_icmp .ne 10, 3) ∧ ((74 : Nat) : Int) + (10) = ((84 : Nat) : Int) ∧ 74 + 3 = 77 := ⟨by decide +kernel, by decide, rfl⟩
theorem zd_K_ownWord_77 : decode zb_K_ownWord 77 = .ok (.iload 4, 2) ∧ 77 + 2 = 79 := ⟨by decide +kernel, rfl⟩
theorem zd_K_ownWord_79 : decode zb_K_ownWord 79 = .ok (.iconst 1, 1) ∧ 79 + 1 = 80 := ⟨by decide +kernel, rfl⟩
theorem zd_K_ownWord_80 : decode zb_K_ownWord 80 = .ok (.iadd, 1) ∧ 80 + 1 = 81 := ⟨by decide +kernel, rfl⟩
theorem zd_K_ownWord_81 : decode zb_K_ownWord 81 = .ok (.goto 4, 3) ∧ ((81 : Nat) : Int) + (4) = ((85 : Nat) : Int) ∧ 81 + 3 = 84 := ⟨by decide +kernel, by decide, rfl⟩
theorem zd_K_ownWord_84 : decode zb_K_ownWord 84 = .ok (.iconst (-1), 1) ∧ 84 + 1 = 85 := ⟨by decide +kernel, rfl⟩
theorem zd_K_ownWord_85 : decode zb_K_ownWord 85 = .ok (.istore 4, 2) ∧ 85 + 2 = 87 := ⟨by decide +kernel, rfl⟩
theorem zd_K_ownWord_87 : decode zb_K_ownWord 87 = .ok (.iinc 5 1, 3) ∧ 87 + 3 = 90 := ⟨by decide +kernel, rfl⟩
theorem zd_K_ownWord_90 : decode zb_K_ownWord 90 = .ok (.goto (-82), 3) ∧ ((90 : Nat) : Int) + (-82) = ((8 : Nat) : Int) ∧ 90 + 3 = 93 := ⟨by decide +kernel, by decide, rfl⟩
theorem zd_K_ownWord_93 : decode zb_K_ownWord 93 = .ok (.iconst (-1), 1) ∧ 93 + 1 = 94 := ⟨by decide +kernel, rfl⟩
theorem zd_K_ownWord_94 : decode zb_K_ownWord 94 = .ok (.ireturn, 1) ∧ 94 + 1 = 95 := ⟨by decide +kernel, rfl⟩
theorem zd_K_isLikeFirst_0 : decode zb_K_isLikeFirst 0 = .ok (.aload_n 0, 1) ∧ 0 + 1 = 1 := ⟨by decide +kernel, rfl⟩
theorem zd_K_isLikeFirst_1 : decode zb_K_isLikeFirst 1 = .ok (.getfield 24, 3) ∧ 1 + 3 = 4 := ⟨by decide +kernel, rfl⟩
theorem zd_K_isLikeFirst_4 : decode zb_K_isLikeFirst 4 = .ok (.iload_n 1, 1) ∧ 4 + 1 = 5 := ⟨by decide +kernel, rfl⟩
theorem zd_K_isLikeFirst_5 : decode zb_K_isLikeFirst 5 = .ok (.iaload, 1) ∧ 5 + 1 = 6 := ⟨by decide +kernel, rfl⟩
theorem zd_K_isLikeFirst_6 : decode zb_K_isLikeFirst 6 = .ok (.invokestatic 31, 3) ∧ 6 + 3 = 9 := ⟨by decide +kernel, rfl⟩
theorem zd_K_isLikeFirst_9 : decode zb_K_isLikeFirst 9 = .ok (.ifCond .eq 15, 3) ∧ ((9 : Nat) : Int) + (15) = ((24 : Nat) : Int) ∧ 9 + 3 = 12 := ⟨by decide +kernel, by decide, rfl⟩
theorem zd_K_isLikeFirst_12 : decode zb_K_isLikeFirst 12 = .ok (.aload_n 0, 1) ∧ 12 + 1 = 13 := ⟨by decide +kernel, rfl⟩
theorem zd_K_isLikeFirst_13 : decode zb_K_isLikeFirst 13 = .ok (.getfield 24, 3) ∧ 13 + 3 = 16 := ⟨by decide +kernel, rfl⟩
theorem zd_K_isLikeFirst_16 : decode zb_K_isLikeFirst 16 = .ok (.iload_n 2, 1) ∧ 16 + 1 = 17 := ⟨by decide +kernel, rfl⟩
theorem zd_K_isLikeFirst_17 : decode zb_K_isLikeFirst 17 = .ok (.iaload, 1) ∧ 17 + 1 = 18 := ⟨by decide +kernel, rfl⟩
theorem zd_K_isLikeFirst_18 : decode zb_K_isLikeFirst 18 = .ok (.invokestatic 31, 3) ∧ 18 + 3 = 21 := ⟨by decide +kernel, rfl⟩
theorem zd_K_isLikeFirst_21 : decode zb_K_isLikeFirst 21 = .ok (.goto 12, 3) ∧ ((21 : Nat) : Int) + (12) = ((33 : Nat) : Int) ∧ 21 + 3 = 24 := ⟨by decide +kernel, by decide, rfl⟩
theorem zd_K_isLikeFirst_24 : decode zb_K_isLikeFirst 24 = .ok (.aload_n 0, 1) ∧ 24 + 1 = 25 := ⟨by decide +kernel, rfl⟩
theorem zd_K_isLikeFirst_25 : decode zb_K_isLikeFirst 25 = .ok (.getfield 24, 3) ∧ 25 + 3 = 28 := ⟨by decide +kernel, rfl⟩
theorem zd_K_isLikeFirst_28 : decode zb_K_isLikeFirst 28 = .ok (.iload_n 2, 1) ∧ 28 + 1 = 29 := ⟨by decide +kernel, rfl⟩
theorem zd_K_isLikeFirst_29 : decode zb_K_isLikeFirst 29 = .ok (.iaload, 1) ∧ 29 + 1 = 30 := ⟨by decide +kernel, rfl⟩
theorem zd_K_isLikeFirst_30 : decode zb_K_isLikeFirst 30 = .ok (.invokestatic 35, 3) ∧ 30 + 3 = 33 := ⟨by decide +kernel, rfl⟩
theorem zd_K_isLikeFirst_33 : decode zb_K_isLikeFirst 33 = .ok (.ireturn, 1) ∧ 33 + 1 = 34 := ⟨by decide +kernel, rfl⟩
theorem zd_K_isLetter_0 : decode zb_K_isLetter 0 = .ok (.iload_n 0, 1) ∧ 0 + 1 = 1 := ⟨by decide +kernel, rfl⟩
theorem zd_K_isLetter_1 : decode zb_K_isLetter 1 = .ok (.bipush 97, 2) ∧ 1 + 2 = 3 := ⟨by decide +kernel, rfl⟩
theorem zd_K_isLetter_3 : decode zb_K_isLetter 3 = .ok (.if_icmp .lt 13, 3) ∧ ((3 : Nat) : Int) + (13) = ((16 : Nat) : Int) ∧ 3 + 3 = 6 := ⟨by decide +kernel, by decide, rfl⟩
theorem zd_K_isLetter_6 : decode zb_K_isLetter 6 = .ok (.iload_n 0, 1) ∧ 6 + 1 = 7 := ⟨by decide +kernel, rfl⟩
theorem zd_K_isLetter_7 : decode zb_K_isLetter 7 = .ok (.bipush 122, 2) ∧ 7 + 2 = 9 := ⟨by decide +kernel, rfl⟩
theorem zd_K_isLetter_9 : decode zb_K_isLetter 9 = .ok (.if_icmp .gt 7, 3) ∧ ((9 : Nat) : Int) + (7) = ((16 : Nat) : Int) ∧ 9 + 3 = 12 := ⟨by decide +kernel, by decide, rfl⟩
theorem zd_K_isLetter_12 : decode zb_K_isLetter 12 = .ok (.iconst 1, 1) ∧ 12 + 1 = 13 := ⟨by decide +kernel, rfl⟩
theorem zd_K_isLetter_13 : decode zb_K_isLetter 13 = .ok (.goto 4, 3) ∧ ((13 : Nat) : Int) + (4) = ((17 : Nat) : Int) ∧ 13 + 3 = 16 := ⟨by decide +kernel, by decide, rfl⟩
theorem zd_K_isLetter_16 : decode zb_K_isLetter 16 = .ok (.iconst 0, 1) ∧ 16 + 1 = 17 := ⟨by decide +kernel, rfl⟩
theorem zd_K_isLetter_17 : decode zb_K_isLetter 17 = .ok (.ireturn, 1) ∧ 17 + 1 = 18 := ⟨by decide +kernel, rfl⟩
theorem zd_K_isDigit_0 : decode zb_K_isDigit 0 = .ok (.iload_n 0, 1) ∧ 0 + 1 = 1 := ⟨by decide +kernel, rfl⟩
theorem zd_K_isDigit_1 : decode zb_K_isDigit 1 = .ok (.bipush 48, 2) ∧ 1 + 2 = 3 := ⟨by decide +kernel, rfl⟩
theorem zd_K_isDigit_3 : decode zb_K_isDigit 3 = .ok (.if_icmp .lt 13, 3) ∧ ((3 : Nat) : Int) + (13) = ((16 : Nat) : Int) ∧ 3 + 3 = 6 := ⟨by decide +kernel, by decide, rfl⟩
theorem zd_K_isDigit_6 : decode zb_K_isDigit 6 = .ok (.iload_n 0, 1) ∧ 6 + 1 = 7 := ⟨by decide +kernel, rfl⟩
theorem zd_K_isDigit_7 : decode zb_K_isDigit 7 = .ok (.bipush 57, 2) ∧ 7 + 2 = 9 := ⟨by decide +kernel, rfl⟩
theorem zd_K_isDigit_9 : decode zb_K_isDigit 9 = .ok (.if_icmp .gt 7, 3) ∧ ((9 : Nat) : Int) + (7) = ((16 : Nat) : Int) ∧ 9 + 3 = 12 := ⟨by decide +kernel, by decide, rfl⟩
theorem zd_K_isDigit_12 : decode zb_K_isDigit 12 = .ok (.iconst 1, 1) ∧ 12 + 1 = 13 := ⟨by decide +kernel, rfl⟩
theorem zd_K_isDigit_13 : decode zb_K_isDigit 13 = .ok (.goto 4, 3) ∧ ((13 : Nat) : Int) + (4) = ((17 : Nat) : Int) ∧ 13 + 3 = 16 := ⟨by decide +kernel, by decide, rfl⟩
theorem zd_K_isDigit_16 : decode zb_K_isDigit 16 = .ok (.iconst 0, 1) ∧ 16 + 1 = 17 := ⟨by decide +kernel, rfl⟩
theorem zd_K_isDigit_17 : decode zb_K_isDigit 17 = .ok (.ireturn, 1) ∧ 17 + 1 = 18 := ⟨by decide +kernel, rfl⟩
