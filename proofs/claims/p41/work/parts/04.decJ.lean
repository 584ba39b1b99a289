theorem zd_JB_init_0 : decode zb_JB_init 0 = .ok (.aload_n 0, 1) ∧ 0 + 1 = 1 := ⟨by decide +kernel, rfl⟩
theorem zd_JB_init_1 : decode zb_JB_init 1 = .ok (.invokespecial 3, 3) ∧ 1 + 3 = 4 := ⟨by decide +kernel, rfl⟩
theorem zd_JB_init_4 : decode zb_JB_init 4 = .ok (.getstatic 18, 3) ∧ 4 + 3 = 7 := ⟨by decide +kernel, rfl⟩
theorem zd_JB_init_7 : decode zb_JB_init 7 = .ok (.ifCond .eq 18, 3) ∧ ((7 : Nat) : Int) + (18) = ((25 : Nat) : Int) ∧ 7 + 3 = 10 := ⟨by decide +kernel, by decide, rfl⟩
theorem zd_JB_init_10 : decode zb_JB_init 10 = .ok (.aload_n 0, 1) ∧ 10 + 1 = 11 := ⟨by decide +kernel, rfl⟩
theorem zd_JB_init_11 : decode zb_JB_init 11 = .ok (.iload_n 1, 1) ∧ 11 + 1 = 12 := ⟨by decide +kernel, rfl⟩
theorem zd_JB_init_12 : decode zb_JB_init 12 = .ok (.newarray .byte, 2) ∧ 12 + 2 = 14 := ⟨by decide +kernel, rfl⟩
theorem zd_JB_init_14 : decode zb_JB_init 14 = .ok (.putfield 15, 3) ∧ 14 + 3 = 17 := ⟨by decide +kernel, rfl⟩
theorem zd_JB_init_17 : decode zb_JB_init 17 = .ok (.aload_n 0, 1) ∧ 17 + 1 = 18 := ⟨by decide +kernel, rfl⟩
theorem zd_JB_init_18 : decode zb_JB_init 18 = .ok (.iconst 0, 1) ∧ 18 + 1 = 19 := ⟨by decide +kernel, rfl⟩
theorem zd_JB_init_19 : decode zb_JB_init 19 = .ok (.putfield 22, 3) ∧ 19 + 3 = 22 := ⟨by decide +kernel, rfl⟩
theorem zd_JB_init_22 : decode zb_JB_init 22 = .ok (.goto 16, 3) ∧ ((22 : Nat) : Int) + (16) = ((38 : Nat) : Int) ∧ 22 + 3 = 25 := ⟨by decide +kernel, by decide, rfl⟩
theorem zd_JB_init_25 : decode zb_JB_init 25 = .ok (.aload_n 0, 1) ∧ 25 + 1 = 26 := ⟨by decide +kernel, rfl⟩
theorem zd_JB_init_26 : decode zb_JB_init 26 = .ok (.iload_n 1, 1) ∧ 26 + 1 = 27 := ⟨by decide +kernel, rfl⟩
theorem zd_JB_init_27 : decode zb_JB_init 27 = .ok (.invokestatic 26, 3) ∧ 27 + 3 = 30 := ⟨by decide +kernel, rfl⟩
theorem zd_JB_init_30 : decode zb_JB_init 30 = .ok (.putfield 15, 3) ∧ 30 + 3 = 33 := ⟨by decide +kernel, rfl⟩
theorem zd_JB_init_33 : decode zb_JB_init 33 = .ok (.aload_n 0, 1) ∧ 33 + 1 = 34 := ⟨by decide +kernel, rfl⟩
theorem zd_JB_init_34 : decode zb_JB_init 34 = .ok (.iconst 1, 1) ∧ 34 + 1 = 35 := ⟨by decide +kernel, rfl⟩
theorem zd_JB_init_35 : decode zb_JB_init 35 = .ok (.putfield 22, 3) ∧ 35 + 3 = 38 := ⟨by decide +kernel, rfl⟩
theorem zd_JB_init_38 : decode zb_JB_init 38 = .ok (.return_, 1) ∧ 38 + 1 = 39 := ⟨by decide +kernel, rfl⟩
theorem zd_JB_init_a7421_0 : decode zb_JB_init_a7421 0 = .ok (.aload_n 0, 1) ∧ 0 + 1 = 1 := ⟨by decide +kernel, rfl⟩
theorem zd_JB_init_a7421_1 : decode zb_JB_init_a7421 1 = .ok (.invokespecial 3, 3) ∧ 1 + 3 = 4 := ⟨by decide +kernel, rfl⟩
theorem zd_JB_init_a7421_4 : decode zb_JB_init_a7421 4 = .ok (.aload_n 1, 1) ∧ 4 + 1 = 5 := ⟨by decide +kernel, rfl⟩
theorem zd_JB_init_a7421_5 : decode zb_JB_init_a7421 5 = .ok (.invokevirtual 32, 3) ∧ 5 + 3 = 8 := ⟨by decide +kernel, rfl⟩
theorem zd_JB_init_a7421_8 : decode zb_JB_init_a7421 8 = .ok (.istore_n 2, 1) ∧ 8 + 1 = 9 := ⟨by decide +kernel, rfl⟩
theorem zd_JB_init_a7421_9 : decode zb_JB_init_a7421 9 = .ok (.iload_n 2, 1) ∧ 9 + 1 = 10 := ⟨by decide +kernel, rfl⟩
theorem zd_JB_init_a7421_10 : decode zb_JB_init_a7421 10 = .ok (.ldc 38, 2) ∧ 10 + 2 = 12 := ⟨by decide +kernel, rfl⟩
theorem zd_JB_init_a7421_12 : decode zb_JB_init_a7421 12 = .ok (.if_icmp .ge 10, 3) ∧ ((12 : Nat) : Int) + (10) = ((22 : Nat) : Int) ∧ 12 + 3 = 15 := ⟨by decide +kernel, by decide, rfl⟩
theorem zd_JB_init_a7421_15 : decode zb_JB_init_a7421 15 = .ok (.iload_n 2, 1) ∧ 15 + 1 = 16 := ⟨by decide +kernel, rfl⟩
theorem zd_JB_init_a7421_16 : decode zb_JB_init_a7421 16 = .ok (.bipush 16, 2) ∧ 16 + 2 = 18 := ⟨by decide +kernel, rfl⟩
theorem zd_JB_init_a7421_18 : decode zb_JB_init_a7421 18 = .ok (.iadd, 1) ∧ 18 + 1 = 19 := ⟨by decide +kernel, rfl⟩
theorem zd_JB_init_a7421_19 : decode zb_JB_init_a7421 19 = .ok (.goto 5, 3) ∧ ((19 : Nat) : Int) + (5) = ((24 : Nat) : Int) ∧ 19 + 3 = 22 := ⟨by decide +kernel, by decide, rfl⟩
theorem zd_JB_init_a7421_22 : decode zb_JB_init_a7421 22 = .ok (.ldc 39, 2) ∧ 22 + 2 = 24 := ⟨by decide +kernel, rfl⟩
theorem zd_JB_init_a7421_24 : decode zb_JB_init_a7421 24 = .ok (.istore_n 3, 1) ∧ 24 + 1 = 25 := ⟨by decide +kernel, rfl⟩
theorem zd_JB_init_a7421_25 : decode zb_JB_init_a7421 25 = .ok (.aload_n 1, 1) ∧ 25 + 1 = 26 := ⟨by decide +kernel, rfl⟩
theorem zd_JB_init_a7421_26 : decode zb_JB_init_a7421 26 = .ok (.invokevirtual 40, 3) ∧ 26 + 3 = 29 := ⟨by decide +kernel, rfl⟩
theorem zd_JB_init_a7421_29 : decode zb_JB_init_a7421 29 = .ok (.istore 4, 2) ∧ 29 + 2 = 31 := ⟨by decide +kernel, rfl⟩
theorem zd_JB_init_a7421_31 : decode zb_JB_init_a7421 31 = .ok (.aload_n 0, 1) ∧ 31 + 1 = 32 := ⟨by decide +kernel, rfl⟩
theorem zd_JB_init_a7421_32 : decode zb_JB_init_a7421 32 = .ok (.iload 4, 2) ∧ 32 + 2 = 34 := ⟨by decide +kernel, rfl⟩
theorem zd_JB_init_a7421_34 : decode zb_JB_init_a7421 34 = .ok (.putfield 22, 3) ∧ 34 + 3 = 37 := ⟨by decide +kernel, rfl⟩
theorem zd_JB_init_a7421_37 : decode zb_JB_init_a7421 37 = .ok (.aload_n 0, 1) ∧ 37 + 1 = 38 := ⟨by decide +kernel, rfl⟩
theorem zd_JB_init_a7421_38 : decode zb_JB_init_a7421 38 = .ok (.iload 4, 2) ∧ 38 + 2 = 40 := ⟨by decide +kernel, rfl⟩
theorem zd_JB_init_a7421_40 : decode zb_JB_init_a7421 40 = .ok (.ifCond .ne 9, 3) ∧ ((40 : Nat) : Int) + (9) = ((49 : Nat) : Int) ∧ 40 + 3 = 43 := ⟨by decide +kernel, by decide, rfl⟩
theorem zd_JB_init_a7421_43 : decode zb_JB_init_a7421 43 = .ok (.iload_n 3, 1) ∧ 43 + 1 = 44 := ⟨by decide +kernel, rfl⟩
theorem zd_JB_init_a7421_44 : decode zb_JB_init_a7421 44 = .ok (.newarray .byte, 2) ∧ 44 + 2 = 46 := ⟨by decide +kernel, rfl⟩
theorem zd_JB_init_a7421_46 : decode zb_JB_init_a7421 46 = .ok (.goto 7, 3) ∧ ((46 : Nat) : Int) + (7) = ((53 : Nat) : Int) ∧ 46 + 3 = 49 := ⟨by decide +kernel, by decide, rfl⟩
theorem zd_JB_init_a7421_49 : decode zb_JB_init_a7421 49 = .ok (.iload_n 3, 1) ∧ 49 + 1 = 50 := ⟨by decide +kernel, rfl⟩
theorem zd_JB_init_a7421_50 : decode zb_JB_init_a7421 50 = .ok (.invokestatic 26, 3) ∧ 50 + 3 = 53 := ⟨by decide +kernel, rfl⟩
theorem zd_JB_init_a7421_53 : decode zb_JB_init_a7421 53 = .ok (.putfield 15, 3) ∧ 53 + 3 = 56 := ⟨by decide +kernel, rfl⟩
theorem zd_JB_init_a7421_56 : decode zb_JB_init_a7421 56 = .ok (.aload_n 0, 1) ∧ 56 + 1 = 57 := ⟨by decide +kernel, rfl⟩
theorem zd_JB_init_a7421_57 : decode zb_JB_init_a7421 57 = .ok (.aload_n 1, 1) ∧ 57 + 1 = 58 := ⟨by decide +kernel, rfl⟩
theorem zd_JB_init_a7421_58 : decode zb_JB_init_a7421 58 = .ok (.invokevirtual 43, 3) ∧ 58 + 3 = 61 := ⟨by decide +kernel, rfl⟩
theorem zd_JB_init_a7421_61 : decode zb_JB_init_a7421 61 = .ok (.pop, 1) ∧ 61 + 1 = 62 := ⟨by decide +kernel, rfl⟩
theorem zd_JB_init_a7421_62 : decode zb_JB_init_a7421 62 = .ok (.return_, 1) ∧ 62 + 1 = 63 := ⟨by decide +kernel, rfl⟩
theorem zd_JB_length_0 : decode zb_JB_length 0 = .ok (.aload_n 0, 1) ∧ 0 + 1 = 1 := ⟨by decide +kernel, rfl⟩
theorem zd_JB_length_1 : decode zb_JB_length 1 = .ok (.getfield 79, 3) ∧ 1 + 3 = 4 := ⟨by decide +kernel, rfl⟩
theorem zd_JB_length_4 : decode zb_JB_length 4 = .ok (.ireturn, 1) ∧ 4 + 1 = 5 := ⟨by decide +kernel, rfl⟩
theorem zd_JB_ensureCapacityInternal_0 : decode zb_JB_ensureCapacityInternal 0 = .ok (.aload_n 0, 1) ∧ 0 + 1 = 1 := ⟨by decide +kernel, rfl⟩
theorem zd_JB_ensureCapacityInternal_1 : decode zb_JB_ensureCapacityInternal 1 = .ok (.getfield 15, 3) ∧ 1 + 3 = 4 := ⟨by decide +kernel, rfl⟩
theorem zd_JB_ensureCapacityInternal_4 : decode zb_JB_ensureCapacityInternal 4 = .ok (.arraylength, 1) ∧ 4 + 1 = 5 := ⟨by decide +kernel, rfl⟩
theorem zd_JB_ensureCapacityInternal_5 : decode zb_JB_ensureCapacityInternal 5 = .ok (.aload_n 0, 1) ∧ 5 + 1 = 6 := ⟨by decide +kernel, rfl⟩
theorem zd_JB_ensureCapacityInternal_6 : decode zb_JB_ensureCapacityInternal 6 = .ok (.getfield 22, 3) ∧ 6 + 3 = 9 := ⟨by decide +kernel, rfl⟩
theorem zd_JB_ensureCapacityInternal_9 : decode zb_JB_ensureCapacityInternal 9 = .ok (.ishr, 1) ∧ 9 + 1 = 10 := ⟨by decide +kernel, rfl⟩
theorem zd_JB_ensureCapacityInternal_10 : decode zb_JB_ensureCapacityInternal 10 = .ok (.istore_n 2, 1) ∧ 10 + 1 = 11 := ⟨by decide +kernel, rfl⟩
theorem zd_JB_ensureCapacityInternal_11 : decode zb_JB_ensureCapacityInternal 11 = .ok (.iload_n 1, 1) ∧ 11 + 1 = 12 := ⟨by decide +kernel, rfl⟩
theorem zd_JB_ensureCapacityInternal_12 : decode zb_JB_ensureCapacityInternal 12 = .ok (.iload_n 2, 1) ∧ 12 + 1 = 13 := ⟨by decide +kernel, rfl⟩
theorem zd_JB_ensureCapacityInternal_13 : decode zb_JB_ensureCapacityInternal 13 = .ok (.isub, 1) ∧ 13 + 1 = 14 := ⟨by decide +kernel, rfl⟩
theorem zd_JB_ensureCapacityInternal_14 : decode zb_JB_ensureCapacityInternal 14 = .ok (.ifCond .le 24, 3) ∧ ((14 : Nat) : Int) + (24) = ((38 : Nat) : Int) ∧ 14 + 3 = 17 := ⟨by decide +kernel, by decide, rfl⟩
theorem zd_JB_ensureCapacityInternal_17 : decode zb_JB_ensureCapacityInternal 17 = .ok (.aload_n 0, 1) ∧ 17 + 1 = 18 := ⟨by decide +kernel, rfl⟩
theorem zd_JB_ensureCapacityInternal_18 : decode zb_JB_ensureCapacityInternal 18 = .ok (.aload_n 0, 1) ∧ 18 + 1 = 19 := ⟨by decide +kernel, rfl⟩
theorem zd_JB_ensureCapacityInternal_19 : decode zb_JB_ensureCapacityInternal 19 = .ok (.getfield 15, 3) ∧ 19 + 3 = 22 := ⟨by decide +kernel, rfl⟩
theorem zd_JB_ensureCapacityInternal_22 : decode zb_JB_ensureCapacityInternal 22 = .ok (.aload_n 0, 1) ∧ 22 + 1 = 23 := ⟨by decide +kernel, rfl⟩
theorem zd_JB_ensureCapacityInternal_23 : decode zb_JB_ensureCapacityInternal 23 = .ok (.iload_n 1, 1) ∧ 23 + 1 = 24 := ⟨by decide +kernel, rfl⟩
theorem zd_JB_ensureCapacityInternal_24 : decode zb_JB_ensureCapacityInternal 24 = .ok (.invokevirtual 104, 3) ∧ 24 + 3 = 27 := ⟨by decide +kernel, rfl⟩
theorem zd_JB_ensureCapacityInternal_27 : decode zb_JB_ensureCapacityInternal 27 = .ok (.aload_n 0, 1) ∧ 27 + 1 = 28 := ⟨by decide +kernel, rfl⟩
theorem zd_JB_ensureCapacityInternal_28 : decode zb_JB_ensureCapacityInternal 28 = .ok (.getfield 22, 3) ∧ 28 + 3 = 31 := ⟨by decide +kernel, rfl⟩
theorem zd_JB_ensureCapacityInternal_31 : decode zb_JB_ensureCapacityInternal 31 = .ok (.ishl, 1) ∧ 31 + 1 = 32 := ⟨by decide +kernel, rfl⟩
theorem zd_JB_ensureCapacityInternal_32 : decode zb_JB_ensureCapacityInternal 32 = .ok (.invokestatic 108, 3) ∧ 32 + 3 = 35 := ⟨by decide +kernel, rfl⟩
theorem zd_JB_ensureCapacityInternal_35 : decode zb_JB_ensureCapacityInternal 35 = .ok (.putfield 15, 3) ∧ 35 + 3 = 38 := ⟨by decide +kernel, rfl⟩
theorem zd_JB_ensureCapacityInternal_38 : decode zb_JB_ensureCapacityInternal 38 = .ok (.return_, 1) ∧ 38 + 1 = 39 := ⟨by decide +kernel, rfl⟩
theorem zd_JB_newCapacity_0 : decode zb_JB_newCapacity 0 = .ok (.aload_n 0, 1) ∧ 0 + 1 = 1 := ⟨by decide +kernel, rfl⟩
theorem zd_JB_newCapacity_1 : decode zb_JB_newCapacity 1 = .ok (.getfield 15, 3) ∧ 1 + 3 = 4 := ⟨by decide +kernel, rfl⟩
theorem zd_JB_newCapacity_4 : decode zb_JB_newCapacity 4 = .ok (.arraylength, 1) ∧ 4 + 1 = 5 := ⟨by decide +kernel, rfl⟩
theorem zd_JB_newCapacity_5 : decode zb_JB_newCapacity 5 = .ok (.istore_n 2, 1) ∧ 5 + 1 = 6 := ⟨by decide +kernel, rfl⟩
theorem zd_JB_newCapacity_6 : decode zb_JB_newCapacity 6 = .ok (.iload_n 1, 1) ∧ 6 + 1 = 7 := ⟨by decide +kernel, rfl⟩
theorem zd_JB_newCapacity_7 : decode zb_JB_newCapacity 7 = .ok (.aload_n 0, 1) ∧ 7 + 1 = 8 := ⟨by decide +kernel, rfl⟩
theorem zd_JB_newCapacity_8 : decode zb_JB_newCapacity 8 = .ok (.getfield 22, 3) ∧ 8 + 3 = 11 := ⟨by decide +kernel, rfl⟩
theorem zd_JB_newCapacity_11 : decode zb_JB_newCapacity 11 = .ok (.ishl, 1) ∧ 11 + 1 = 12 := ⟨by decide +kernel, rfl⟩
theorem zd_JB_newCapacity_12 : decode zb_JB_newCapacity 12 = .ok (.istore_n 3, 1) ∧ 12 + 1 = 13 := ⟨by decide +kernel, rfl⟩
theorem zd_JB_newCapacity_13 : decode zb_JB_newCapacity 13 = .ok (.iload_n 3, 1) ∧ 13 + 1 = 14 := ⟨by decide +kernel, rfl⟩
theorem zd_JB_newCapacity_14 : decode zb_JB_newCapacity 14 = .ok (.iload_n 2, 1) ∧ 14 + 1 = 15 := ⟨by decide +kernel, rfl⟩
theorem zd_JB_newCapacity_15 : decode zb_JB_newCapacity 15 = .ok (.isub, 1) ∧ 15 + 1 = 16 := ⟨by decide +kernel, rfl⟩
theorem zd_JB_newCapacity_16 : decode zb_JB_newCapacity 16 = .ok (.istore 4, 2) ∧ 16 + 2 = 18 := ⟨by decide +kernel, rfl⟩
theorem zd_JB_newCapacity_18 : decode zb_JB_newCapacity 18 = .ok (.iload_n 2, 1) ∧ 18 + 1 = 19 := ⟨by decide +kernel, rfl⟩
theorem zd_JB_newCapacity_19 : decode zb_JB_newCapacity 19 = .ok (.iload 4, 2) ∧ 19 + 2 = 21 := ⟨by decide +kernel, rfl⟩
theorem zd_JB_newCapacity_21 : decode zb_JB_newCapacity 21 = .ok (.iload_n 2, 1) ∧ 21 + 1 = 22 := ⟨by decide +kernel, rfl⟩
theorem zd_JB_newCapacity_22 : decode zb_JB_newCapacity 22 = .ok (.iconst 2, 1) ∧ 22 + 1 = 23 := ⟨by decide +kernel, rfl⟩
theorem zd_JB_newCapacity_23 : decode zb_JB_newCapacity 23 = .ok (.aload_n 0, 1) ∧ 23 + 1 = 24 := ⟨by decide +kernel, rfl⟩
theorem zd_JB_newCapacity_24 : decode zb_JB_newCapacity 24 = .ok (.getfield 22, 3) ∧ 24 + 3 = 27 := ⟨by decide +kernel, rfl⟩
theorem zd_JB_newCapacity_27 : decode zb_JB_newCapacity 27 = .ok (.ishl, 1) ∧ 27 + 1 = 28 := ⟨by decide +kernel, rfl⟩
theorem zd_JB_newCapacity_28 : decode zb_JB_newCapacity 28 = .ok (.iadd, 1) ∧ 28 + 1 = 29 := ⟨by decide +kernel, rfl⟩
theorem zd_JB_newCapacity_29 : decode zb_JB_newCapacity 29 = .ok (.invokestatic 114, 3) ∧ 29 + 3 = 32 := ⟨by decide +kernel, rfl⟩
theorem zd_JB_newCapacity_32 : decode zb_JB_newCapacity 32 = .ok (.istore 5, 2) ∧ 32 + 2 = 34 := ⟨by decide +kernel, rfl⟩
theorem zd_JB_newCapacity_34 : decode zb_JB_newCapacity 34 = .ok (.iload 5, 2) ∧ 34 + 2 = 36 := ⟨by decide +kernel, rfl⟩
theorem zd_JB_newCapacity_36 : decode zb_JB_newCapacity 36 = .ok (.ldc 39, 2) ∧ 36 + 2 = 38 := ⟨by decide +kernel, rfl⟩
theorem zd_JB_newCapacity_38 : decode zb_JB_newCapacity 38 = .ok (.if_icmp .ne 13, 3) ∧ ((38 : Nat) : Int) + (13) = ((51 : Nat) : Int) ∧ 38 + 3 = 41 := ⟨by decide +kernel, by decide, rfl⟩
theorem zd_JB_newCapacity_41 : decode zb_JB_newCapacity 41 = .ok (.new 120, 3) ∧ 41 + 3 = 44 := ⟨by decide +kernel, rfl⟩
theorem zd_JB_newCapacity_44 : decode zb_JB_newCapacity 44 = .ok (.dup, 1) ∧ 44 + 1 = 45 := ⟨by decide +kernel, rfl⟩
theorem zd_JB_newCapacity_45 : decode zb_JB_newCapacity 45 = .ok (.ldc 122, 2) ∧ 45 + 2 = 47 := ⟨by decide +kernel, rfl⟩
theorem zd_JB_newCapacity_47 : decode zb_JB_newCapacity 47 = .ok (.invokespecial 124, 3) ∧ 47 + 3 = 50 := ⟨by decide +kernel, rfl⟩
theorem zd_JB_newCapacity_50 : decode zb_JB_newCapacity 50 = .ok (.athrow, 1) ∧ 50 + 1 = 51 := ⟨by decide +kernel, rfl⟩
theorem zd_JB_newCapacity_51 : decode zb_JB_newCapacity 51 = .ok (.iload 5, 2) ∧ 51 + 2 = 53 := ⟨by decide +kernel, rfl⟩
theorem zd_JB_newCapacity_53 : decode zb_JB_newCapacity 53 = .ok (.aload_n 0, 1) ∧ 53 + 1 = 54 := ⟨by decide +kernel, rfl⟩
theorem zd_JB_newCapacity_54 : decode zb_JB_newCapacity 54 = .ok (.getfield 22, 3) ∧ 54 + 3 = 57 := ⟨by decide +kernel, rfl⟩
theorem zd_JB_newCapacity_57 : decode zb_JB_newCapacity 57 = .ok (.ishr, 1) ∧ 57 + 1 = 58 := ⟨by decide +kernel, rfl⟩
theorem zd_JB_newCapacity_58 : decode zb_JB_newCapacity 58 = .ok (.ireturn, 1) ∧ 58 + 1 = 59 := ⟨by decide +kernel, rfl⟩
theorem zd_JB_inflate_0 : decode zb_JB_inflate 0 = .ok (.aload_n 0, 1) ∧ 0 + 1 = 1 := ⟨by decide +kernel, rfl⟩
theorem zd_JB_inflate_1 : decode zb_JB_inflate 1 = .ok (.invokevirtual 83, 3) ∧ 1 + 3 = 4 := ⟨by decide +kernel, rfl⟩
theorem zd_JB_inflate_4 : decode zb_JB_inflate 4 = .ok (.ifCond .ne 4, 3) ∧ ((4 : Nat) : Int) + (4) = ((8 : Nat) : Int) ∧ 4 + 3 = 7 := ⟨by decide +kernel, by decide, rfl⟩
theorem zd_JB_inflate_7 : decode zb_JB_inflate 7 = .ok (.return_, 1) ∧ 7 + 1 = 8 := ⟨by decide +kernel, rfl⟩
theorem zd_JB_inflate_8 : decode zb_JB_inflate 8 = .ok (.aload_n 0, 1) ∧ 8 + 1 = 9 := ⟨by decide +kernel, rfl⟩
theorem zd_JB_inflate_9 : decode zb_JB_inflate 9 = .ok (.getfield 15, 3) ∧ 9 + 3 = 12 := ⟨by decide +kernel, rfl⟩
theorem zd_JB_inflate_12 : decode zb_JB_inflate 12 = .ok (.arraylength, 1) ∧ 12 + 1 = 13 := ⟨by decide +kernel, rfl⟩
theorem zd_JB_inflate_13 : decode zb_JB_inflate 13 = .ok (.invokestatic 26, 3) ∧ 13 + 3 = 16 := ⟨by decide +kernel, rfl⟩
theorem zd_JB_inflate_16 : decode zb_JB_inflate 16 = .ok (.astore_n 1, 1) ∧ 16 + 1 = 17 := ⟨by decide +kernel, rfl⟩
theorem zd_JB_inflate_17 : decode zb_JB_inflate 17 = .ok (.aload_n 0, 1) ∧ 17 + 1 = 18 := ⟨by decide +kernel, rfl⟩
theorem zd_JB_inflate_18 : decode zb_JB_inflate 18 = .ok (.getfield 15, 3) ∧ 18 + 3 = 21 := ⟨by decide +kernel, rfl⟩
theorem zd_JB_inflate_21 : decode zb_JB_inflate 21 = .ok (.iconst 0, 1) ∧ 21 + 1 = 22 := ⟨by decide +kernel, rfl⟩
theorem zd_JB_inflate_22 : decode zb_JB_inflate 22 = .ok (.aload_n 1, 1) ∧ 22 + 1 = 23 := ⟨by decide +kernel, rfl⟩
theorem zd_JB_inflate_23 : decode zb_JB_inflate 23 = .ok (.iconst 0, 1) ∧ 23 + 1 = 24 := ⟨by decide +kernel, rfl⟩
theorem zd_JB_inflate_24 : decode zb_JB_inflate 24 = .ok (.aload_n 0, 1) ∧ 24 + 1 = 25 := ⟨by decide +kernel, rfl⟩
theorem zd_JB_inflate_25 : decode zb_JB_inflate 25 = .ok (.getfield 79, 3) ∧ 25 + 3 = 28 := ⟨by decide +kernel, rfl⟩
theorem zd_JB_inflate_28 : decode zb_JB_inflate 28 = .ok (.invokestatic 125, 3) ∧ 28 + 3 = 31 := ⟨by decide +kernel, rfl⟩
theorem zd_JB_inflate_31 : decode zb_JB_inflate 31 = .ok (.aload_n 0, 1) ∧ 31 + 1 = 32 := ⟨by decide +kernel, rfl⟩
theorem zd_JB_inflate_32 : decode zb_JB_inflate 32 = .ok (.aload_n 1, 1) ∧ 32 + 1 = 33 := ⟨by decide +kernel, rfl⟩
theorem zd_JB_inflate_33 : decode zb_JB_inflate 33 = .ok (.putfield 15, 3) ∧ 33 + 3 = 36 := ⟨by decide +kernel, rfl⟩
theorem zd_JB_inflate_36 : decode zb_JB_inflate 36 = .ok (.aload_n 0, 1) ∧ 36 + 1 = 37 := ⟨by decide +kernel, rfl⟩
theorem zd_JB_inflate_37 : decode zb_JB_inflate 37 = .ok (.iconst 1, 1) ∧ 37 + 1 = 38 := ⟨by decide +kernel, rfl⟩
theorem zd_JB_inflate_38 : decode zb_JB_inflate 38 = .ok (.putfield 22, 3) ∧ 38 + 3 = 41 := ⟨by decide +kernel, rfl⟩
theorem zd_JB_inflate_41 : decode zb_JB_inflate 41 = .ok (.return_, 1) ∧ 41 + 1 = 42 := ⟨by decide +kernel, rfl⟩
theorem zd_JB_append_0 : decode zb_JB_append 0 = .ok (.aload_n 1, 1) ∧ 0 + 1 = 1 := ⟨by decide +kernel, rfl⟩
theorem zd_JB_append_1 : decode zb_JB_append 1 = .ok (.ifnonnull 8, 3) ∧ 1 + 3 = 4 := ⟨by decide +kernel, rfl⟩
theorem zd_JB_append_4 : decode zb_JB_append 4 = .ok (.aload_n 0, 1) ∧ 4 + 1 = 5 := ⟨by decide +kernel, rfl⟩
theorem zd_JB_append_5 : decode zb_JB_append 5 = .ok (.invokevirtual 204, 3) ∧ 5 + 3 = 8 := ⟨by decide +kernel, rfl⟩
theorem zd_JB_append_8 : decode zb_JB_append 8 = .ok (.areturn, 1) ∧ 8 + 1 = 9 := ⟨by decide +kernel, rfl⟩
theorem zd_JB_append_9 : decode zb_JB_append 9 = .ok (.aload_n 1, 1) ∧ 9 + 1 = 10 := ⟨by decide +kernel, rfl⟩
theorem zd_JB_append_10 : decode zb_JB_append 10 = .ok (.invokevirtual 32, 3) ∧ 10 + 3 = 13 := ⟨by decide +kernel, rfl⟩
theorem zd_JB_append_13 : decode zb_JB_append 13 = .ok (.istore_n 2, 1) ∧ 13 + 1 = 14 := ⟨by decide +kernel, rfl⟩
theorem zd_JB_append_14 : decode zb_JB_append 14 = .ok (.aload_n 0, 1) ∧ 14 + 1 = 15 := ⟨by decide +kernel, rfl⟩
theorem zd_JB_append_15 : decode zb_JB_append 15 = .ok (.aload_n 0, 1) ∧ 15 + 1 = 16 := ⟨by decide +kernel, rfl⟩
theorem zd_JB_append_16 : decode zb_JB_append 16 = .ok (.getfield 79, 3) ∧ 16 + 3 = 19 := ⟨by decide +kernel, rfl⟩
theorem zd_JB_append_19 : decode zb_JB_append 19 = .ok (.iload_n 2, 1) ∧ 19 + 1 = 20 := ⟨by decide +kernel, rfl⟩
theorem zd_JB_append_20 : decode zb_JB_append 20 = .ok (.iadd, 1) ∧ 20 + 1 = 21 := ⟨by decide +kernel, rfl⟩
theorem zd_JB_append_21 : decode zb_JB_append 21 = .ok (.invokevirtual 100, 3) ∧ 21 + 3 = 24 := ⟨by decide +kernel, rfl⟩
theorem zd_JB_append_24 : decode zb_JB_append 24 = .ok (.aload_n 0, 1) ∧ 24 + 1 = 25 := ⟨by decide +kernel, rfl⟩
theorem zd_JB_append_25 : decode zb_JB_append 25 = .ok (.aload_n 0, 1) ∧ 25 + 1 = 26 := ⟨by decide +kernel, rfl⟩
theorem zd_JB_append_26 : decode zb_JB_append 26 = .ok (.getfield 79, 3) ∧ 26 + 3 = 29 := ⟨by decide +kernel, rfl⟩
theorem zd_JB_append_29 : decode zb_JB_append 29 = .ok (.aload_n 1, 1) ∧ 29 + 1 = 30 := ⟨by decide +kernel, rfl⟩
theorem zd_JB_append_30 : decode zb_JB_append 30 = .ok (.invokevirtual 208, 3) ∧ 30 + 3 = 33 := ⟨by decide +kernel, rfl⟩
theorem zd_JB_append_33 : decode zb_JB_append 33 = .ok (.aload_n 0, 1) ∧ 33 + 1 = 34 := ⟨by decide +kernel, rfl⟩
theorem zd_JB_append_34 : decode zb_JB_append 34 = .ok (.dup, 1) ∧ 34 + 1 = 35 := ⟨by decide +kernel, rfl⟩
theorem zd_JB_append_35 : decode zb_JB_append 35 = .ok (.getfield 79, 3) ∧ 35 + 3 = 38 := ⟨by decide +kernel, rfl⟩
theorem zd_JB_append_38 : decode zb_JB_append 38 = .ok (.iload_n 2, 1) ∧ 38 + 1 = 39 := ⟨by decide +kernel, rfl⟩
theorem zd_JB_append_39 : decode zb_JB_append 39 = .ok (.iadd, 1) ∧ 39 + 1 = 40 := ⟨by decide +kernel, rfl⟩
theorem zd_JB_append_40 : decode zb_JB_append 40 = .ok (.putfield 79, 3) ∧ 40 + 3 = 43 := ⟨by decide +kernel, rfl⟩
theorem zd_JB_append_43 : decode zb_JB_append 43 = .ok (.aload_n 0, 1) ∧ 43 + 1 = 44 := ⟨by decide +kernel, rfl⟩
theorem zd_JB_append_44 : decode zb_JB_append 44 = .ok (.areturn, 1) ∧ 44 + 1 = 45 := ⟨by decide +kernel, rfl⟩
theorem zd_JB_appendNull_0 : decode zb_JB_appendNull 0 = .ok (.aload_n 0, 1) ∧ 0 + 1 = 1 := ⟨by decide +kernel, rfl⟩
theorem zd_JB_appendNull_1 : decode zb_JB_appendNull 1 = .ok (.aload_n 0, 1) ∧ 1 + 1 = 2 := ⟨by decide +kernel, rfl⟩
theorem zd_JB_appendNull_2 : decode zb_JB_appendNull 2 = .ok (.getfield 79, 3) ∧ 2 + 3 = 5 := ⟨by decide +kernel, rfl⟩
theorem zd_JB_appendNull_5 : decode zb_JB_appendNull 5 = .ok (.iconst 4, 1) ∧ 5 + 1 = 6 := ⟨by decide +kernel, rfl⟩
theorem zd_JB_appendNull_6 : decode zb_JB_appendNull 6 = .ok (.iadd, 1) ∧ 6 + 1 = 7 := ⟨by decide +kernel, rfl⟩
theorem zd_JB_appendNull_7 : decode zb_JB_appendNull 7 = .ok (.invokevirtual 100, 3) ∧ 7 + 3 = 10 := ⟨by decide +kernel, rfl⟩
theorem zd_JB_appendNull_10 : decode zb_JB_appendNull 10 = .ok (.aload_n 0, 1) ∧ 10 + 1 = 11 := ⟨by decide +kernel, rfl⟩
theorem zd_JB_appendNull_11 : decode zb_JB_appendNull 11 = .ok (.getfield 79, 3) ∧ 11 + 3 = 14 := ⟨by decide +kernel, rfl⟩
theorem zd_JB_appendNull_14 : decode zb_JB_appendNull 14 = .ok (.istore_n 1, 1) ∧ 14 + 1 = 15 := ⟨by decide +kernel, rfl⟩
theorem zd_JB_appendNull_15 : decode zb_JB_appendNull 15 = .ok (.aload_n 0, 1) ∧ 15 + 1 = 16 := ⟨by decide +kernel, rfl⟩
theorem zd_JB_appendNull_16 : decode zb_JB_appendNull 16 = .ok (.getfield 15, 3) ∧ 16 + 3 = 19 := ⟨by decide +kernel, rfl⟩
theorem zd_JB_appendNull_19 : decode zb_JB_appendNull 19 = .ok (.astore_n 2, 1) ∧ 19 + 1 = 20 := ⟨by decide +kernel, rfl⟩
theorem zd_JB_appendNull_20 : decode zb_JB_appendNull 20 = .ok (.aload_n 0, 1) ∧ 20 + 1 = 21 := ⟨by decide +kernel, rfl⟩
theorem zd_JB_appendNull_21 : decode zb_JB_appendNull 21 = .ok (.invokevirtual 83, 3) ∧ 21 + 3 = 24 := ⟨by decide +kernel, rfl⟩
theorem zd_JB_appendNull_24 : decode zb_JB_appendNull 24 = .ok (.ifCond .eq 38, 3) ∧ ((24 : Nat) : Int) + (38) = ((62 : Nat) : Int) ∧ 24 + 3 = 27 := ⟨by decide +kernel, by decide, rfl⟩
theorem zd_JB_appendNull_27 : decode zb_JB_appendNull 27 = .ok (.aload_n 2, 1) ∧ 27 + 1 = 28 := ⟨by decide +kernel, rfl⟩
theorem zd_JB_appendNull_28 : decode zb_JB_appendNull 28 = .ok (.iload_n 1, 1) ∧ 28 + 1 = 29 := ⟨by decide +kernel, rfl⟩
theorem zd_JB_appendNull_29 : decode zb_JB_appendNull 29 = .ok (.iinc 1 1, 3) ∧ 29 + 3 = 32 := ⟨by decide +kernel, rfl⟩
theorem zd_JB_appendNull_32 : decode zb_JB_appendNull 32 = .ok (.bipush 110, 2) ∧ 32 + 2 = 34 := ⟨by decide +kernel, rfl⟩
theorem zd_JB_appendNull_34 : decode zb_JB_appendNull 34 = .ok (.bastore, 1) ∧ 34 + 1 = 35 := ⟨by decide +kernel, rfl⟩
theorem zd_JB_appendNull_35 : decode zb_JB_appendNull 35 = .ok (.aload_n 2, 1) ∧ 35 + 1 = 36 := ⟨by decide +kernel, rfl⟩
theorem zd_JB_appendNull_36 : decode zb_JB_appendNull 36 = .ok (.iload_n 1, 1) ∧ 36 + 1 = 37 := ⟨by decide +kernel, rfl⟩
theorem zd_JB_appendNull_37 : decode zb_JB_appendNull 37 = .ok (.iinc 1 1, 3) ∧ 37 + 3 = 40 := ⟨by decide +kernel, rfl⟩
theorem zd_JB_appendNull_40 : decode zb_JB_appendNull 40 = .ok (.bipush 117, 2) ∧ 40 + 2 = 42 := ⟨by decide +kernel, rfl⟩
theorem zd_JB_appendNull_42 : decode zb_JB_appendNull 42 = .ok (.bastore, 1) ∧ 42 + 1 = 43 := ⟨by decide +kernel, rfl⟩
theorem zd_JB_appendNull_43 : decode zb_JB_appendNull 43 = .ok (.aload_n 2, 1) ∧ 43 + 1 = 44 := ⟨by decide +kernel, rfl⟩
theorem zd_JB_appendNull_44 : decode zb_JB_appendNull 44 = .ok (.iload_n 1, 1) ∧ 44 + 1 = 45 := ⟨by decide +kernel, rfl⟩
theorem zd_JB_appendNull_45 : decode zb_JB_appendNull 45 = .ok (.iinc 1 1, 3) ∧ 45 + 3 = 48 := ⟨by decide +kernel, rfl⟩
theorem zd_JB_appendNull_48 : decode zb_JB_appendNull 48 = .ok (.bipush 108, 2) ∧ 48 + 2 = 50 := ⟨by decide +kernel, rfl⟩
theorem zd_JB_appendNull_50 : decode zb_JB_appendNull 50 = .ok (.bastore, 1) ∧ 50 + 1 = 51 := ⟨by decide +kernel, rfl⟩
theorem zd_JB_appendNull_51 : decode zb_JB_appendNull 51 = .ok (.aload_n 2, 1) ∧ 51 + 1 = 52 := ⟨by decide +kernel, rfl⟩
theorem zd_JB_appendNull_52 : decode zb_JB_appendNull 52 = .ok (.iload_n 1, 1) ∧ 52 + 1 = 53 := ⟨by decide +kernel, rfl⟩
theorem zd_JB_appendNull_53 : decode zb_JB_appendNull 53 = .ok (.iinc 1 1, 3) ∧ 53 + 3 = 56 := ⟨by decide +kernel, rfl⟩
theorem zd_JB_appendNull_56 : decode zb_JB_appendNull 56 = .ok (.bipush 108, 2) ∧ 56 + 2 = 58 := ⟨by decide +kernel, rfl⟩
theorem zd_JB_appendNull_58 : decode zb_JB_appendNull 58 = .ok (.bastore, 1) ∧ 58 + 1 = 59 := ⟨by decide +kernel, rfl⟩
theorem zd_JB_appendNull_59 : decode zb_JB_appendNull 59 = .ok (.goto 17, 3) ∧ ((59 : Nat) : Int) + (17) = ((76 : Nat) : Int) ∧ 59 + 3 = 62 := ⟨by decide +kernel, by decide, rfl⟩
theorem zd_JB_appendNull_62 : decode zb_JB_appendNull 62 = .ok (.aload_n 2, 1) ∧ 62 + 1 = 63 := ⟨by decide +kernel, rfl⟩
theorem zd_JB_appendNull_63 : decode zb_JB_appendNull 63 = .ok (.iload_n 1, 1) ∧ 63 + 1 = 64 := ⟨by decide +kernel, rfl⟩
theorem zd_JB_appendNull_64 : decode zb_JB_appendNull 64 = .ok (.bipush 110, 2) ∧ 64 + 2 = 66 := ⟨by decide +kernel, rfl⟩
theorem zd_JB_appendNull_66 : decode zb_JB_appendNull 66 = .ok (.bipush 117, 2) ∧ 66 + 2 = 68 := ⟨by decide +kernel, rfl⟩
theorem zd_JB_appendNull_68 : decode zb_JB_appendNull 68 = .ok (.bipush 108, 2) ∧ 68 + 2 = 70 := ⟨by decide +kernel, rfl⟩
theorem zd_JB_appendNull_70 : decode zb_JB_appendNull 70 = .ok (.bipush 108, 2) ∧ 70 + 2 = 72 := ⟨by decide +kernel, rfl⟩
theorem zd_JB_appendNull_72 : decode zb_JB_appendNull 72 = .ok (.invokestatic 226, 3) ∧ 72 + 3 = 75 := ⟨by decide +kernel, rfl⟩
theorem zd_JB_appendNull_75 : decode zb_JB_appendNull 75 = .ok (.istore_n 1, 1) ∧ 75 + 1 = 76 := ⟨by decide +kernel, rfl⟩
theorem zd_JB_appendNull_76 : decode zb_JB_appendNull 76 = .ok (.aload_n 0, 1) ∧ 76 + 1 = 77 := ⟨by decide +kernel, rfl⟩
theorem zd_JB_appendNull_77 : decode zb_JB_appendNull 77 = .ok (.iload_n 1, 1) ∧ 77 + 1 = 78 := ⟨by decide +kernel, rfl⟩
theorem zd_JB_appendNull_78 : decode zb_JB_appendNull 78 = .ok (.putfield 79, 3) ∧ 78 + 3 = 81 := ⟨by decide +kernel, rfl⟩
theorem zd_JB_appendNull_81 : decode zb_JB_appendNull 81 = .ok (.aload_n 0, 1) ∧ 81 + 1 = 82 := ⟨by decide +kernel, rfl⟩
theorem zd_JB_appendNull_82 : decode zb_JB_appendNull 82 = .ok (.areturn, 1) ∧ 82 + 1 = 83 := ⟨by decide +kernel, rfl⟩
theorem zd_JB_append_3fe6f_0 : decode zb_JB_append_3fe6f 0 = .ok (.aload_n 0, 1) ∧ 0 + 1 = 1 := ⟨by decide +kernel, rfl⟩
theorem zd_JB_append_3fe6f_1 : decode zb_JB_append_3fe6f 1 = .ok (.aload_n 0, 1) ∧ 1 + 1 = 2 := ⟨by decide +kernel, rfl⟩
theorem zd_JB_append_3fe6f_2 : decode zb_JB_append_3fe6f 2 = .ok (.getfield 79, 3) ∧ 2 + 3 = 5 := ⟨by decide +kernel, rfl⟩
theorem zd_JB_append_3fe6f_5 : decode zb_JB_append_3fe6f 5 = .ok (.iconst 1, 1) ∧ 5 + 1 = 6 := ⟨by decide +kernel, rfl⟩
theorem zd_JB_append_3fe6f_6 : decode zb_JB_append_3fe6f 6 = .ok (.iadd, 1) ∧ 6 + 1 = 7 := ⟨by decide +kernel, rfl⟩
theorem zd_JB_append_3fe6f_7 : decode zb_JB_append_3fe6f 7 = .ok (.invokevirtual 100, 3) ∧ 7 + 3 = 10 := ⟨by decide +kernel, rfl⟩
theorem zd_JB_append_3fe6f_10 : decode zb_JB_append_3fe6f 10 = .ok (.aload_n 0, 1) ∧ 10 + 1 = 11 := ⟨by decide +kernel, rfl⟩
theorem zd_JB_append_3fe6f_11 : decode zb_JB_append_3fe6f 11 = .ok (.invokevirtual 83, 3) ∧ 11 + 3 = 14 := ⟨by decide +kernel, rfl⟩
theorem zd_JB_append_3fe6f_14 : decode zb_JB_append_3fe6f 14 = .ok (.ifCond .eq 31, 3) ∧ ((14 : Nat) : Int) + (31) = ((45 : Nat) : Int) ∧ 14 + 3 = 17 := ⟨by decide +kernel, by decide, rfl⟩
theorem zd_JB_append_3fe6f_17 : decode zb_JB_append_3fe6f 17 = .ok (.iload_n 1, 1) ∧ 17 + 1 = 18 := ⟨by decide +kernel, rfl⟩
theorem zd_JB_append_3fe6f_18 : decode zb_JB_append_3fe6f 18 = .ok (.invokestatic 191, 3) ∧ 18 + 3 = 21 := ⟨by decide +kernel, rfl⟩
theorem zd_JB_append_3fe6f_21 : decode zb_JB_append_3fe6f 21 = .ok (.ifCond .eq 24, 3) ∧ ((21 : Nat) : Int) + (24) = ((45 : Nat) : Int) ∧ 21 + 3 = 24 := ⟨by decide +kernel, by decide, rfl⟩
theorem zd_JB_append_3fe6f_24 : decode zb_JB_append_3fe6f 24 = .ok (.aload_n 0, 1) ∧ 24 + 1 = 25 := ⟨by decide +kernel, rfl⟩
theorem zd_JB_append_3fe6f_25 : decode zb_JB_append_3fe6f 25 = .ok (.getfield 15, 3) ∧ 25 + 3 = 28 := ⟨by decide +kernel, rfl⟩
theorem zd_JB_append_3fe6f_28 : decode zb_JB_append_3fe6f 28 = .ok (.aload_n 0, 1) ∧ 28 + 1 = 29 := ⟨by decide +kernel, rfl⟩
theorem zd_JB_append_3fe6f_29 : decode zb_JB_append_3fe6f 29 = .ok (.dup, 1) ∧ 29 + 1 = 30 := ⟨by decide +kernel, rfl⟩
theorem zd_JB_append_3fe6f_30 : decode zb_JB_append_3fe6f 30 = .ok (.getfield 79, 3) ∧ 30 + 3 = 33 := ⟨by decide +kernel, rfl⟩
theorem zd_JB_append_3fe6f_33 : decode zb_JB_append_3fe6f 33 = .ok (.dup_x1, 1) ∧ 33 + 1 = 34 := ⟨by decide +kernel, rfl⟩
theorem zd_JB_append_3fe6f_34 : decode zb_JB_append_3fe6f 34 = .ok (.iconst 1, 1) ∧ 34 + 1 = 35 := ⟨by decide +kernel, rfl⟩
theorem zd_JB_append_3fe6f_35 : decode zb_JB_append_3fe6f 35 = .ok (.iadd, 1) ∧ 35 + 1 = 36 := ⟨by decide +kernel, rfl⟩
theorem zd_JB_append_3fe6f_36 : decode zb_JB_append_3fe6f 36 = .ok (.putfield 79, 3) ∧ 36 + 3 = 39 := ⟨by decide +kernel, rfl⟩
theorem zd_JB_append_3fe6f_39 : decode zb_JB_append_3fe6f 39 = .ok (.iload_n 1, 1) ∧ 39 + 1 = 40 := ⟨by decide +kernel, rfl⟩
theorem zd_JB_append_3fe6f_40 : decode zb_JB_append_3fe6f 40 = .ok (.i2b, 1) ∧ 40 + 1 = 41 := ⟨by decide +kernel, rfl⟩
theorem zd_JB_append_3fe6f_41 : decode zb_JB_append_3fe6f 41 = .ok (.bastore, 1) ∧ 41 + 1 = 42 := ⟨by decide +kernel, rfl⟩
theorem zd_JB_append_3fe6f_42 : decode zb_JB_append_3fe6f 42 = .ok (.goto 33, 3) ∧ ((42 : Nat) : Int) + (33) = ((75 : Nat) : Int) ∧ 42 + 3 = 45 := ⟨by decide +kernel, by decide, rfl⟩
theorem zd_JB_append_3fe6f_45 : decode zb_JB_append_3fe6f 45 = .ok (.aload_n 0, 1) ∧ 45 + 1 = 46 := ⟨by decide +kernel, rfl⟩
theorem zd_JB_append_3fe6f_46 : decode zb_JB_append_3fe6f 46 = .ok (.invokevirtual 83, 3) ∧ 46 + 3 = 49 := ⟨by decide +kernel, rfl⟩
theorem zd_JB_append_3fe6f_49 : decode zb_JB_append_3fe6f 49 = .ok (.ifCond .eq 7, 3) ∧ ((49 : Nat) : Int) + (7) = ((56 : Nat) : Int) ∧ 49 + 3 = 52 := ⟨by decide +kernel, by decide, rfl⟩
theorem zd_JB_append_3fe6f_52 : decode zb_JB_append_3fe6f 52 = .ok (.aload_n 0, 1) ∧ 52 + 1 = 53 := ⟨by decide +kernel, rfl⟩
theorem zd_JB_append_3fe6f_53 : decode zb_JB_append_3fe6f 53 = .ok (.invokevirtual 195, 3) ∧ 53 + 3 = 56 := ⟨by decide +kernel, rfl⟩
theorem zd_JB_append_3fe6f_56 : decode zb_JB_append_3fe6f 56 = .ok (.aload_n 0, 1) ∧ 56 + 1 = 57 := ⟨by decide +kernel, rfl⟩
theorem zd_JB_append_3fe6f_57 : decode zb_JB_append_3fe6f 57 = .ok (.getfield 15, 3) ∧ 57 + 3 = 60 := ⟨by decide +kernel, rfl⟩
theorem zd_JB_append_3fe6f_60 : decode zb_JB_append_3fe6f 60 = .ok (.aload_n 0, 1) ∧ 60 + 1 = 61 := ⟨by decide +kernel, rfl⟩
theorem zd_JB_append_3fe6f_61 : decode zb_JB_append_3fe6f 61 = .ok (.dup, 1) ∧ 61 + 1 = 62 := ⟨by decide +kernel, rfl⟩
theorem zd_JB_append_3fe6f_62 : decode zb_JB_append_3fe6f 62 = .ok (.getfield 79, 3) ∧ 62 + 3 = 65 := ⟨by decide +kernel, rfl⟩
theorem zd_JB_append_3fe6f_65 : decode zb_JB_append_3fe6f 65 = .ok (.dup_x1, 1) ∧ 65 + 1 = 66 := ⟨by decide +kernel, rfl⟩
theorem zd_JB_append_3fe6f_66 : decode zb_JB_append_3fe6f 66 = .ok (.iconst 1, 1) ∧ 66 + 1 = 67 := ⟨by decide +kernel, rfl⟩
theorem zd_JB_append_3fe6f_67 : decode zb_JB_append_3fe6f 67 = .ok (.iadd, 1) ∧ 67 + 1 = 68 := ⟨by decide +kernel, rfl⟩
theorem zd_JB_append_3fe6f_68 : decode zb_JB_append_3fe6f 68 = .ok (.putfield 79, 3) ∧ 68 + 3 = 71 := ⟨by decide +kernel, rfl⟩
theorem zd_JB_append_3fe6f_71 : decode zb_JB_append_3fe6f 71 = .ok (.iload_n 1, 1) ∧ 71 + 1 = 72 := ⟨by decide +kernel, rfl⟩
theorem zd_JB_append_3fe6f_72 : decode zb_JB_append_3fe6f 72 = .ok (.invokestatic 197, 3) ∧ 72 + 3 = 75 := ⟨by decide +kernel, rfl⟩
theorem zd_JB_append_3fe6f_75 : decode zb_JB_append_3fe6f 75 = .ok (.aload_n 0, 1) ∧ 75 + 1 = 76 := ⟨by decide +kernel, rfl⟩
theorem zd_JB_append_3fe6f_76 : decode zb_JB_append_3fe6f 76 = .ok (.areturn, 1) ∧ 76 + 1 = 77 := ⟨by decide +kernel, rfl⟩
theorem zd_JB_append_c97b9_0 : decode zb_JB_append_c97b9 0 = .ok (.aload_n 0, 1) ∧ 0 + 1 = 1 := ⟨by decide +kernel, rfl⟩
theorem zd_JB_append_c97b9_1 : decode zb_JB_append_c97b9 1 = .ok (.getfield 79, 3) ∧ 1 + 3 = 4 := ⟨by decide +kernel, rfl⟩
theorem zd_JB_append_c97b9_4 : decode zb_JB_append_c97b9 4 = .ok (.istore_n 2, 1) ∧ 4 + 1 = 5 := ⟨by decide +kernel, rfl⟩
theorem zd_JB_append_c97b9_5 : decode zb_JB_append_c97b9 5 = .ok (.iload_n 2, 1) ∧ 5 + 1 = 6 := ⟨by decide +kernel, rfl⟩
theorem zd_JB_append_c97b9_6 : decode zb_JB_append_c97b9 6 = .ok (.iload_n 1, 1) ∧ 6 + 1 = 7 := ⟨by decide +kernel, rfl⟩
theorem zd_JB_append_c97b9_7 : decode zb_JB_append_c97b9 7 = .ok (.invokestatic 245, 3) ∧ 7 + 3 = 10 := ⟨by decide +kernel, rfl⟩
theorem zd_JB_append_c97b9_10 : decode zb_JB_append_c97b9 10 = .ok (.iadd, 1) ∧ 10 + 1 = 11 := ⟨by decide +kernel, rfl⟩
theorem zd_JB_append_c97b9_11 : decode zb_JB_append_c97b9 11 = .ok (.istore_n 3, 1) ∧ 11 + 1 = 12 := ⟨by decide +kernel, rfl⟩
theorem zd_JB_append_c97b9_12 : decode zb_JB_append_c97b9 12 = .ok (.aload_n 0, 1) ∧ 12 + 1 = 13 := ⟨by decide +kernel, rfl⟩
theorem zd_JB_append_c97b9_13 : decode zb_JB_append_c97b9 13 = .ok (.iload_n 3, 1) ∧ 13 + 1 = 14 := ⟨by decide +kernel, rfl⟩
theorem zd_JB_append_c97b9_14 : decode zb_JB_append_c97b9 14 = .ok (.invokevirtual 100, 3) ∧ 14 + 3 = 17 := ⟨by decide +kernel, rfl⟩
theorem zd_JB_append_c97b9_17 : decode zb_JB_append_c97b9 17 = .ok (.aload_n 0, 1) ∧ 17 + 1 = 18 := ⟨by decide +kernel, rfl⟩
theorem zd_JB_append_c97b9_18 : decode zb_JB_append_c97b9 18 = .ok (.invokevirtual 83, 3) ∧ 18 + 3 = 21 := ⟨by decide +kernel, rfl⟩
theorem zd_JB_append_c97b9_21 : decode zb_JB_append_c97b9 21 = .ok (.ifCond .eq 16, 3) ∧ ((21 : Nat) : Int) + (16) = ((37 : Nat) : Int) ∧ 21 + 3 = 24 := ⟨by decide +kernel, by decide, rfl⟩
theorem zd_JB_append_c97b9_24 : decode zb_JB_append_c97b9 24 = .ok (.iload_n 1, 1) ∧ 24 + 1 = 25 := ⟨by decide +kernel, rfl⟩
theorem zd_JB_append_c97b9_25 : decode zb_JB_append_c97b9 25 = .ok (.iload_n 3, 1) ∧ 25 + 1 = 26 := ⟨by decide +kernel, rfl⟩
theorem zd_JB_append_c97b9_26 : decode zb_JB_append_c97b9 26 = .ok (.aload_n 0, 1) ∧ 26 + 1 = 27 := ⟨by decide +kernel, rfl⟩
theorem zd_JB_append_c97b9_27 : decode zb_JB_append_c97b9 27 = .ok (.getfield 15, 3) ∧ 27 + 3 = 30 := ⟨by decide +kernel, rfl⟩
theorem zd_JB_append_c97b9_30 : decode zb_JB_append_c97b9 30 = .ok (.invokestatic 248, 3) ∧ 30 + 3 = 33 := ⟨by decide +kernel, rfl⟩
theorem zd_JB_append_c97b9_33 : decode zb_JB_append_c97b9 33 = .ok (.pop, 1) ∧ 33 + 1 = 34 := ⟨by decide +kernel, rfl⟩
theorem zd_JB_append_c97b9_34 : decode zb_JB_append_c97b9 34 = .ok (.goto 14, 3) ∧ ((34 : Nat) : Int) + (14) = ((48 : Nat) : Int) ∧ 34 + 3 = 37 := ⟨by decide +kernel, by decide, rfl⟩
theorem zd_JB_append_c97b9_37 : decode zb_JB_append_c97b9 37 = .ok (.iload_n 1, 1) ∧ 37 + 1 = 38 := ⟨by decide +kernel, rfl⟩
theorem zd_JB_append_c97b9_38 : decode zb_JB_append_c97b9 38 = .ok (.iload_n 2, 1) ∧ 38 + 1 = 39 := ⟨by decide +kernel, rfl⟩
theorem zd_JB_append_c97b9_39 : decode zb_JB_append_c97b9 39 = .ok (.iload_n 3, 1) ∧ 39 + 1 = 40 := ⟨by decide +kernel, rfl⟩
theorem zd_JB_append_c97b9_40 : decode zb_JB_append_c97b9 40 = .ok (.aload_n 0, 1) ∧ 40 + 1 = 41 := ⟨by decide +kernel, rfl⟩
theorem zd_JB_append_c97b9_41 : decode zb_JB_append_c97b9 41 = .ok (.getfield 15, 3) ∧ 41 + 3 = 44 := ⟨by decide +kernel, rfl⟩
theorem zd_JB_append_c97b9_44 : decode zb_JB_append_c97b9 44 = .ok (.invokestatic 251, 3) ∧ 44 + 3 = 47 := ⟨by decide +kernel, rfl⟩
theorem zd_JB_append_c97b9_47 : decode zb_JB_append_c97b9 47 = .ok (.pop, 1) ∧ 47 + 1 = 48 := ⟨by decide +kernel, rfl⟩
theorem zd_JB_append_c97b9_48 : decode zb_JB_append_c97b9 48 = .ok (.aload_n 0, 1) ∧ 48 + 1 = 49 := ⟨by decide +kernel, rfl⟩
theorem zd_JB_append_c97b9_49 : decode zb_JB_append_c97b9 49 = .ok (.iload_n 3, 1) ∧ 49 + 1 = 50 := ⟨by decide +kernel, rfl⟩
theorem zd_JB_append_c97b9_50 : decode zb_JB_append_c97b9 50 = .ok (.putfield 79, 3) ∧ 50 + 3 = 53 := ⟨by decide +kernel, rfl⟩
theorem zd_JB_append_c97b9_53 : decode zb_JB_append_c97b9 53 = .ok (.aload_n 0, 1) ∧ 53 + 1 = 54 := ⟨by decide +kernel, rfl⟩
theorem zd_JB_append_c97b9_54 : decode zb_JB_append_c97b9 54 = .ok (.areturn, 1) ∧ 54 + 1 = 55 := ⟨by decide +kernel, rfl⟩
theorem zd_JB_getValue_0 : decode zb_JB_getValue 0 = .ok (.aload_n 0, 1) ∧ 0 + 1 = 1 := ⟨by decide +kernel, rfl⟩
theorem zd_JB_getValue_1 : decode zb_JB_getValue 1 = .ok (.getfield 15, 3) ∧ 1 + 3 = 4 := ⟨by decide +kernel, rfl⟩
theorem zd_JB_getValue_4 : decode zb_JB_getValue 4 = .ok (.areturn, 1) ∧ 4 + 1 = 5 := ⟨by decide +kernel, rfl⟩
theorem zd_JB_isLatin1_0 : decode zb_JB_isLatin1 0 = .ok (.getstatic 18, 3) ∧ 0 + 3 = 3 := ⟨by decide +kernel, rfl⟩
theorem zd_JB_isLatin1_3 : decode zb_JB_isLatin1 3 = .ok (.ifCond .eq 14, 3) ∧ ((3 : Nat) : Int) + (14) = ((17 : Nat) : Int) ∧ 3 + 3 = 6 := ⟨by decide +kernel, by decide, rfl⟩
theorem zd_JB_isLatin1_6 : decode zb_JB_isLatin1 6 = .ok (.aload_n 0, 1) ∧ 6 + 1 = 7 := ⟨by decide +kernel, rfl⟩
theorem zd_JB_isLatin1_7 : decode zb_JB_isLatin1 7 = .ok (.getfield 22, 3) ∧ 7 + 3 = 10 := ⟨by decide +kernel, rfl⟩
theorem zd_JB_isLatin1_10 : decode zb_JB_isLatin1 10 = .ok (.ifCond .ne 7, 3) ∧ ((10 : Nat) : Int) + (7) = ((17 : Nat) : Int) ∧ 10 + 3 = 13 := ⟨by decide +kernel, by decide, rfl⟩
theorem zd_JB_isLatin1_13 : decode zb_JB_isLatin1 13 = .ok (.iconst 1, 1) ∧ 13 + 1 = 14 := ⟨by decide +kernel, rfl⟩
theorem zd_JB_isLatin1_14 : decode zb_JB_isLatin1 14 = .ok (.goto 4, 3) ∧ ((14 : Nat) : Int) + (4) = ((18 : Nat) : Int) ∧ 14 + 3 = 17 := ⟨by decide +kernel, by decide, rfl⟩
theorem zd_JB_isLatin1_17 : decode zb_JB_isLatin1 17 = .ok (.iconst 0, 1) ∧ 17 + 1 = 18 := ⟨by decide +kernel, rfl⟩
theorem zd_JB_isLatin1_18 : decode zb_JB_isLatin1 18 = .ok (.ireturn, 1) ∧ 18 + 1 = 19 := ⟨by decide +kernel, rfl⟩
theorem zd_JB_inflateIfNeededFor_0 : decode zb_JB_inflateIfNeededFor 0 = .ok (.getstatic 18, 3) ∧ 0 + 3 = 3 := ⟨by decide +kernel, rfl⟩
theorem zd_JB_inflateIfNeededFor_3 : decode zb_JB_inflateIfNeededFor 3 = .ok (.ifCond .eq 18, 3) ∧ ((3 : Nat) : Int) + (18) = ((21 : Nat) : Int) ∧ 3 + 3 = 6 := ⟨by decide +kernel, by decide, rfl⟩
theorem zd_JB_inflateIfNeededFor_6 : decode zb_JB_inflateIfNeededFor 6 = .ok (.aload_n 0, 1) ∧ 6 + 1 = 7 := ⟨by decide +kernel, rfl⟩
theorem zd_JB_inflateIfNeededFor_7 : decode zb_JB_inflateIfNeededFor 7 = .ok (.getfield 22, 3) ∧ 7 + 3 = 10 := ⟨by decide +kernel, rfl⟩
theorem zd_JB_inflateIfNeededFor_10 : decode zb_JB_inflateIfNeededFor 10 = .ok (.aload_n 1, 1) ∧ 10 + 1 = 11 := ⟨by decide +kernel, rfl⟩
theorem zd_JB_inflateIfNeededFor_11 : decode zb_JB_inflateIfNeededFor 11 = .ok (.invokevirtual 40, 3) ∧ 11 + 3 = 14 := ⟨by decide +kernel, rfl⟩
theorem zd_JB_inflateIfNeededFor_14 : decode zb_JB_inflateIfNeededFor 14 = .ok (.if_icmp .eq 7, 3) ∧ ((14 : Nat) : Int) + (7) = ((21 : Nat) : Int) ∧ 14 + 3 = 17 := ⟨by decide +kernel, by decide, rfl⟩
theorem zd_JB_inflateIfNeededFor_17 : decode zb_JB_inflateIfNeededFor 17 = .ok (.aload_n 0, 1) ∧ 17 + 1 = 18 := ⟨by decide +kernel, rfl⟩
theorem zd_JB_inflateIfNeededFor_18 : decode zb_JB_inflateIfNeededFor 18 = .ok (.invokevirtual 195, 3) ∧ 18 + 3 = 21 := ⟨by decide +kernel, rfl⟩
theorem zd_JB_inflateIfNeededFor_21 : decode zb_JB_inflateIfNeededFor 21 = .ok (.return_, 1) ∧ 21 + 1 = 22 := ⟨by decide +kernel, rfl⟩
theorem zd_JB_putStringAt_0 : decode zb_JB_putStringAt 0 = .ok (.aload_n 0, 1) ∧ 0 + 1 = 1 := ⟨by decide +kernel, rfl⟩
theorem zd_JB_putStringAt_1 : decode zb_JB_putStringAt 1 = .ok (.aload_n 2, 1) ∧ 1 + 1 = 2 := ⟨by decide +kernel, rfl⟩
theorem zd_JB_putStringAt_2 : decode zb_JB_putStringAt 2 = .ok (.invokevirtual 397, 3) ∧ 2 + 3 = 5 := ⟨by decide +kernel, rfl⟩
theorem zd_JB_putStringAt_5 : decode zb_JB_putStringAt 5 = .ok (.aload_n 2, 1) ∧ 5 + 1 = 6 := ⟨by decide +kernel, rfl⟩
theorem zd_JB_putStringAt_6 : decode zb_JB_putStringAt 6 = .ok (.aload_n 0, 1) ∧ 6 + 1 = 7 := ⟨by decide +kernel, rfl⟩
theorem zd_JB_putStringAt_7 : decode zb_JB_putStringAt 7 = .ok (.getfield 15, 3) ∧ 7 + 3 = 10 := ⟨by decide +kernel, rfl⟩
theorem zd_JB_putStringAt_10 : decode zb_JB_putStringAt 10 = .ok (.iload_n 1, 1) ∧ 10 + 1 = 11 := ⟨by decide +kernel, rfl⟩
theorem zd_JB_putStringAt_11 : decode zb_JB_putStringAt 11 = .ok (.aload_n 0, 1) ∧ 11 + 1 = 12 := ⟨by decide +kernel, rfl⟩
theorem zd_JB_putStringAt_12 : decode zb_JB_putStringAt 12 = .ok (.getfield 22, 3) ∧ 12 + 3 = 15 := ⟨by decide +kernel, rfl⟩
theorem zd_JB_putStringAt_15 : decode zb_JB_putStringAt 15 = .ok (.invokevirtual 399, 3) ∧ 15 + 3 = 18 := ⟨by decide +kernel, rfl⟩
theorem zd_JB_putStringAt_18 : decode zb_JB_putStringAt 18 = .ok (.return_, 1) ∧ 18 + 1 = 19 := ⟨by decide +kernel, rfl⟩
theorem zd_JI_getChars_0 : decode zb_JI_getChars 0 = .ok (.iload_n 1, 1) ∧ 0 + 1 = 1 := ⟨by decide +kernel, rfl⟩
theorem zd_JI_getChars_1 : decode zb_JI_getChars 1 = .ok (.istore 5, 2) ∧ 1 + 2 = 3 := ⟨by decide +kernel, rfl⟩
theorem zd_JI_getChars_3 : decode zb_JI_getChars 3 = .ok (.iload_n 0, 1) ∧ 3 + 1 = 4 := ⟨by decide +kernel, rfl⟩
theorem zd_JI_getChars_4 : decode zb_JI_getChars 4 = .ok (.ifCond .ge 7, 3) ∧ ((4 : Nat) : Int) + (7) = ((11 : Nat) : Int) ∧ 4 + 3 = 7 := ⟨by decide +kernel, by decide, rfl⟩
theorem zd_JI_getChars_7 : decode zb_JI_getChars 7 = .ok (.iconst 1, 1) ∧ 7 + 1 = 8 := ⟨by decide +kernel, rfl⟩
theorem zd_JI_getChars_8 : decode zb_JI_getChars 8 = .ok (.goto 4, 3) ∧ ((8 : Nat) : Int) + (4) = ((12 : Nat) : Int) ∧ 8 + 3 = 11 := ⟨by decide +kernel, by decide, rfl⟩
theorem zd_JI_getChars_11 : decode zb_JI_getChars 11 = .ok (.iconst 0, 1) ∧ 11 + 1 = 12 := ⟨by decide +kernel, rfl⟩
theorem zd_JI_getChars_12 : decode zb_JI_getChars 12 = .ok (.istore 6, 2) ∧ 12 + 2 = 14 := ⟨by decide +kernel, rfl⟩
theorem zd_JI_getChars_14 : decode zb_JI_getChars 14 = .ok (.iload 6, 2) ∧ 14 + 2 = 16 := ⟨by decide +kernel, rfl⟩
theorem zd_JI_getChars_16 : decode zb_JI_getChars 16 = .ok (.ifCond .ne 6, 3) ∧ ((16 : Nat) : Int) + (6) = ((22 : Nat) : Int) ∧ 16 + 3 = 19 := ⟨by decide +kernel, by decide, rfl⟩
theorem zd_JI_getChars_19 : decode zb_JI_getChars 19 = .ok (.iload_n 0, 1) ∧ 19 + 1 = 20 := ⟨by decide +kernel, rfl⟩
theorem zd_JI_getChars_20 : decode zb_JI_getChars 20 = .ok (.ineg, 1) ∧ 20 + 1 = 21 := ⟨by decide +kernel, rfl⟩
theorem zd_JI_getChars_21 : decode zb_JI_getChars 21 = .ok (.istore_n 0, 1) ∧ 21 + 1 = 22 := ⟨by decide +kernel, rfl⟩
theorem zd_JI_getChars_22 : decode zb_JI_getChars 22 = .ok (.iload_n 0, 1) ∧ 22 + 1 = 23 := ⟨by decide +kernel, rfl⟩
theorem zd_JI_getChars_23 : decode zb_JI_getChars 23 = .ok (.bipush (-100), 2) ∧ 23 + 2 = 25 := ⟨by decide +kernel, rfl⟩
theorem zd_JI_getChars_25 : decode zb_JI_getChars 25 = .ok (.if_icmp .gt 47, 3) ∧ ((25 : Nat) : Int) + (47) = ((72 : Nat) : Int) ∧ 25 + 3 = 28 := ⟨by decide +kernel, by decide, rfl⟩
theorem zd_JI_getChars_28 : decode zb_JI_getChars 28 = .ok (.iload_n 0, 1) ∧ 28 + 1 = 29 := ⟨by decide +kernel, rfl⟩
theorem zd_JI_getChars_29 : decode zb_JI_getChars 29 = .ok (.bipush 100, 2) ∧ 29 + 2 = 31 := ⟨by decide +kernel, rfl⟩
theorem zd_JI_getChars_31 : decode zb_JI_getChars 31 = .ok (.idiv, 1) ∧ 31 + 1 = 32 := ⟨by decide +kernel, rfl⟩
theorem zd_JI_getChars_32 : decode zb_JI_getChars 32 = .ok (.istore_n 3, 1) ∧ 32 + 1 = 33 := ⟨by decide +kernel, rfl⟩
theorem zd_JI_getChars_33 : decode zb_JI_getChars 33 = .ok (.iload_n 3, 1) ∧ 33 + 1 = 34 := ⟨by decide +kernel, rfl⟩
theorem zd_JI_getChars_34 : decode zb_JI_getChars 34 = .ok (.bipush 100, 2) ∧ 34 + 2 = 36 := ⟨by decide +kernel, rfl⟩
theorem zd_JI_getChars_36 : decode zb_JI_getChars 36 = .ok (.imul, 1) ∧ 36 + 1 = 37 := ⟨by decide +kernel, rfl⟩
theorem zd_JI_getChars_37 : decode zb_JI_getChars 37 = .ok (.iload_n 0, 1) ∧ 37 + 1 = 38 := ⟨by decide +kernel, rfl⟩
theorem zd_JI_getChars_38 : decode zb_JI_getChars 38 = .ok (.isub, 1) ∧ 38 + 1 = 39 := ⟨by decide +kernel, rfl⟩
theorem zd_JI_getChars_39 : decode zb_JI_getChars 39 = .ok (.istore 4, 2) ∧ 39 + 2 = 41 := ⟨by decide +kernel, rfl⟩
theorem zd_JI_getChars_41 : decode zb_JI_getChars 41 = .ok (.iload_n 3, 1) ∧ 41 + 1 = 42 := ⟨by decide +kernel, rfl⟩
theorem zd_JI_getChars_42 : decode zb_JI_getChars 42 = .ok (.istore_n 0, 1) ∧ 42 + 1 = 43 := ⟨by decide +kernel, rfl⟩
theorem zd_JI_getChars_43 : decode zb_JI_getChars 43 = .ok (.aload_n 2, 1) ∧ 43 + 1 = 44 := ⟨by decide +kernel, rfl⟩
theorem zd_JI_getChars_44 : decode zb_JI_getChars 44 = .ok (.iinc 5 (-1), 3) ∧ 44 + 3 = 47 := ⟨by decide +kernel, rfl⟩
theorem zd_JI_getChars_47 : decode zb_JI_getChars 47 = .ok (.iload 5, 2) ∧ 47 + 2 = 49 := ⟨by decide +kernel, rfl⟩
theorem zd_JI_getChars_49 : decode zb_JI_getChars 49 = .ok (.getstatic 83, 3) ∧ 49 + 3 = 52 := ⟨by decide +kernel, rfl⟩
theorem zd_JI_getChars_52 : decode zb_JI_getChars 52 = .ok (.iload 4, 2) ∧ 52 + 2 = 54 := ⟨by decide +kernel, rfl⟩
theorem zd_JI_getChars_54 : decode zb_JI_getChars 54 = .ok (.baload, 1) ∧ 54 + 1 = 55 := ⟨by decide +kernel, rfl⟩
theorem zd_JI_getChars_55 : decode zb_JI_getChars 55 = .ok (.bastore, 1) ∧ 55 + 1 = 56 := ⟨by decide +kernel, rfl⟩
theorem zd_JI_getChars_56 : decode zb_JI_getChars 56 = .ok (.aload_n 2, 1) ∧ 56 + 1 = 57 := ⟨by decide +kernel, rfl⟩
theorem zd_JI_getChars_57 : decode zb_JI_getChars 57 = .ok (.iinc 5 (-1), 3) ∧ 57 + 3 = 60 := ⟨by decide +kernel, rfl⟩
theorem zd_JI_getChars_60 : decode zb_JI_getChars 60 = .ok (.iload 5, 2) ∧ 60 + 2 = 62 := ⟨by decide +kernel, rfl⟩
theorem zd_JI_getChars_62 : decode zb_JI_getChars 62 = .ok (.getstatic 87, 3) ∧ 62 + 3 = 65 := ⟨by decide +kernel, rfl⟩
theorem zd_JI_getChars_65 : decode zb_JI_getChars 65 = .ok (.iload 4, 2) ∧ 65 + 2 = 67 := ⟨by decide +kernel, rfl⟩
theorem zd_JI_getChars_67 : decode zb_JI_getChars 67 = .ok (.baload, 1) ∧ 67 + 1 = 68 := ⟨by decide +kernel, rfl⟩
theorem zd_JI_getChars_68 : decode zb_JI_getChars 68 = .ok (.bastore, 1) ∧ 68 + 1 = 69 := ⟨by decide +kernel, rfl⟩
theorem zd_JI_getChars_69 : decode zb_JI_getChars 69 = .ok (.goto (-47), 3) ∧ ((69 : Nat) : Int) + (-47) = ((22 : Nat) : Int) ∧ 69 + 3 = 72 := ⟨by decide +kernel, by decide, rfl⟩
theorem zd_JI_getChars_72 : decode zb_JI_getChars 72 = .ok (.aload_n 2, 1) ∧ 72 + 1 = 73 := ⟨by decide +kernel, rfl⟩
theorem zd_JI_getChars_73 : decode zb_JI_getChars 73 = .ok (.iinc 5 (-1), 3) ∧ 73 + 3 = 76 := ⟨by decide +kernel, rfl⟩
theorem zd_JI_getChars_76 : decode zb_JI_getChars 76 = .ok (.iload 5, 2) ∧ 76 + 2 = 78 := ⟨by decide +kernel, rfl⟩
theorem zd_JI_getChars_78 : decode zb_JI_getChars 78 = .ok (.getstatic 83, 3) ∧ 78 + 3 = 81 := ⟨by decide +kernel, rfl⟩
theorem zd_JI_getChars_81 : decode zb_JI_getChars 81 = .ok (.iload_n 0, 1) ∧ 81 + 1 = 82 := ⟨by decide +kernel, rfl⟩
theorem zd_JI_getChars_82 : decode zb_JI_getChars 82 = .ok (.ineg, 1) ∧ 82 + 1 = 83 := ⟨by decide +kernel, rfl⟩
theorem zd_JI_getChars_83 : decode zb_JI_getChars 83 = .ok (.baload, 1) ∧ 83 + 1 = 84 := ⟨by decide +kernel, rfl⟩
theorem zd_JI_getChars_84 : decode zb_JI_getChars 84 = .ok (.bastore, 1) ∧ 84 + 1 = 85 := ⟨by decide +kernel, rfl⟩
theorem zd_JI_getChars_85 : decode zb_JI_getChars 85 = .ok (.iload_n 0, 1) ∧ 85 + 1 = 86 := ⟨by decide +kernel, rfl⟩
theorem zd_JI_getChars_86 : decode zb_JI_getChars 86 = .ok (.bipush (-9), 2) ∧ 86 + 2 = 88 := ⟨by decide +kernel, rfl⟩
theorem zd_JI_getChars_88 : decode zb_JI_getChars 88 = .ok (.if_icmp .ge 16, 3) ∧ ((88 : Nat) : Int) + (16) = ((104 : Nat) : Int) ∧ 88 + 3 = 91 := ⟨by decide +kernel, by decide, rfl⟩
theorem zd_JI_getChars_91 : decode zb_JI_getChars 91 = .ok (.aload_n 2, 1) ∧ 91 + 1 = 92 := ⟨by decide +kernel, rfl⟩
theorem zd_JI_getChars_92 : decode zb_JI_getChars 92 = .ok (.iinc 5 (-1), 3) ∧ 92 + 3 = 95 := ⟨by decide +kernel, rfl⟩
theorem zd_JI_getChars_95 : decode zb_JI_getChars 95 = .ok (.iload 5, 2) ∧ 95 + 2 = 97 := ⟨by decide +kernel, rfl⟩
theorem zd_JI_getChars_97 : decode zb_JI_getChars 97 = .ok (.getstatic 87, 3) ∧ 97 + 3 = 100 := ⟨by decide +kernel, rfl⟩
theorem zd_JI_getChars_100 : decode zb_JI_getChars 100 = .ok (.iload_n 0, 1) ∧ 100 + 1 = 101 := ⟨by decide +kernel, rfl⟩
theorem zd_JI_getChars_101 : decode zb_JI_getChars 101 = .ok (.ineg, 1) ∧ 101 + 1 = 102 := ⟨by decide +kernel, rfl⟩
theorem zd_JI_getChars_102 : decode zb_JI_getChars 102 = .ok (.baload, 1) ∧ 102 + 1 = 103 := ⟨by decide +kernel, rfl⟩
theorem zd_JI_getChars_103 : decode zb_JI_getChars 103 = .ok (.bastore, 1) ∧ 103 + 1 = 104 := ⟨by decide +kernel, rfl⟩
theorem zd_JI_getChars_104 : decode zb_JI_getChars 104 = .ok (.iload 6, 2) ∧ 104 + 2 = 106 := ⟨by decide +kernel, rfl⟩
theorem zd_JI_getChars_106 : decode zb_JI_getChars 106 = .ok (.ifCond .eq 12, 3) ∧ ((106 : Nat) : Int) + (12) = ((118 : Nat) : Int) ∧ 106 + 3 = 109 := ⟨by decide +kernel, by decide, rfl⟩
theorem zd_JI_getChars_109 : decode zb_JI_getChars 109 = .ok (.aload_n 2, 1) ∧ 109 + 1 = 110 := ⟨by decide +kernel, rfl⟩
theorem zd_JI_getChars_110 : decode zb_JI_getChars 110 = .ok (.iinc 5 (-1), 3) ∧ 110 + 3 = 113 := ⟨by decide +kernel, rfl⟩
theorem zd_JI_getChars_113 : decode zb_JI_getChars 113 = .ok (.iload 5, 2) ∧ 113 + 2 = 115 := ⟨by decide +kernel, rfl⟩
theorem zd_JI_getChars_115 : decode zb_JI_getChars 115 = .ok (.bipush 45, 2) ∧ 115 + 2 = 117 := ⟨by decide +kernel, rfl⟩
theorem zd_JI_getChars_117 : decode zb_JI_getChars 117 = .ok (.bastore, 1) ∧ 117 + 1 = 118 := ⟨by decide +kernel, rfl⟩
theorem zd_JI_getChars_118 : decode zb_JI_getChars 118 = .ok (.iload 5, 2) ∧ 118 + 2 = 120 := ⟨by decide +kernel, rfl⟩
theorem zd_JI_getChars_120 : decode zb_JI_getChars 120 = .ok (.ireturn, 1) ∧ 120 + 1 = 121 := ⟨by decide +kernel, rfl⟩
theorem zd_JI_stringSize_0 : decode zb_JI_stringSize 0 = .ok (.iconst 1, 1) ∧ 0 + 1 = 1 := ⟨by decide +kernel, rfl⟩
theorem zd_JI_stringSize_1 : decode zb_JI_stringSize 1 = .ok (.istore_n 1, 1) ∧ 1 + 1 = 2 := ⟨by decide +kernel, rfl⟩
theorem zd_JI_stringSize_2 : decode zb_JI_stringSize 2 = .ok (.iload_n 0, 1) ∧ 2 + 1 = 3 := ⟨by decide +kernel, rfl⟩
theorem zd_JI_stringSize_3 : decode zb_JI_stringSize 3 = .ok (.ifCond .lt 8, 3) ∧ ((3 : Nat) : Int) + (8) = ((11 : Nat) : Int) ∧ 3 + 3 = 6 := ⟨by decide +kernel, by decide, rfl⟩
theorem zd_JI_stringSize_6 : decode zb_JI_stringSize 6 = .ok (.iconst 0, 1) ∧ 6 + 1 = 7 := ⟨by decide +kernel, rfl⟩
theorem zd_JI_stringSize_7 : decode zb_JI_stringSize 7 = .ok (.istore_n 1, 1) ∧ 7 + 1 = 8 := ⟨by decide +kernel, rfl⟩
theorem zd_JI_stringSize_8 : decode zb_JI_stringSize 8 = .ok (.iload_n 0, 1) ∧ 8 + 1 = 9 := ⟨by decide +kernel, rfl⟩
theorem zd_JI_stringSize_9 : decode zb_JI_stringSize 9 = .ok (.ineg, 1) ∧ 9 + 1 = 10 := ⟨by decide +kernel, rfl⟩
theorem zd_JI_stringSize_10 : decode zb_JI_stringSize 10 = .ok (.istore_n 0, 1) ∧ 10 + 1 = 11 := ⟨by decide +kernel, rfl⟩
theorem zd_JI_stringSize_11 : decode zb_JI_stringSize 11 = .ok (.bipush (-10), 2) ∧ 11 + 2 = 13 := ⟨by decide +kernel, rfl⟩
theorem zd_JI_stringSize_13 : decode zb_JI_stringSize 13 = .ok (.istore_n 2, 1) ∧ 13 + 1 = 14 := ⟨by decide +kernel, rfl⟩
theorem zd_JI_stringSize_14 : decode zb_JI_stringSize 14 = .ok (.iconst 1, 1) ∧ 14 + 1 = 15 := ⟨by decide +kernel, rfl⟩
theorem zd_JI_stringSize_15 : decode zb_JI_stringSize 15 = .ok (.istore_n 3, 1) ∧ 15 + 1 = 16 := ⟨by decide +kernel, rfl⟩
theorem zd_JI_stringSize_16 : decode zb_JI_stringSize 16 = .ok (.iload_n 3, 1) ∧ 16 + 1 = 17 := ⟨by decide +kernel, rfl⟩
theorem zd_JI_stringSize_17 : decode zb_JI_stringSize 17 = .ok (.bipush 10, 2) ∧ 17 + 2 = 19 := ⟨by decide +kernel, rfl⟩
theorem zd_JI_stringSize_19 : decode zb_JI_stringSize 19 = .ok (.if_icmp .ge 23, 3) ∧ ((19 : Nat) : Int) + (23) = ((42 : Nat) : Int) ∧ 19 + 3 = 22 := ⟨by decide +kernel, by decide, rfl⟩
theorem zd_JI_stringSize_22 : decode zb_JI_stringSize 22 = .ok (.iload_n 0, 1) ∧ 22 + 1 = 23 := ⟨by decide +kernel, rfl⟩
theorem zd_JI_stringSize_23 : decode zb_JI_stringSize 23 = .ok (.iload_n 2, 1) ∧ 23 + 1 = 24 := ⟨by decide +kernel, rfl⟩
theorem zd_JI_stringSize_24 : decode zb_JI_stringSize 24 = .ok (.if_icmp .le 7, 3) ∧ ((24 : Nat) : Int) + (7) = ((31 : Nat) : Int) ∧ 24 + 3 = 27 := ⟨by decide +kernel, by decide, rfl⟩
theorem zd_JI_stringSize_27 : decode zb_JI_stringSize 27 = .ok (.iload_n 3, 1) ∧ 27 + 1 = 28 := ⟨by decide +kernel, rfl⟩
theorem zd_JI_stringSize_28 : decode zb_JI_stringSize 28 = .ok (.iload_n 1, 1) ∧ 28 + 1 = 29 := ⟨by decide +kernel, rfl⟩
theorem zd_JI_stringSize_29 : decode zb_JI_stringSize 29 = .ok (.iadd, 1) ∧ 29 + 1 = 30 := ⟨by decide +kernel, rfl⟩
theorem zd_JI_stringSize_30 : decode zb_JI_stringSize 30 = .ok (.ireturn, 1) ∧ 30 + 1 = 31 := ⟨by decide +kernel, rfl⟩
theorem zd_JI_stringSize_31 : decode zb_JI_stringSize 31 = .ok (.bipush 10, 2) ∧ 31 + 2 = 33 := ⟨by decide +kernel, rfl⟩
theorem zd_JI_stringSize_33 : decode zb_JI_stringSize 33 = .ok (.iload_n 2, 1) ∧ 33 + 1 = 34 := ⟨by decide +kernel, rfl⟩
theorem zd_JI_stringSize_34 : decode zb_JI_stringSize 34 = .ok (.imul, 1) ∧ 34 + 1 = 35 := ⟨by decide +kernel, rfl⟩
theorem zd_JI_stringSize_35 : decode zb_JI_stringSize 35 = .ok (.istore_n 2, 1) ∧ 35 + 1 = 36 := ⟨by decide +kernel, rfl⟩
theorem zd_JI_stringSize_36 : decode zb_JI_stringSize 36 = .ok (.iinc 3 1, 3) ∧ 36 + 3 = 39 := ⟨by decide +kernel, rfl⟩
theorem zd_JI_stringSize_39 : decode zb_JI_stringSize 39 = .ok (.goto (-23), 3) ∧ ((39 : Nat) : Int) + (-23) = ((16 : Nat) : Int) ∧ 39 + 3 = 42 := ⟨by decide +kernel, by decide, rfl⟩
theorem zd_JI_stringSize_42 : decode zb_JI_stringSize 42 = .ok (.bipush 10, 2) ∧ 42 + 2 = 44 := ⟨by decide +kernel, rfl⟩
theorem zd_JI_stringSize_44 : decode zb_JI_stringSize 44 = .ok (.iload_n 1, 1) ∧ 44 + 1 = 45 := ⟨by decide +kernel, rfl⟩
theorem zd_JI_stringSize_45 : decode zb_JI_stringSize 45 = .ok (.iadd, 1) ∧ 45 + 1 = 46 := ⟨by decide +kernel, rfl⟩
theorem zd_JI_stringSize_46 : decode zb_JI_stringSize 46 = .ok (.ireturn, 1) ∧ 46 + 1 = 47 := ⟨by decide +kernel, rfl⟩
theorem zd_JM_floorMod_0 : decode zb_JM_floorMod 0 = .ok (.iload_n 0, 1) ∧ 0 + 1 = 1 := ⟨by decide +kernel, rfl⟩
theorem zd_JM_floorMod_1 : decode zb_JM_floorMod 1 = .ok (.iload_n 1, 1) ∧ 1 + 1 = 2 := ⟨by decide +kernel, rfl⟩
theorem zd_JM_floorMod_2 : decode zb_JM_floorMod 2 = .ok (.irem, 1) ∧ 2 + 1 = 3 := ⟨by decide +kernel, rfl⟩
theorem zd_JM_floorMod_3 : decode zb_JM_floorMod 3 = .ok (.istore_n 2, 1) ∧ 3 + 1 = 4 := ⟨by decide +kernel, rfl⟩
theorem zd_JM_floorMod_4 : decode zb_JM_floorMod 4 = .ok (.iload_n 0, 1) ∧ 4 + 1 = 5 := ⟨by decide +kernel, rfl⟩
theorem zd_JM_floorMod_5 : decode zb_JM_floorMod 5 = .ok (.iload_n 1, 1) ∧ 5 + 1 = 6 := ⟨by decide +kernel, rfl⟩
theorem zd_JM_floorMod_6 : decode zb_JM_floorMod 6 = .ok (.ixor, 1) ∧ 6 + 1 = 7 := ⟨by decide +kernel, rfl⟩
theorem zd_JM_floorMod_7 : decode zb_JM_floorMod 7 = .ok (.ifCond .ge 11, 3) ∧ ((7 : Nat) : Int) + (11) = ((18 : Nat) : Int) ∧ 7 + 3 = 10 := ⟨by decide +kernel, by decide, rfl⟩
theorem zd_JM_floorMod_10 : decode zb_JM_floorMod 10 = .ok (.iload_n 2, 1) ∧ 10 + 1 = 11 := ⟨by decide +kernel, rfl⟩
theorem zd_JM_floorMod_11 : decode zb_JM_floorMod 11 = .ok (.ifCond .eq 7, 3) ∧ ((11 : Nat) : Int) + (7) = ((18 : Nat) : Int) ∧ 11 + 3 = 14 := ⟨by decide +kernel, by decide, rfl⟩
theorem zd_JM_floorMod_14 : decode zb_JM_floorMod 14 = .ok (.iload_n 2, 1) ∧ 14 + 1 = 15 := ⟨by decide +kernel, rfl⟩
theorem zd_JM_floorMod_15 : decode zb_JM_floorMod 15 = .ok (.iload_n 1, 1) ∧ 15 + 1 = 16 := ⟨by decide +kernel, rfl⟩
theorem zd_JM_floorMod_16 : decode zb_JM_floorMod 16 = .ok (.iadd, 1) ∧ 16 + 1 = 17 := ⟨by decide +kernel, rfl⟩
theorem zd_JM_floorMod_17 : decode zb_JM_floorMod 17 = .ok (.ireturn, 1) ∧ 17 + 1 = 18 := ⟨by decide +kernel, rfl⟩
theorem zd_JM_floorMod_18 : decode zb_JM_floorMod 18 = .ok (.iload_n 2, 1) ∧ 18 + 1 = 19 := ⟨by decide +kernel, rfl⟩
theorem zd_JM_floorMod_19 : decode zb_JM_floorMod 19 = .ok (.ireturn, 1) ∧ 19 + 1 = 20 := ⟨by decide +kernel, rfl⟩
theorem zd_JM_max_0 : decode zb_JM_max 0 = .ok (.iload_n 0, 1) ∧ 0 + 1 = 1 := ⟨by decide +kernel, rfl⟩
theorem zd_JM_max_1 : decode zb_JM_max 1 = .ok (.iload_n 1, 1) ∧ 1 + 1 = 2 := ⟨by decide +kernel, rfl⟩
theorem zd_JM_max_2 : decode zb_JM_max 2 = .ok (.if_icmp .lt 7, 3) ∧ ((2 : Nat) : Int) + (7) = ((9 : Nat) : Int) ∧ 2 + 3 = 5 := ⟨by decide +kernel, by decide, rfl⟩
theorem zd_JM_max_5 : decode zb_JM_max 5 = .ok (.iload_n 0, 1) ∧ 5 + 1 = 6 := ⟨by decide +kernel, rfl⟩
theorem zd_JM_max_6 : decode zb_JM_max 6 = .ok (.goto 4, 3) ∧ ((6 : Nat) : Int) + (4) = ((10 : Nat) : Int) ∧ 6 + 3 = 9 := ⟨by decide +kernel, by decide, rfl⟩
theorem zd_JM_max_9 : decode zb_JM_max 9 = .ok (.iload_n 1, 1) ∧ 9 + 1 = 10 := ⟨by decide +kernel, rfl⟩
theorem zd_JM_max_10 : decode zb_JM_max 10 = .ok (.ireturn, 1) ∧ 10 + 1 = 11 := ⟨by decide +kernel, rfl⟩
theorem zd_JM_min_0 : decode zb_JM_min 0 = .ok (.iload_n 0, 1) ∧ 0 + 1 = 1 := ⟨by decide +kernel, rfl⟩
theorem zd_JM_min_1 : decode zb_JM_min 1 = .ok (.iload_n 1, 1) ∧ 1 + 1 = 2 := ⟨by decide +kernel, rfl⟩
theorem zd_JM_min_2 : decode zb_JM_min 2 = .ok (.if_icmp .gt 7, 3) ∧ ((2 : Nat) : Int) + (7) = ((9 : Nat) : Int) ∧ 2 + 3 = 5 := ⟨by decide +kernel, by decide, rfl⟩
theorem zd_JM_min_5 : decode zb_JM_min 5 = .ok (.iload_n 0, 1) ∧ 5 + 1 = 6 := ⟨by decide +kernel, rfl⟩
theorem zd_JM_min_6 : decode zb_JM_min 6 = .ok (.goto 4, 3) ∧ ((6 : Nat) : Int) + (4) = ((10 : Nat) : Int) ∧ 6 + 3 = 9 := ⟨by decide +kernel, by decide, rfl⟩
theorem zd_JM_min_9 : decode zb_JM_min 9 = .ok (.iload_n 1, 1) ∧ 9 + 1 = 10 := ⟨by decide +kernel, rfl⟩
theorem zd_JM_min_10 : decode zb_JM_min 10 = .ok (.ireturn, 1) ∧ 10 + 1 = 11 := ⟨by decide +kernel, rfl⟩
theorem zd_JS_init_0 : decode zb_JS_init 0 = .ok (.aload_n 0, 1) ∧ 0 + 1 = 1 := ⟨by decide +kernel, rfl⟩
theorem zd_JS_init_1 : decode zb_JS_init 1 = .ok (.aload_n 1, 1) ∧ 1 + 1 = 2 := ⟨by decide +kernel, rfl⟩
theorem zd_JS_init_2 : decode zb_JS_init 2 = .ok (.aconst_null, 1) ∧ 2 + 1 = 3 := ⟨by decide +kernel, rfl⟩
theorem zd_JS_init_3 : decode zb_JS_init 3 = .ok (.invokespecial 489, 3) ∧ 3 + 3 = 6 := ⟨by decide +kernel, rfl⟩
theorem zd_JS_init_6 : decode zb_JS_init 6 = .ok (.return_, 1) ∧ 6 + 1 = 7 := ⟨by decide +kernel, rfl⟩
theorem zd_JS_length_0 : decode zb_JS_length 0 = .ok (.aload_n 0, 1) ∧ 0 + 1 = 1 := ⟨by decide +kernel, rfl⟩
theorem zd_JS_length_1 : decode zb_JS_length 1 = .ok (.getfield 9, 3) ∧ 1 + 3 = 4 := ⟨by decide +kernel, rfl⟩
theorem zd_JS_length_4 : decode zb_JS_length 4 = .ok (.arraylength, 1) ∧ 4 + 1 = 5 := ⟨by decide +kernel, rfl⟩
theorem zd_JS_length_5 : decode zb_JS_length 5 = .ok (.aload_n 0, 1) ∧ 5 + 1 = 6 := ⟨by decide +kernel, rfl⟩
theorem zd_JS_length_6 : decode zb_JS_length 6 = .ok (.invokevirtual 335, 3) ∧ 6 + 3 = 9 := ⟨by decide +kernel, rfl⟩
theorem zd_JS_length_9 : decode zb_JS_length 9 = .ok (.ishr, 1) ∧ 9 + 1 = 10 := ⟨by decide +kernel, rfl⟩
theorem zd_JS_length_10 : decode zb_JS_length 10 = .ok (.ireturn, 1) ∧ 10 + 1 = 11 := ⟨by decide +kernel, rfl⟩
theorem zd_JS_charAt_0 : decode zb_JS_charAt 0 = .ok (.aload_n 0, 1) ∧ 0 + 1 = 1 := ⟨by decide +kernel, rfl⟩
theorem zd_JS_charAt_1 : decode zb_JS_charAt 1 = .ok (.invokevirtual 492, 3) ∧ 1 + 3 = 4 := ⟨by decide +kernel, rfl⟩
theorem zd_JS_charAt_4 : decode zb_JS_charAt 4 = .ok (.ifCond .eq 12, 3) ∧ ((4 : Nat) : Int) + (12) = ((16 : Nat) : Int) ∧ 4 + 3 = 7 := ⟨by decide +kernel, by decide, rfl⟩
theorem zd_JS_charAt_7 : decode zb_JS_charAt 7 = .ok (.aload_n 0, 1) ∧ 7 + 1 = 8 := ⟨by decide +kernel, rfl⟩
theorem zd_JS_charAt_8 : decode zb_JS_charAt 8 = .ok (.getfield 9, 3) ∧ 8 + 3 = 11 := ⟨by decide +kernel, rfl⟩
theorem zd_JS_charAt_11 : decode zb_JS_charAt 11 = .ok (.iload_n 1, 1) ∧ 11 + 1 = 12 := ⟨by decide +kernel, rfl⟩
theorem zd_JS_charAt_12 : decode zb_JS_charAt 12 = .ok (.invokestatic 495, 3) ∧ 12 + 3 = 15 := ⟨by decide +kernel, rfl⟩
theorem zd_JS_charAt_15 : decode zb_JS_charAt 15 = .ok (.ireturn, 1) ∧ 15 + 1 = 16 := ⟨by decide +kernel, rfl⟩
theorem zd_JS_charAt_16 : decode zb_JS_charAt 16 = .ok (.aload_n 0, 1) ∧ 16 + 1 = 17 := ⟨by decide +kernel, rfl⟩
theorem zd_JS_charAt_17 : decode zb_JS_charAt 17 = .ok (.getfield 9, 3) ∧ 17 + 3 = 20 := ⟨by decide +kernel, rfl⟩
theorem zd_JS_charAt_20 : decode zb_JS_charAt 20 = .ok (.iload_n 1, 1) ∧ 20 + 1 = 21 := ⟨by decide +kernel, rfl⟩
theorem zd_JS_charAt_21 : decode zb_JS_charAt 21 = .ok (.invokestatic 498, 3) ∧ 21 + 3 = 24 := ⟨by decide +kernel, rfl⟩
theorem zd_JS_charAt_24 : decode zb_JS_charAt 24 = .ok (.ireturn, 1) ∧ 24 + 1 = 25 := ⟨by decide +kernel, rfl⟩
theorem zd_JS_getBytes_0 : decode zb_JS_getBytes 0 = .ok (.aload_n 0, 1) ∧ 0 + 1 = 1 := ⟨by decide +kernel, rfl⟩
theorem zd_JS_getBytes_1 : decode zb_JS_getBytes 1 = .ok (.invokevirtual 335, 3) ∧ 1 + 3 = 4 := ⟨by decide +kernel, rfl⟩
theorem zd_JS_getBytes_4 : decode zb_JS_getBytes 4 = .ok (.iload_n 3, 1) ∧ 4 + 1 = 5 := ⟨by decide +kernel, rfl⟩
theorem zd_JS_getBytes_5 : decode zb_JS_getBytes 5 = .ok (.if_icmp .ne 23, 3) ∧ ((5 : Nat) : Int) + (23) = ((28 : Nat) : Int) ∧ 5 + 3 = 8 := ⟨by decide +kernel, by decide, rfl⟩
theorem zd_JS_getBytes_8 : decode zb_JS_getBytes 8 = .ok (.aload_n 0, 1) ∧ 8 + 1 = 9 := ⟨by decide +kernel, rfl⟩
theorem zd_JS_getBytes_9 : decode zb_JS_getBytes 9 = .ok (.getfield 9, 3) ∧ 9 + 3 = 12 := ⟨by decide +kernel, rfl⟩
theorem zd_JS_getBytes_12 : decode zb_JS_getBytes 12 = .ok (.iconst 0, 1) ∧ 12 + 1 = 13 := ⟨by decide +kernel, rfl⟩
theorem zd_JS_getBytes_13 : decode zb_JS_getBytes 13 = .ok (.aload_n 1, 1) ∧ 13 + 1 = 14 := ⟨by decide +kernel, rfl⟩
theorem zd_JS_getBytes_14 : decode zb_JS_getBytes 14 = .ok (.iload_n 2, 1) ∧ 14 + 1 = 15 := ⟨by decide +kernel, rfl⟩
theorem zd_JS_getBytes_15 : decode zb_JS_getBytes 15 = .ok (.iload_n 3, 1) ∧ 15 + 1 = 16 := ⟨by decide +kernel, rfl⟩
theorem zd_JS_getBytes_16 : decode zb_JS_getBytes 16 = .ok (.ishl, 1) ∧ 16 + 1 = 17 := ⟨by decide +kernel, rfl⟩
theorem zd_JS_getBytes_17 : decode zb_JS_getBytes 17 = .ok (.aload_n 0, 1) ∧ 17 + 1 = 18 := ⟨by decide +kernel, rfl⟩
theorem zd_JS_getBytes_18 : decode zb_JS_getBytes 18 = .ok (.getfield 9, 3) ∧ 18 + 3 = 21 := ⟨by decide +kernel, rfl⟩
theorem zd_JS_getBytes_21 : decode zb_JS_getBytes 21 = .ok (.arraylength, 1) ∧ 21 + 1 = 22 := ⟨by decide +kernel, rfl⟩
theorem zd_JS_getBytes_22 : decode zb_JS_getBytes 22 = .ok (.invokestatic 212, 3) ∧ 22 + 3 = 25 := ⟨by decide +kernel, rfl⟩
theorem zd_JS_getBytes_25 : decode zb_JS_getBytes 25 = .ok (.goto 18, 3) ∧ ((25 : Nat) : Int) + (18) = ((43 : Nat) : Int) ∧ 25 + 3 = 28 := ⟨by decide +kernel, by decide, rfl⟩
theorem zd_JS_getBytes_28 : decode zb_JS_getBytes 28 = .ok (.aload_n 0, 1) ∧ 28 + 1 = 29 := ⟨by decide +kernel, rfl⟩
theorem zd_JS_getBytes_29 : decode zb_JS_getBytes 29 = .ok (.getfield 9, 3) ∧ 29 + 3 = 32 := ⟨by decide +kernel, rfl⟩
theorem zd_JS_getBytes_32 : decode zb_JS_getBytes 32 = .ok (.iconst 0, 1) ∧ 32 + 1 = 33 := ⟨by decide +kernel, rfl⟩
theorem zd_JS_getBytes_33 : decode zb_JS_getBytes 33 = .ok (.aload_n 1, 1) ∧ 33 + 1 = 34 := ⟨by decide +kernel, rfl⟩
theorem zd_JS_getBytes_34 : decode zb_JS_getBytes 34 = .ok (.iload_n 2, 1) ∧ 34 + 1 = 35 := ⟨by decide +kernel, rfl⟩
theorem zd_JS_getBytes_35 : decode zb_JS_getBytes 35 = .ok (.aload_n 0, 1) ∧ 35 + 1 = 36 := ⟨by decide +kernel, rfl⟩
theorem zd_JS_getBytes_36 : decode zb_JS_getBytes 36 = .ok (.getfield 9, 3) ∧ 36 + 3 = 39 := ⟨by decide +kernel, rfl⟩
theorem zd_JS_getBytes_39 : decode zb_JS_getBytes 39 = .ok (.arraylength, 1) ∧ 39 + 1 = 40 := ⟨by decide +kernel, rfl⟩
theorem zd_JS_getBytes_40 : decode zb_JS_getBytes 40 = .ok (.invokestatic 106, 3) ∧ 40 + 3 = 43 := ⟨by decide +kernel, rfl⟩
theorem zd_JS_getBytes_43 : decode zb_JS_getBytes 43 = .ok (.return_, 1) ∧ 43 + 1 = 44 := ⟨by decide +kernel, rfl⟩
theorem zd_JS_init_db425_0 : decode zb_JS_init_db425 0 = .ok (.aload_n 0, 1) ∧ 0 + 1 = 1 := ⟨by decide +kernel, rfl⟩
theorem zd_JS_init_db425_1 : decode zb_JS_init_db425 1 = .ok (.invokespecial 1, 3) ∧ 1 + 3 = 4 := ⟨by decide +kernel, rfl⟩
theorem zd_JS_init_db425_4 : decode zb_JS_init_db425 4 = .ok (.aload_n 1, 1) ∧ 4 + 1 = 5 := ⟨by decide +kernel, rfl⟩
theorem zd_JS_init_db425_5 : decode zb_JS_init_db425 5 = .ok (.invokevirtual 552, 3) ∧ 5 + 3 = 8 := ⟨by decide +kernel, rfl⟩
theorem zd_JS_init_db425_8 : decode zb_JS_init_db425 8 = .ok (.astore_n 3, 1) ∧ 8 + 1 = 9 := ⟨by decide +kernel, rfl⟩
theorem zd_JS_init_db425_9 : decode zb_JS_init_db425 9 = .ok (.aload_n 1, 1) ∧ 9 + 1 = 10 := ⟨by decide +kernel, rfl⟩
theorem zd_JS_init_db425_10 : decode zb_JS_init_db425 10 = .ok (.invokevirtual 549, 3) ∧ 10 + 3 = 13 := ⟨by decide +kernel, rfl⟩
theorem zd_JS_init_db425_13 : decode zb_JS_init_db425 13 = .ok (.istore 4, 2) ∧ 13 + 2 = 15 := ⟨by decide +kernel, rfl⟩
theorem zd_JS_init_db425_15 : decode zb_JS_init_db425 15 = .ok (.aload_n 1, 1) ∧ 15 + 1 = 16 := ⟨by decide +kernel, rfl⟩
theorem zd_JS_init_db425_16 : decode zb_JS_init_db425 16 = .ok (.invokevirtual 1047, 3) ∧ 16 + 3 = 19 := ⟨by decide +kernel, rfl⟩
theorem zd_JS_init_db425_19 : decode zb_JS_init_db425 19 = .ok (.ifCond .eq 22, 3) ∧ ((19 : Nat) : Int) + (22) = ((41 : Nat) : Int) ∧ 19 + 3 = 22 := ⟨by decide +kernel, by decide, rfl⟩
theorem zd_JS_init_db425_22 : decode zb_JS_init_db425 22 = .ok (.aload_n 0, 1) ∧ 22 + 1 = 23 := ⟨by decide +kernel, rfl⟩
theorem zd_JS_init_db425_23 : decode zb_JS_init_db425 23 = .ok (.iconst 0, 1) ∧ 23 + 1 = 24 := ⟨by decide +kernel, rfl⟩
theorem zd_JS_init_db425_24 : decode zb_JS_init_db425 24 = .ok (.putfield 15, 3) ∧ 24 + 3 = 27 := ⟨by decide +kernel, rfl⟩
theorem zd_JS_init_db425_27 : decode zb_JS_init_db425 27 = .ok (.aload_n 0, 1) ∧ 27 + 1 = 28 := ⟨by decide +kernel, rfl⟩
theorem zd_JS_init_db425_28 : decode zb_JS_init_db425 28 = .ok (.aload_n 3, 1) ∧ 28 + 1 = 29 := ⟨by decide +kernel, rfl⟩
theorem zd_JS_init_db425_29 : decode zb_JS_init_db425 29 = .ok (.iconst 0, 1) ∧ 29 + 1 = 30 := ⟨by decide +kernel, rfl⟩
theorem zd_JS_init_db425_30 : decode zb_JS_init_db425 30 = .ok (.iload 4, 2) ∧ 30 + 2 = 32 := ⟨by decide +kernel, rfl⟩
theorem zd_JS_init_db425_32 : decode zb_JS_init_db425 32 = .ok (.invokestatic 54, 3) ∧ 32 + 3 = 35 := ⟨by decide +kernel, rfl⟩
theorem zd_JS_init_db425_35 : decode zb_JS_init_db425 35 = .ok (.putfield 9, 3) ∧ 35 + 3 = 38 := ⟨by decide +kernel, rfl⟩
theorem zd_JS_init_db425_38 : decode zb_JS_init_db425 38 = .ok (.goto 59, 3) ∧ ((38 : Nat) : Int) + (59) = ((97 : Nat) : Int) ∧ 38 + 3 = 41 := ⟨by decide +kernel, by decide, rfl⟩
theorem zd_JS_init_db425_41 : decode zb_JS_init_db425 41 = .ok (.getstatic 38, 3) ∧ 41 + 3 = 44 := ⟨by decide +kernel, rfl⟩
theorem zd_JS_init_db425_44 : decode zb_JS_init_db425 44 = .ok (.ifCond .eq 35, 3) ∧ ((44 : Nat) : Int) + (35) = ((79 : Nat) : Int) ∧ 44 + 3 = 47 := ⟨by decide +kernel, by decide, rfl⟩
theorem zd_JS_init_db425_47 : decode zb_JS_init_db425 47 = .ok (.aload_n 1, 1) ∧ 47 + 1 = 48 := ⟨by decide +kernel, rfl⟩
theorem zd_JS_init_db425_48 : decode zb_JS_init_db425 48 = .ok (.getfield 1048, 3) ∧ 48 + 3 = 51 := ⟨by decide +kernel, rfl⟩
theorem zd_JS_init_db425_51 : decode zb_JS_init_db425 51 = .ok (.ifCond .eq 28, 3) ∧ ((51 : Nat) : Int) + (28) = ((79 : Nat) : Int) ∧ 51 + 3 = 54 := ⟨by decide +kernel, by decide, rfl⟩
theorem zd_JS_init_db425_54 : decode zb_JS_init_db425 54 = .ok (.aload_n 0, 1) ∧ 54 + 1 = 55 := ⟨by decide +kernel, rfl⟩
theorem zd_JS_init_db425_55 : decode zb_JS_init_db425 55 = .ok (.aload_n 3, 1) ∧ 55 + 1 = 56 := ⟨by decide +kernel, rfl⟩
theorem zd_JS_init_db425_56 : decode zb_JS_init_db425 56 = .ok (.iconst 0, 1) ∧ 56 + 1 = 57 := ⟨by decide +kernel, rfl⟩
theorem zd_JS_init_db425_57 : decode zb_JS_init_db425 57 = .ok (.iload 4, 2) ∧ 57 + 2 = 59 := ⟨by decide +kernel, rfl⟩
theorem zd_JS_init_db425_59 : decode zb_JS_init_db425 59 = .ok (.invokestatic 1051, 3) ∧ 59 + 3 = 62 := ⟨by decide +kernel, rfl⟩
theorem zd_JS_init_db425_62 : decode zb_JS_init_db425 62 = .ok (.putfield 9, 3) ∧ 62 + 3 = 65 := ⟨by decide +kernel, rfl⟩
theorem zd_JS_init_db425_65 : decode zb_JS_init_db425 65 = .ok (.aload_n 0, 1) ∧ 65 + 1 = 66 := ⟨by decide +kernel, rfl⟩
theorem zd_JS_init_db425_66 : decode zb_JS_init_db425 66 = .ok (.aload_n 0, 1) ∧ 66 + 1 = 67 := ⟨by decide +kernel, rfl⟩
theorem zd_JS_init_db425_67 : decode zb_JS_init_db425 67 = .ok (.getfield 9, 3) ∧ 67 + 3 = 70 := ⟨by decide +kernel, rfl⟩
theorem zd_JS_init_db425_70 : decode zb_JS_init_db425 70 = .ok (.iload 4, 2) ∧ 70 + 2 = 72 := ⟨by decide +kernel, rfl⟩
theorem zd_JS_init_db425_72 : decode zb_JS_init_db425 72 = .ok (.invokestatic 47, 3) ∧ 72 + 3 = 75 := ⟨by decide +kernel, rfl⟩
theorem zd_JS_init_db425_75 : decode zb_JS_init_db425 75 = .ok (.putfield 15, 3) ∧ 75 + 3 = 78 := ⟨by decide +kernel, rfl⟩
theorem zd_JS_init_db425_78 : decode zb_JS_init_db425 78 = .ok (.return_, 1) ∧ 78 + 1 = 79 := ⟨by decide +kernel, rfl⟩
theorem zd_JS_init_db425_79 : decode zb_JS_init_db425 79 = .ok (.aload_n 0, 1) ∧ 79 + 1 = 80 := ⟨by decide +kernel, rfl⟩
theorem zd_JS_init_db425_80 : decode zb_JS_init_db425 80 = .ok (.iconst 1, 1) ∧ 80 + 1 = 81 := ⟨by decide +kernel, rfl⟩
theorem zd_JS_init_db425_81 : decode zb_JS_init_db425 81 = .ok (.putfield 15, 3) ∧ 81 + 3 = 84 := ⟨by decide +kernel, rfl⟩
theorem zd_JS_init_db425_84 : decode zb_JS_init_db425 84 = .ok (.aload_n 0, 1) ∧ 84 + 1 = 85 := ⟨by decide +kernel, rfl⟩
theorem zd_JS_init_db425_85 : decode zb_JS_init_db425 85 = .ok (.aload_n 3, 1) ∧ 85 + 1 = 86 := ⟨by decide +kernel, rfl⟩
theorem zd_JS_init_db425_86 : decode zb_JS_init_db425 86 = .ok (.iconst 0, 1) ∧ 86 + 1 = 87 := ⟨by decide +kernel, rfl⟩
theorem zd_JS_init_db425_87 : decode zb_JS_init_db425 87 = .ok (.iload 4, 2) ∧ 87 + 2 = 89 := ⟨by decide +kernel, rfl⟩
theorem zd_JS_init_db425_89 : decode zb_JS_init_db425 89 = .ok (.iconst 1, 1) ∧ 89 + 1 = 90 := ⟨by decide +kernel, rfl⟩
theorem zd_JS_init_db425_90 : decode zb_JS_init_db425 90 = .ok (.ishl, 1) ∧ 90 + 1 = 91 := ⟨by decide +kernel, rfl⟩
theorem zd_JS_init_db425_91 : decode zb_JS_init_db425 91 = .ok (.invokestatic 54, 3) ∧ 91 + 3 = 94 := ⟨by decide +kernel, rfl⟩
theorem zd_JS_init_db425_94 : decode zb_JS_init_db425 94 = .ok (.putfield 9, 3) ∧ 94 + 3 = 97 := ⟨by decide +kernel, rfl⟩
theorem zd_JS_init_db425_97 : decode zb_JS_init_db425 97 = .ok (.return_, 1) ∧ 97 + 1 = 98 := ⟨by decide +kernel, rfl⟩
theorem zd_JS_coder_0 : decode zb_JS_coder 0 = .ok (.getstatic 38, 3) ∧ 0 + 3 = 3 := ⟨by decide +kernel, rfl⟩
theorem zd_JS_coder_3 : decode zb_JS_coder 3 = .ok (.ifCond .eq 10, 3) ∧ ((3 : Nat) : Int) + (10) = ((13 : Nat) : Int) ∧ 3 + 3 = 6 := ⟨by decide +kernel, by decide, rfl⟩
theorem zd_JS_coder_6 : decode zb_JS_coder 6 = .ok (.aload_n 0, 1) ∧ 6 + 1 = 7 := ⟨by decide +kernel, rfl⟩
theorem zd_JS_coder_7 : decode zb_JS_coder 7 = .ok (.getfield 15, 3) ∧ 7 + 3 = 10 := ⟨by decide +kernel, rfl⟩
theorem zd_JS_coder_10 : decode zb_JS_coder 10 = .ok (.goto 4, 3) ∧ ((10 : Nat) : Int) + (4) = ((14 : Nat) : Int) ∧ 10 + 3 = 13 := ⟨by decide +kernel, by decide, rfl⟩
theorem zd_JS_coder_13 : decode zb_JS_coder 13 = .ok (.iconst 1, 1) ∧ 13 + 1 = 14 := ⟨by decide +kernel, rfl⟩
theorem zd_JS_coder_14 : decode zb_JS_coder 14 = .ok (.ireturn, 1) ∧ 14 + 1 = 15 := ⟨by decide +kernel, rfl⟩
theorem zd_JS_isLatin1_0 : decode zb_JS_isLatin1 0 = .ok (.getstatic 38, 3) ∧ 0 + 3 = 3 := ⟨by decide +kernel, rfl⟩
theorem zd_JS_isLatin1_3 : decode zb_JS_isLatin1 3 = .ok (.ifCond .eq 14, 3) ∧ ((3 : Nat) : Int) + (14) = ((17 : Nat) : Int) ∧ 3 + 3 = 6 := ⟨by decide +kernel, by decide, rfl⟩
theorem zd_JS_isLatin1_6 : decode zb_JS_isLatin1 6 = .ok (.aload_n 0, 1) ∧ 6 + 1 = 7 := ⟨by decide +kernel, rfl⟩
theorem zd_JS_isLatin1_7 : decode zb_JS_isLatin1 7 = .ok (.getfield 15, 3) ∧ 7 + 3 = 10 := ⟨by decide +kernel, rfl⟩
theorem zd_JS_isLatin1_10 : decode zb_JS_isLatin1 10 = .ok (.ifCond .ne 7, 3) ∧ ((10 : Nat) : Int) + (7) = ((17 : Nat) : Int) ∧ 10 + 3 = 13 := ⟨by decide +kernel, by decide, rfl⟩
theorem zd_JS_isLatin1_13 : decode zb_JS_isLatin1 13 = .ok (.iconst 1, 1) ∧ 13 + 1 = 14 := ⟨by decide +kernel, rfl⟩
theorem zd_JS_isLatin1_14 : decode zb_JS_isLatin1 14 = .ok (.goto 4, 3) ∧ ((14 : Nat) : Int) + (4) = ((18 : Nat) : Int) ∧ 14 + 3 = 17 := ⟨by decide +kernel, by decide, rfl⟩
theorem zd_JS_isLatin1_17 : decode zb_JS_isLatin1 17 = .ok (.iconst 0, 1) ∧ 17 + 1 = 18 := ⟨by decide +kernel, rfl⟩
theorem zd_JS_isLatin1_18 : decode zb_JS_isLatin1 18 = .ok (.ireturn, 1) ∧ 18 + 1 = 19 := ⟨by decide +kernel, rfl⟩
theorem zd_JS_checkIndex_0 : decode zb_JS_checkIndex 0 = .ok (.iload_n 0, 1) ∧ 0 + 1 = 1 := ⟨by decide +kernel, rfl⟩
theorem zd_JS_checkIndex_1 : decode zb_JS_checkIndex 1 = .ok (.iload_n 1, 1) ∧ 1 + 1 = 2 := ⟨by decide +kernel, rfl⟩
theorem zd_JS_checkIndex_2 : decode zb_JS_checkIndex 2 = .ok (.getstatic 1053, 3) ∧ 2 + 3 = 5 := ⟨by decide +kernel, rfl⟩
theorem zd_JS_checkIndex_5 : decode zb_JS_checkIndex 5 = .ok (.invokestatic 1059, 3) ∧ 5 + 3 = 8 := ⟨by decide +kernel, rfl⟩
theorem zd_JS_checkIndex_8 : decode zb_JS_checkIndex 8 = .ok (.pop, 1) ∧ 8 + 1 = 9 := ⟨by decide +kernel, rfl⟩
theorem zd_JS_checkIndex_9 : decode zb_JS_checkIndex 9 = .ok (.return_, 1) ∧ 9 + 1 = 10 := ⟨by decide +kernel, rfl⟩
theorem zd_JS_checkBoundsOffCount_0 : decode zb_JS_checkBoundsOffCount 0 = .ok (.iload_n 0, 1) ∧ 0 + 1 = 1 := ⟨by decide +kernel, rfl⟩
theorem zd_JS_checkBoundsOffCount_1 : decode zb_JS_checkBoundsOffCount 1 = .ok (.iload_n 1, 1) ∧ 1 + 1 = 2 := ⟨by decide +kernel, rfl⟩
theorem zd_JS_checkBoundsOffCount_2 : decode zb_JS_checkBoundsOffCount 2 = .ok (.iload_n 2, 1) ∧ 2 + 1 = 3 := ⟨by decide +kernel, rfl⟩
theorem zd_JS_checkBoundsOffCount_3 : decode zb_JS_checkBoundsOffCount 3 = .ok (.getstatic 1053, 3) ∧ 3 + 3 = 6 := ⟨by decide +kernel, rfl⟩
theorem zd_JS_checkBoundsOffCount_6 : decode zb_JS_checkBoundsOffCount 6 = .ok (.invokestatic 1065, 3) ∧ 6 + 3 = 9 := ⟨by decide +kernel, rfl⟩
theorem zd_JS_checkBoundsOffCount_9 : decode zb_JS_checkBoundsOffCount 9 = .ok (.ireturn, 1) ∧ 9 + 1 = 10 := ⟨by decide +kernel, rfl⟩
theorem zd_JS_checkBoundsBeginEnd_0 : decode zb_JS_checkBoundsBeginEnd 0 = .ok (.iload_n 0, 1) ∧ 0 + 1 = 1 := ⟨by decide +kernel, rfl⟩
theorem zd_JS_checkBoundsBeginEnd_1 : decode zb_JS_checkBoundsBeginEnd 1 = .ok (.iload_n 1, 1) ∧ 1 + 1 = 2 := ⟨by decide +kernel, rfl⟩
theorem zd_JS_checkBoundsBeginEnd_2 : decode zb_JS_checkBoundsBeginEnd 2 = .ok (.iload_n 2, 1) ∧ 2 + 1 = 3 := ⟨by decide +kernel, rfl⟩
theorem zd_JS_checkBoundsBeginEnd_3 : decode zb_JS_checkBoundsBeginEnd 3 = .ok (.getstatic 1053, 3) ∧ 3 + 3 = 6 := ⟨by decide +kernel, rfl⟩
theorem zd_JS_checkBoundsBeginEnd_6 : decode zb_JS_checkBoundsBeginEnd 6 = .ok (.invokestatic 1062, 3) ∧ 6 + 3 = 9 := ⟨by decide +kernel, rfl⟩
theorem zd_JS_checkBoundsBeginEnd_9 : decode zb_JS_checkBoundsBeginEnd 9 = .ok (.pop, 1) ∧ 9 + 1 = 10 := ⟨by decide +kernel, rfl⟩
theorem zd_JS_checkBoundsBeginEnd_10 : decode zb_JS_checkBoundsBeginEnd 10 = .ok (.return_, 1) ∧ 10 + 1 = 11 := ⟨by decide +kernel, rfl⟩
theorem zd_JD_init_0 : decode zb_JD_init 0 = .ok (.aload_n 0, 1) ∧ 0 + 1 = 1 := ⟨by decide +kernel, rfl⟩
theorem zd_JD_init_1 : decode zb_JD_init 1 = .ok (.bipush 16, 2) ∧ 1 + 2 = 3 := ⟨by decide +kernel, rfl⟩
theorem zd_JD_init_3 : decode zb_JD_init 3 = .ok (.invokespecial 1, 3) ∧ 3 + 3 = 6 := ⟨by decide +kernel, rfl⟩
theorem zd_JD_init_6 : decode zb_JD_init 6 = .ok (.return_, 1) ∧ 6 + 1 = 7 := ⟨by decide +kernel, rfl⟩
theorem zd_JD_init_a7421_0 : decode zb_JD_init_a7421 0 = .ok (.aload_n 0, 1) ∧ 0 + 1 = 1 := ⟨by decide +kernel, rfl⟩
theorem zd_JD_init_a7421_1 : decode zb_JD_init_a7421 1 = .ok (.aload_n 1, 1) ∧ 1 + 1 = 2 := ⟨by decide +kernel, rfl⟩
theorem zd_JD_init_a7421_2 : decode zb_JD_init_a7421 2 = .ok (.invokespecial 7, 3) ∧ 2 + 3 = 5 := ⟨by decide +kernel, rfl⟩
theorem zd_JD_init_a7421_5 : decode zb_JD_init_a7421 5 = .ok (.return_, 1) ∧ 5 + 1 = 6 := ⟨by decide +kernel, rfl⟩
theorem zd_JD_append_0 : decode zb_JD_append 0 = .ok (.aload_n 0, 1) ∧ 0 + 1 = 1 := ⟨by decide +kernel, rfl⟩
theorem zd_JD_append_1 : decode zb_JD_append 1 = .ok (.aload_n 1, 1) ∧ 1 + 1 = 2 := ⟨by decide +kernel, rfl⟩
theorem zd_JD_append_2 : decode zb_JD_append 2 = .ok (.invokespecial 29, 3) ∧ 2 + 3 = 5 := ⟨by decide +kernel, rfl⟩
theorem zd_JD_append_5 : decode zb_JD_append 5 = .ok (.pop, 1) ∧ 5 + 1 = 6 := ⟨by decide +kernel, rfl⟩
theorem zd_JD_append_6 : decode zb_JD_append 6 = .ok (.aload_n 0, 1) ∧ 6 + 1 = 7 := ⟨by decide +kernel, rfl⟩
theorem zd_JD_append_7 : decode zb_JD_append 7 = .ok (.areturn, 1) ∧ 7 + 1 = 8 := ⟨by decide +kernel, rfl⟩
theorem zd_JD_append_cf468_0 : decode zb_JD_append_cf468 0 = .ok (.aload_n 0, 1) ∧ 0 + 1 = 1 := ⟨by decide +kernel, rfl⟩
theorem zd_JD_append_cf468_1 : decode zb_JD_append_cf468 1 = .ok (.iload_n 1, 1) ∧ 1 + 1 = 2 := ⟨by decide +kernel, rfl⟩
theorem zd_JD_append_cf468_2 : decode zb_JD_append_cf468 2 = .ok (.invokespecial 50, 3) ∧ 2 + 3 = 5 := ⟨by decide +kernel, rfl⟩
theorem zd_JD_append_cf468_5 : decode zb_JD_append_cf468 5 = .ok (.pop, 1) ∧ 5 + 1 = 6 := ⟨by decide +kernel, rfl⟩
theorem zd_JD_append_cf468_6 : decode zb_JD_append_cf468 6 = .ok (.aload_n 0, 1) ∧ 6 + 1 = 7 := ⟨by decide +kernel, rfl⟩
theorem zd_JD_append_cf468_7 : decode zb_JD_append_cf468 7 = .ok (.areturn, 1) ∧ 7 + 1 = 8 := ⟨by decide +kernel, rfl⟩
theorem zd_JD_append_bf812_0 : decode zb_JD_append_bf812 0 = .ok (.aload_n 0, 1) ∧ 0 + 1 = 1 := ⟨by decide +kernel, rfl⟩
theorem zd_JD_append_bf812_1 : decode zb_JD_append_bf812 1 = .ok (.iload_n 1, 1) ∧ 1 + 1 = 2 := ⟨by decide +kernel, rfl⟩
theorem zd_JD_append_bf812_2 : decode zb_JD_append_bf812 2 = .ok (.invokespecial 53, 3) ∧ 2 + 3 = 5 := ⟨by decide +kernel, rfl⟩
theorem zd_JD_append_bf812_5 : decode zb_JD_append_bf812 5 = .ok (.pop, 1) ∧ 5 + 1 = 6 := ⟨by decide +kernel, rfl⟩
theorem zd_JD_append_bf812_6 : decode zb_JD_append_bf812 6 = .ok (.aload_n 0, 1) ∧ 6 + 1 = 7 := ⟨by decide +kernel, rfl⟩
theorem zd_JD_append_bf812_7 : decode zb_JD_append_bf812 7 = .ok (.areturn, 1) ∧ 7 + 1 = 8 := ⟨by decide +kernel, rfl⟩
theorem zd_JD_toString_0 : decode zb_JD_toString 0 = .ok (.new 18, 3) ∧ 0 + 3 = 3 := ⟨by decide +kernel, rfl⟩
theorem zd_JD_toString_3 : decode zb_JD_toString 3 = .ok (.dup, 1) ∧ 3 + 1 = 4 := ⟨by decide +kernel, rfl⟩
theorem zd_JD_toString_4 : decode zb_JD_toString 4 = .ok (.aload_n 0, 1) ∧ 4 + 1 = 5 := ⟨by decide +kernel, rfl⟩
theorem zd_JD_toString_5 : decode zb_JD_toString 5 = .ok (.invokespecial 137, 3) ∧ 5 + 3 = 8 := ⟨by decide +kernel, rfl⟩
theorem zd_JD_toString_8 : decode zb_JD_toString 8 = .ok (.areturn, 1) ∧ 8 + 1 = 9 := ⟨by decide +kernel, rfl⟩
theorem zd_JD_append_cf1ce_0 : decode zb_JD_append_cf1ce 0 = .ok (.aload_n 0, 1) ∧ 0 + 1 = 1 := ⟨by decide +kernel, rfl⟩
theorem zd_JD_append_cf1ce_1 : decode zb_JD_append_cf1ce 1 = .ok (.aload_n 1, 1) ∧ 1 + 1 = 2 := ⟨by decide +kernel, rfl⟩
theorem zd_JD_append_cf1ce_2 : decode zb_JD_append_cf1ce 2 = .ok (.invokevirtual 23, 3) ∧ 2 + 3 = 5 := ⟨by decide +kernel, rfl⟩
theorem zd_JD_append_cf1ce_5 : decode zb_JD_append_cf1ce 5 = .ok (.areturn, 1) ∧ 5 + 1 = 6 := ⟨by decide +kernel, rfl⟩
theorem zd_JD_length_0 : decode zb_JD_length 0 = .ok (.aload_n 0, 1) ∧ 0 + 1 = 1 := ⟨by decide +kernel, rfl⟩
theorem zd_JD_length_1 : decode zb_JD_length 1 = .ok (.invokespecial 343, 3) ∧ 1 + 3 = 4 := ⟨by decide +kernel, rfl⟩
theorem zd_JD_length_4 : decode zb_JD_length 4 = .ok (.ireturn, 1) ∧ 4 + 1 = 5 := ⟨by decide +kernel, rfl⟩
theorem zd_JL_charAt_0 : decode zb_JL_charAt 0 = .ok (.iload_n 1, 1) ∧ 0 + 1 = 1 := ⟨by decide +kernel, rfl⟩
theorem zd_JL_charAt_1 : decode zb_JL_charAt 1 = .ok (.aload_n 0, 1) ∧ 1 + 1 = 2 := ⟨by decide +kernel, rfl⟩
theorem zd_JL_charAt_2 : decode zb_JL_charAt 2 = .ok (.arraylength, 1) ∧ 2 + 1 = 3 := ⟨by decide +kernel, rfl⟩
theorem zd_JL_charAt_3 : decode zb_JL_charAt 3 = .ok (.invokestatic 9, 3) ∧ 3 + 3 = 6 := ⟨by decide +kernel, rfl⟩
theorem zd_JL_charAt_6 : decode zb_JL_charAt 6 = .ok (.aload_n 0, 1) ∧ 6 + 1 = 7 := ⟨by decide +kernel, rfl⟩
theorem zd_JL_charAt_7 : decode zb_JL_charAt 7 = .ok (.iload_n 1, 1) ∧ 7 + 1 = 8 := ⟨by decide +kernel, rfl⟩
theorem zd_JL_charAt_8 : decode zb_JL_charAt 8 = .ok (.baload, 1) ∧ 8 + 1 = 9 := ⟨by decide +kernel, rfl⟩
theorem zd_JL_charAt_9 : decode zb_JL_charAt 9 = .ok (.sipush 255, 3) ∧ 9 + 3 = 12 := ⟨by decide +kernel, rfl⟩
theorem zd_JL_charAt_12 : decode zb_JL_charAt 12 = .ok (.iand, 1) ∧ 12 + 1 = 13 := ⟨by decide +kernel, rfl⟩
theorem zd_JL_charAt_13 : decode zb_JL_charAt 13 = .ok (.i2c, 1) ∧ 13 + 1 = 14 := ⟨by decide +kernel, rfl⟩
theorem zd_JL_charAt_14 : decode zb_JL_charAt 14 = .ok (.ireturn, 1) ∧ 14 + 1 = 15 := ⟨by decide +kernel, rfl⟩
theorem zd_JL_canEncode_0 : decode zb_JL_canEncode 0 = .ok (.iload_n 0, 1) ∧ 0 + 1 = 1 := ⟨by decide +kernel, rfl⟩
theorem zd_JL_canEncode_1 : decode zb_JL_canEncode 1 = .ok (.sipush 255, 3) ∧ 1 + 3 = 4 := ⟨by decide +kernel, rfl⟩
theorem zd_JL_canEncode_4 : decode zb_JL_canEncode 4 = .ok (.if_icmp .gt 7, 3) ∧ ((4 : Nat) : Int) + (7) = ((11 : Nat) : Int) ∧ 4 + 3 = 7 := ⟨by decide +kernel, by decide, rfl⟩
theorem zd_JL_canEncode_7 : decode zb_JL_canEncode 7 = .ok (.iconst 1, 1) ∧ 7 + 1 = 8 := ⟨by decide +kernel, rfl⟩
theorem zd_JL_canEncode_8 : decode zb_JL_canEncode 8 = .ok (.goto 4, 3) ∧ ((8 : Nat) : Int) + (4) = ((12 : Nat) : Int) ∧ 8 + 3 = 11 := ⟨by decide +kernel, by decide, rfl⟩
theorem zd_JL_canEncode_11 : decode zb_JL_canEncode 11 = .ok (.iconst 0, 1) ∧ 11 + 1 = 12 := ⟨by decide +kernel, rfl⟩
theorem zd_JL_canEncode_12 : decode zb_JL_canEncode 12 = .ok (.ireturn, 1) ∧ 12 + 1 = 13 := ⟨by decide +kernel, rfl⟩
theorem zd_JL_inflate_0 : decode zb_JL_inflate 0 = .ok (.aload_n 0, 1) ∧ 0 + 1 = 1 := ⟨by decide +kernel, rfl⟩
theorem zd_JL_inflate_1 : decode zb_JL_inflate 1 = .ok (.iload_n 1, 1) ∧ 1 + 1 = 2 := ⟨by decide +kernel, rfl⟩
theorem zd_JL_inflate_2 : decode zb_JL_inflate 2 = .ok (.aload_n 2, 1) ∧ 2 + 1 = 3 := ⟨by decide +kernel, rfl⟩
theorem zd_JL_inflate_3 : decode zb_JL_inflate 3 = .ok (.iload_n 3, 1) ∧ 3 + 1 = 4 := ⟨by decide +kernel, rfl⟩
theorem zd_JL_inflate_4 : decode zb_JL_inflate 4 = .ok (.iload 4, 2) ∧ 4 + 2 = 6 := ⟨by decide +kernel, rfl⟩
theorem zd_JL_inflate_6 : decode zb_JL_inflate 6 = .ok (.invokestatic 240, 3) ∧ 6 + 3 = 9 := ⟨by decide +kernel, rfl⟩
theorem zd_JL_inflate_9 : decode zb_JL_inflate 9 = .ok (.return_, 1) ∧ 9 + 1 = 10 := ⟨by decide +kernel, rfl⟩
theorem zd_JA_fill_0 : decode zb_JA_fill 0 = .ok (.iconst 0, 1) ∧ 0 + 1 = 1 := ⟨by decide +kernel, rfl⟩
theorem zd_JA_fill_1 : decode zb_JA_fill 1 = .ok (.istore_n 2, 1) ∧ 1 + 1 = 2 := ⟨by decide +kernel, rfl⟩
theorem zd_JA_fill_2 : decode zb_JA_fill 2 = .ok (.aload_n 0, 1) ∧ 2 + 1 = 3 := ⟨by decide +kernel, rfl⟩
theorem zd_JA_fill_3 : decode zb_JA_fill 3 = .ok (.arraylength, 1) ∧ 3 + 1 = 4 := ⟨by decide +kernel, rfl⟩
theorem zd_JA_fill_4 : decode zb_JA_fill 4 = .ok (.istore_n 3, 1) ∧ 4 + 1 = 5 := ⟨by decide +kernel, rfl⟩
theorem zd_JA_fill_5 : decode zb_JA_fill 5 = .ok (.iload_n 2, 1) ∧ 5 + 1 = 6 := ⟨by decide +kernel, rfl⟩
theorem zd_JA_fill_6 : decode zb_JA_fill 6 = .ok (.iload_n 3, 1) ∧ 6 + 1 = 7 := ⟨by decide +kernel, rfl⟩
theorem zd_JA_fill_7 : decode zb_JA_fill 7 = .ok (.if_icmp .ge 13, 3) ∧ ((7 : Nat) : Int) + (13) = ((20 : Nat) : Int) ∧ 7 + 3 = 10 := ⟨by decide +kernel, by decide, rfl⟩
theorem zd_JA_fill_10 : decode zb_JA_fill 10 = .ok (.aload_n 0, 1) ∧ 10 + 1 = 11 := ⟨by decide +kernel, rfl⟩
theorem zd_JA_fill_11 : decode zb_JA_fill 11 = .ok (.iload_n 2, 1) ∧ 11 + 1 = 12 := ⟨by decide +kernel, rfl⟩
theorem zd_JA_fill_12 : decode zb_JA_fill 12 = .ok (.iload_n 1, 1) ∧ 12 + 1 = 13 := ⟨by decide +kernel, rfl⟩
theorem zd_JA_fill_13 : decode zb_JA_fill 13 = .ok (.iastore, 1) ∧ 13 + 1 = 14 := ⟨by decide +kernel, rfl⟩
theorem zd_JA_fill_14 : decode zb_JA_fill 14 = .ok (.iinc 2 1, 3) ∧ 14 + 3 = 17 := ⟨by decide +kernel, rfl⟩
theorem zd_JA_fill_17 : decode zb_JA_fill 17 = .ok (.goto (-12), 3) ∧ ((17 : Nat) : Int) + (-12) = ((5 : Nat) : Int) ∧ 17 + 3 = 20 := ⟨by decide +kernel, by decide, rfl⟩
theorem zd_JA_fill_20 : decode zb_JA_fill 20 = .ok (.return_, 1) ∧ 20 + 1 = 21 := ⟨by decide +kernel, rfl⟩
theorem zd_JA_copyOf_0 : decode zb_JA_copyOf 0 = .ok (.iload_n 1, 1) ∧ 0 + 1 = 1 := ⟨by decide +kernel, rfl⟩
theorem zd_JA_copyOf_1 : decode zb_JA_copyOf 1 = .ok (.aload_n 0, 1) ∧ 1 + 1 = 2 := ⟨by decide +kernel, rfl⟩
theorem zd_JA_copyOf_2 : decode zb_JA_copyOf 2 = .ok (.arraylength, 1) ∧ 2 + 1 = 3 := ⟨by decide +kernel, rfl⟩
theorem zd_JA_copyOf_3 : decode zb_JA_copyOf 3 = .ok (.if_icmp .ne 11, 3) ∧ ((3 : Nat) : Int) + (11) = ((14 : Nat) : Int) ∧ 3 + 3 = 6 := ⟨by decide +kernel, by decide, rfl⟩
theorem zd_JA_copyOf_6 : decode zb_JA_copyOf 6 = .ok (.aload_n 0, 1) ∧ 6 + 1 = 7 := ⟨by decide +kernel, rfl⟩
theorem zd_JA_copyOf_7 : decode zb_JA_copyOf 7 = .ok (.invokevirtual 310, 3) ∧ 7 + 3 = 10 := ⟨by decide +kernel, rfl⟩
theorem zd_JA_copyOf_10 : decode zb_JA_copyOf 10 = .ok (.checkcast 311, 3) ∧ 10 + 3 = 13 := ⟨by decide +kernel, rfl⟩
theorem zd_JA_copyOf_13 : decode zb_JA_copyOf 13 = .ok (.areturn, 1) ∧ 13 + 1 = 14 := ⟨by decide +kernel, rfl⟩
theorem zd_JA_copyOf_14 : decode zb_JA_copyOf 14 = .ok (.iload_n 1, 1) ∧ 14 + 1 = 15 := ⟨by decide +kernel, rfl⟩
theorem zd_JA_copyOf_15 : decode zb_JA_copyOf 15 = .ok (.newarray .byte, 2) ∧ 15 + 2 = 17 := ⟨by decide +kernel, rfl⟩
theorem zd_JA_copyOf_17 : decode zb_JA_copyOf 17 = .ok (.astore_n 2, 1) ∧ 17 + 1 = 18 := ⟨by decide +kernel, rfl⟩
theorem zd_JA_copyOf_18 : decode zb_JA_copyOf 18 = .ok (.aload_n 0, 1) ∧ 18 + 1 = 19 := ⟨by decide +kernel, rfl⟩
theorem zd_JA_copyOf_19 : decode zb_JA_copyOf 19 = .ok (.iconst 0, 1) ∧ 19 + 1 = 20 := ⟨by decide +kernel, rfl⟩
theorem zd_JA_copyOf_20 : decode zb_JA_copyOf 20 = .ok (.aload_n 2, 1) ∧ 20 + 1 = 21 := ⟨by decide +kernel, rfl⟩
theorem zd_JA_copyOf_21 : decode zb_JA_copyOf 21 = .ok (.iconst 0, 1) ∧ 21 + 1 = 22 := ⟨by decide +kernel, rfl⟩
theorem zd_JA_copyOf_22 : decode zb_JA_copyOf 22 = .ok (.aload_n 0, 1) ∧ 22 + 1 = 23 := ⟨by decide +kernel, rfl⟩
theorem zd_JA_copyOf_23 : decode zb_JA_copyOf 23 = .ok (.arraylength, 1) ∧ 23 + 1 = 24 := ⟨by decide +kernel, rfl⟩
theorem zd_JA_copyOf_24 : decode zb_JA_copyOf 24 = .ok (.iload_n 1, 1) ∧ 24 + 1 = 25 := ⟨by decide +kernel, rfl⟩
theorem zd_JA_copyOf_25 : decode zb_JA_copyOf 25 = .ok (.invokestatic 304, 3) ∧ 25 + 3 = 28 := ⟨by decide +kernel, rfl⟩
theorem zd_JA_copyOf_28 : decode zb_JA_copyOf 28 = .ok (.invokestatic 150, 3) ∧ 28 + 3 = 31 := ⟨by decide +kernel, rfl⟩
theorem zd_JA_copyOf_31 : decode zb_JA_copyOf 31 = .ok (.aload_n 2, 1) ∧ 31 + 1 = 32 := ⟨by decide +kernel, rfl⟩
theorem zd_JA_copyOf_32 : decode zb_JA_copyOf 32 = .ok (.areturn, 1) ∧ 32 + 1 = 33 := ⟨by decide +kernel, rfl⟩
theorem zd_JA_checkLength_0 : decode zb_JA_checkLength 0 = .ok (.iload_n 1, 1) ∧ 0 + 1 = 1 := ⟨by decide +kernel, rfl⟩
theorem zd_JA_checkLength_1 : decode zb_JA_checkLength 1 = .ok (.iload_n 0, 1) ∧ 1 + 1 = 2 := ⟨by decide +kernel, rfl⟩
theorem zd_JA_checkLength_2 : decode zb_JA_checkLength 2 = .ok (.if_icmp .ge 35, 3) ∧ ((2 : Nat) : Int) + (35) = ((37 : Nat) : Int) ∧ 2 + 3 = 5 := ⟨by decide +kernel, by decide, rfl⟩
theorem zd_JA_checkLength_5 : decode zb_JA_checkLength 5 = .ok (.new 43, 3) ∧ 5 + 3 = 8 := ⟨by decide +kernel, rfl⟩
theorem zd_JA_checkLength_8 : decode zb_JA_checkLength 8 = .ok (.dup, 1) ∧ 8 + 1 = 9 := ⟨by decide +kernel, rfl⟩
theorem zd_JA_checkLength_9 : decode zb_JA_checkLength 9 = .ok (.new 45, 3) ∧ 9 + 3 = 12 := ⟨by decide +kernel, rfl⟩
theorem zd_JA_checkLength_12 : decode zb_JA_checkLength 12 = .ok (.dup, 1) ∧ 12 + 1 = 13 := ⟨by decide +kernel, rfl⟩
theorem zd_JA_checkLength_13 : decode zb_JA_checkLength 13 = .ok (.invokespecial 47, 3) ∧ 13 + 3 = 16 := ⟨by decide +kernel, rfl⟩
theorem zd_JA_checkLength_16 : decode zb_JA_checkLength 16 = .ok (.iload_n 0, 1) ∧ 16 + 1 = 17 := ⟨by decide +kernel, rfl⟩
theorem zd_JA_checkLength_17 : decode zb_JA_checkLength 17 = .ok (.invokevirtual 54, 3) ∧ 17 + 3 = 20 := ⟨by decide +kernel, rfl⟩
theorem zd_JA_checkLength_20 : decode zb_JA_checkLength 20 = .ok (.ldc_w 337, 3) ∧ 20 + 3 = 23 := ⟨by decide +kernel, rfl⟩
theorem zd_JA_checkLength_23 : decode zb_JA_checkLength 23 = .ok (.invokevirtual 50, 3) ∧ 23 + 3 = 26 := ⟨by decide +kernel, rfl⟩
theorem zd_JA_checkLength_26 : decode zb_JA_checkLength 26 = .ok (.iload_n 1, 1) ∧ 26 + 1 = 27 := ⟨by decide +kernel, rfl⟩
theorem zd_JA_checkLength_27 : decode zb_JA_checkLength 27 = .ok (.invokevirtual 54, 3) ∧ 27 + 3 = 30 := ⟨by decide +kernel, rfl⟩
theorem zd_JA_checkLength_30 : decode zb_JA_checkLength 30 = .ok (.invokevirtual 61, 3) ∧ 30 + 3 = 33 := ⟨by decide +kernel, rfl⟩
theorem zd_JA_checkLength_33 : decode zb_JA_checkLength 33 = .ok (.invokespecial 65, 3) ∧ 33 + 3 = 36 := ⟨by decide +kernel, rfl⟩
theorem zd_JA_checkLength_36 : decode zb_JA_checkLength 36 = .ok (.athrow, 1) ∧ 36 + 1 = 37 := ⟨by decide +kernel, rfl⟩
theorem zd_JA_checkLength_37 : decode zb_JA_checkLength 37 = .ok (.return_, 1) ∧ 37 + 1 = 38 := ⟨by decide +kernel, rfl⟩
theorem zd_JA_copyOfRange_0 : decode zb_JA_copyOfRange 0 = .ok (.iload_n 1, 1) ∧ 0 + 1 = 1 := ⟨by decide +kernel, rfl⟩
theorem zd_JA_copyOfRange_1 : decode zb_JA_copyOfRange 1 = .ok (.ifCond .ne 9, 3) ∧ ((1 : Nat) : Int) + (9) = ((10 : Nat) : Int) ∧ 1 + 3 = 4 := ⟨by decide +kernel, by decide, rfl⟩
theorem zd_JA_copyOfRange_4 : decode zb_JA_copyOfRange 4 = .ok (.iload_n 2, 1) ∧ 4 + 1 = 5 := ⟨by decide +kernel, rfl⟩
theorem zd_JA_copyOfRange_5 : decode zb_JA_copyOfRange 5 = .ok (.aload_n 0, 1) ∧ 5 + 1 = 6 := ⟨by decide +kernel, rfl⟩
theorem zd_JA_copyOfRange_6 : decode zb_JA_copyOfRange 6 = .ok (.arraylength, 1) ∧ 6 + 1 = 7 := ⟨by decide +kernel, rfl⟩
theorem zd_JA_copyOfRange_7 : decode zb_JA_copyOfRange 7 = .ok (.if_icmp .eq 10, 3) ∧ ((7 : Nat) : Int) + (10) = ((17 : Nat) : Int) ∧ 7 + 3 = 10 := ⟨by decide +kernel, by decide, rfl⟩
theorem zd_JA_copyOfRange_10 : decode zb_JA_copyOfRange 10 = .ok (.aload_n 0, 1) ∧ 10 + 1 = 11 := ⟨by decide +kernel, rfl⟩
theorem zd_JA_copyOfRange_11 : decode zb_JA_copyOfRange 11 = .ok (.iload_n 1, 1) ∧ 11 + 1 = 12 := ⟨by decide +kernel, rfl⟩
theorem zd_JA_copyOfRange_12 : decode zb_JA_copyOfRange 12 = .ok (.iload_n 2, 1) ∧ 12 + 1 = 13 := ⟨by decide +kernel, rfl⟩
theorem zd_JA_copyOfRange_13 : decode zb_JA_copyOfRange 13 = .ok (.invokestatic 339, 3) ∧ 13 + 3 = 16 := ⟨by decide +kernel, rfl⟩
theorem zd_JA_copyOfRange_16 : decode zb_JA_copyOfRange 16 = .ok (.areturn, 1) ∧ 16 + 1 = 17 := ⟨by decide +kernel, rfl⟩
theorem zd_JA_copyOfRange_17 : decode zb_JA_copyOfRange 17 = .ok (.aload_n 0, 1) ∧ 17 + 1 = 18 := ⟨by decide +kernel, rfl⟩
theorem zd_JA_copyOfRange_18 : decode zb_JA_copyOfRange 18 = .ok (.invokevirtual 310, 3) ∧ 18 + 3 = 21 := ⟨by decide +kernel, rfl⟩
theorem zd_JA_copyOfRange_21 : decode zb_JA_copyOfRange 21 = .ok (.checkcast 311, 3) ∧ 21 + 3 = 24 := ⟨by decide +kernel, rfl⟩
theorem zd_JA_copyOfRange_24 : decode zb_JA_copyOfRange 24 = .ok (.areturn, 1) ∧ 24 + 1 = 25 := ⟨by decide +kernel, rfl⟩
theorem zd_JA_copyOfRangeByte_0 : decode zb_JA_copyOfRangeByte 0 = .ok (.iload_n 1, 1) ∧ 0 + 1 = 1 := ⟨by decide +kernel, rfl⟩
theorem zd_JA_copyOfRangeByte_1 : decode zb_JA_copyOfRangeByte 1 = .ok (.iload_n 2, 1) ∧ 1 + 1 = 2 := ⟨by decide +kernel, rfl⟩
theorem zd_JA_copyOfRangeByte_2 : decode zb_JA_copyOfRangeByte 2 = .ok (.invokestatic 343, 3) ∧ 2 + 3 = 5 := ⟨by decide +kernel, rfl⟩
theorem zd_JA_copyOfRangeByte_5 : decode zb_JA_copyOfRangeByte 5 = .ok (.iload_n 2, 1) ∧ 5 + 1 = 6 := ⟨by decide +kernel, rfl⟩
theorem zd_JA_copyOfRangeByte_6 : decode zb_JA_copyOfRangeByte 6 = .ok (.iload_n 1, 1) ∧ 6 + 1 = 7 := ⟨by decide +kernel, rfl⟩
theorem zd_JA_copyOfRangeByte_7 : decode zb_JA_copyOfRangeByte 7 = .ok (.isub, 1) ∧ 7 + 1 = 8 := ⟨by decide +kernel, rfl⟩
theorem zd_JA_copyOfRangeByte_8 : decode zb_JA_copyOfRangeByte 8 = .ok (.istore_n 3, 1) ∧ 8 + 1 = 9 := ⟨by decide +kernel, rfl⟩
theorem zd_JA_copyOfRangeByte_9 : decode zb_JA_copyOfRangeByte 9 = .ok (.iload_n 3, 1) ∧ 9 + 1 = 10 := ⟨by decide +kernel, rfl⟩
theorem zd_JA_copyOfRangeByte_10 : decode zb_JA_copyOfRangeByte 10 = .ok (.newarray .byte, 2) ∧ 10 + 2 = 12 := ⟨by decide +kernel, rfl⟩
theorem zd_JA_copyOfRangeByte_12 : decode zb_JA_copyOfRangeByte 12 = .ok (.astore 4, 2) ∧ 12 + 2 = 14 := ⟨by decide +kernel, rfl⟩
theorem zd_JA_copyOfRangeByte_14 : decode zb_JA_copyOfRangeByte 14 = .ok (.aload_n 0, 1) ∧ 14 + 1 = 15 := ⟨by decide +kernel, rfl⟩
theorem zd_JA_copyOfRangeByte_15 : decode zb_JA_copyOfRangeByte 15 = .ok (.iload_n 1, 1) ∧ 15 + 1 = 16 := ⟨by decide +kernel, rfl⟩
theorem zd_JA_copyOfRangeByte_16 : decode zb_JA_copyOfRangeByte 16 = .ok (.aload 4, 2) ∧ 16 + 2 = 18 := ⟨by decide +kernel, rfl⟩
theorem zd_JA_copyOfRangeByte_18 : decode zb_JA_copyOfRangeByte 18 = .ok (.iconst 0, 1) ∧ 18 + 1 = 19 := ⟨by decide +kernel, rfl⟩
theorem zd_JA_copyOfRangeByte_19 : decode zb_JA_copyOfRangeByte 19 = .ok (.aload_n 0, 1) ∧ 19 + 1 = 20 := ⟨by decide +kernel, rfl⟩
theorem zd_JA_copyOfRangeByte_20 : decode zb_JA_copyOfRangeByte 20 = .ok (.arraylength, 1) ∧ 20 + 1 = 21 := ⟨by decide +kernel, rfl⟩
theorem zd_JA_copyOfRangeByte_21 : decode zb_JA_copyOfRangeByte 21 = .ok (.iload_n 1, 1) ∧ 21 + 1 = 22 := ⟨by decide +kernel, rfl⟩
theorem zd_JA_copyOfRangeByte_22 : decode zb_JA_copyOfRangeByte 22 = .ok (.isub, 1) ∧ 22 + 1 = 23 := ⟨by decide +kernel, rfl⟩
theorem zd_JA_copyOfRangeByte_23 : decode zb_JA_copyOfRangeByte 23 = .ok (.iload_n 3, 1) ∧ 23 + 1 = 24 := ⟨by decide +kernel, rfl⟩
theorem zd_JA_copyOfRangeByte_24 : decode zb_JA_copyOfRangeByte 24 = .ok (.invokestatic 304, 3) ∧ 24 + 3 = 27 := ⟨by decide +kernel, rfl⟩
theorem zd_JA_copyOfRangeByte_27 : decode zb_JA_copyOfRangeByte 27 = .ok (.invokestatic 150, 3) ∧ 27 + 3 = 30 := ⟨by decide +kernel, rfl⟩
theorem zd_JA_copyOfRangeByte_30 : decode zb_JA_copyOfRangeByte 30 = .ok (.aload 4, 2) ∧ 30 + 2 = 32 := ⟨by decide +kernel, rfl⟩
theorem zd_JA_copyOfRangeByte_32 : decode zb_JA_copyOfRangeByte 32 = .ok (.areturn, 1) ∧ 32 + 1 = 33 := ⟨by decide +kernel, rfl⟩
theorem zd_JV_newLength_0 : decode zb_JV_newLength 0 = .ok (.iload_n 0, 1) ∧ 0 + 1 = 1 := ⟨by decide +kernel, rfl⟩
theorem zd_JV_newLength_1 : decode zb_JV_newLength 1 = .ok (.iload_n 1, 1) ∧ 1 + 1 = 2 := ⟨by decide +kernel, rfl⟩
theorem zd_JV_newLength_2 : decode zb_JV_newLength 2 = .ok (.iload_n 2, 1) ∧ 2 + 1 = 3 := ⟨by decide +kernel, rfl⟩
theorem zd_JV_newLength_3 : decode zb_JV_newLength 3 = .ok (.invokestatic 194, 3) ∧ 3 + 3 = 6 := ⟨by decide +kernel, rfl⟩
theorem zd_JV_newLength_6 : decode zb_JV_newLength 6 = .ok (.iadd, 1) ∧ 6 + 1 = 7 := ⟨by decide +kernel, rfl⟩
theorem zd_JV_newLength_7 : decode zb_JV_newLength 7 = .ok (.istore_n 3, 1) ∧ 7 + 1 = 8 := ⟨by decide +kernel, rfl⟩
theorem zd_JV_newLength_8 : decode zb_JV_newLength 8 = .ok (.iconst 0, 1) ∧ 8 + 1 = 9 := ⟨by decide +kernel, rfl⟩
theorem zd_JV_newLength_9 : decode zb_JV_newLength 9 = .ok (.iload_n 3, 1) ∧ 9 + 1 = 10 := ⟨by decide +kernel, rfl⟩
theorem zd_JV_newLength_10 : decode zb_JV_newLength 10 = .ok (.if_icmp .ge 11, 3) ∧ ((10 : Nat) : Int) + (11) = ((21 : Nat) : Int) ∧ 10 + 3 = 13 := ⟨by decide +kernel, by decide, rfl⟩
theorem zd_JV_newLength_13 : decode zb_JV_newLength 13 = .ok (.iload_n 3, 1) ∧ 13 + 1 = 14 := ⟨by decide +kernel, rfl⟩
theorem zd_JV_newLength_14 : decode zb_JV_newLength 14 = .ok (.ldc 200, 2) ∧ 14 + 2 = 16 := ⟨by decide +kernel, rfl⟩
theorem zd_JV_newLength_16 : decode zb_JV_newLength 16 = .ok (.if_icmp .gt 5, 3) ∧ ((16 : Nat) : Int) + (5) = ((21 : Nat) : Int) ∧ 16 + 3 = 19 := ⟨by decide +kernel, by decide, rfl⟩
theorem zd_JV_newLength_19 : decode zb_JV_newLength 19 = .ok (.iload_n 3, 1) ∧ 19 + 1 = 20 := ⟨by decide +kernel, rfl⟩
theorem zd_JV_newLength_20 : decode zb_JV_newLength 20 = .ok (.ireturn, 1) ∧ 20 + 1 = 21 := ⟨by decide +kernel, rfl⟩
theorem zd_JV_newLength_21 : decode zb_JV_newLength 21 = .ok (.iload_n 0, 1) ∧ 21 + 1 = 22 := ⟨by decide +kernel, rfl⟩
theorem zd_JV_newLength_22 : decode zb_JV_newLength 22 = .ok (.iload_n 1, 1) ∧ 22 + 1 = 23 := ⟨by decide +kernel, rfl⟩
theorem zd_JV_newLength_23 : decode zb_JV_newLength 23 = .ok (.invokestatic 201, 3) ∧ 23 + 3 = 26 := ⟨by decide +kernel, rfl⟩
theorem zd_JV_newLength_26 : decode zb_JV_newLength 26 = .ok (.ireturn, 1) ∧ 26 + 1 = 27 := ⟨by decide +kernel, rfl⟩
theorem zd_JV_hugeLength_0 : decode zb_JV_hugeLength 0 = .ok (.iload_n 0, 1) ∧ 0 + 1 = 1 := ⟨by decide +kernel, rfl⟩
theorem zd_JV_hugeLength_1 : decode zb_JV_hugeLength 1 = .ok (.iload_n 1, 1) ∧ 1 + 1 = 2 := ⟨by decide +kernel, rfl⟩
theorem zd_JV_hugeLength_2 : decode zb_JV_hugeLength 2 = .ok (.iadd, 1) ∧ 2 + 1 = 3 := ⟨by decide +kernel, rfl⟩
theorem zd_JV_hugeLength_3 : decode zb_JV_hugeLength 3 = .ok (.istore_n 2, 1) ∧ 3 + 1 = 4 := ⟨by decide +kernel, rfl⟩
theorem zd_JV_hugeLength_4 : decode zb_JV_hugeLength 4 = .ok (.iload_n 2, 1) ∧ 4 + 1 = 5 := ⟨by decide +kernel, rfl⟩
theorem zd_JV_hugeLength_5 : decode zb_JV_hugeLength 5 = .ok (.ifCond .ge 44, 3) ∧ ((5 : Nat) : Int) + (44) = ((49 : Nat) : Int) ∧ 5 + 3 = 8 := ⟨by decide +kernel, by decide, rfl⟩
theorem zd_JV_hugeLength_8 : decode zb_JV_hugeLength 8 = .ok (.new 204, 3) ∧ 8 + 3 = 11 := ⟨by decide +kernel, rfl⟩
theorem zd_JV_hugeLength_11 : decode zb_JV_hugeLength 11 = .ok (.dup, 1) ∧ 11 + 1 = 12 := ⟨by decide +kernel, rfl⟩
theorem zd_JV_hugeLength_12 : decode zb_JV_hugeLength 12 = .ok (.new 89, 3) ∧ 12 + 3 = 15 := ⟨by decide +kernel, rfl⟩
theorem zd_JV_hugeLength_15 : decode zb_JV_hugeLength 15 = .ok (.dup, 1) ∧ 15 + 1 = 16 := ⟨by decide +kernel, rfl⟩
theorem zd_JV_hugeLength_16 : decode zb_JV_hugeLength 16 = .ok (.invokespecial 91, 3) ∧ 16 + 3 = 19 := ⟨by decide +kernel, rfl⟩
theorem zd_JV_hugeLength_19 : decode zb_JV_hugeLength 19 = .ok (.ldc 206, 2) ∧ 19 + 2 = 21 := ⟨by decide +kernel, rfl⟩
theorem zd_JV_hugeLength_21 : decode zb_JV_hugeLength 21 = .ok (.invokevirtual 94, 3) ∧ 21 + 3 = 24 := ⟨by decide +kernel, rfl⟩
theorem zd_JV_hugeLength_24 : decode zb_JV_hugeLength 24 = .ok (.iload_n 0, 1) ∧ 24 + 1 = 25 := ⟨by decide +kernel, rfl⟩
theorem zd_JV_hugeLength_25 : decode zb_JV_hugeLength 25 = .ok (.invokevirtual 98, 3) ∧ 25 + 3 = 28 := ⟨by decide +kernel, rfl⟩
theorem zd_JV_hugeLength_28 : decode zb_JV_hugeLength 28 = .ok (.ldc 208, 2) ∧ 28 + 2 = 30 := ⟨by decide +kernel, rfl⟩
theorem zd_JV_hugeLength_30 : decode zb_JV_hugeLength 30 = .ok (.invokevirtual 94, 3) ∧ 30 + 3 = 33 := ⟨by decide +kernel, rfl⟩
theorem zd_JV_hugeLength_33 : decode zb_JV_hugeLength 33 = .ok (.iload_n 1, 1) ∧ 33 + 1 = 34 := ⟨by decide +kernel, rfl⟩
theorem zd_JV_hugeLength_34 : decode zb_JV_hugeLength 34 = .ok (.invokevirtual 98, 3) ∧ 34 + 3 = 37 := ⟨by decide +kernel, rfl⟩
theorem zd_JV_hugeLength_37 : decode zb_JV_hugeLength 37 = .ok (.ldc 210, 2) ∧ 37 + 2 = 39 := ⟨by decide +kernel, rfl⟩
theorem zd_JV_hugeLength_39 : decode zb_JV_hugeLength 39 = .ok (.invokevirtual 94, 3) ∧ 39 + 3 = 42 := ⟨by decide +kernel, rfl⟩
theorem zd_JV_hugeLength_42 : decode zb_JV_hugeLength 42 = .ok (.invokevirtual 101, 3) ∧ 42 + 3 = 45 := ⟨by decide +kernel, rfl⟩
theorem zd_JV_hugeLength_45 : decode zb_JV_hugeLength 45 = .ok (.invokespecial 212, 3) ∧ 45 + 3 = 48 := ⟨by decide +kernel, rfl⟩
theorem zd_JV_hugeLength_48 : decode zb_JV_hugeLength 48 = .ok (.athrow, 1) ∧ 48 + 1 = 49 := ⟨by decide +kernel, rfl⟩
theorem zd_JV_hugeLength_49 : decode zb_JV_hugeLength 49 = .ok (.iload_n 2, 1) ∧ 49 + 1 = 50 := ⟨by decide +kernel, rfl⟩
theorem zd_JV_hugeLength_50 : decode zb_JV_hugeLength 50 = .ok (.ldc 200, 2) ∧ 50 + 2 = 52 := ⟨by decide +kernel, rfl⟩
theorem zd_JV_hugeLength_52 : decode zb_JV_hugeLength 52 = .ok (.if_icmp .gt 6, 3) ∧ ((52 : Nat) : Int) + (6) = ((58 : Nat) : Int) ∧ 52 + 3 = 55 := ⟨by decide +kernel, by decide, rfl⟩
theorem zd_JV_hugeLength_55 : decode zb_JV_hugeLength 55 = .ok (.ldc 200, 2) ∧ 55 + 2 = 57 := ⟨by decide +kernel, rfl⟩
theorem zd_JV_hugeLength_57 : decode zb_JV_hugeLength 57 = .ok (.ireturn, 1) ∧ 57 + 1 = 58 := ⟨by decide +kernel, rfl⟩
theorem zd_JV_hugeLength_58 : decode zb_JV_hugeLength 58 = .ok (.iload_n 2, 1) ∧ 58 + 1 = 59 := ⟨by decide +kernel, rfl⟩
theorem zd_JV_hugeLength_59 : decode zb_JV_hugeLength 59 = .ok (.ireturn, 1) ∧ 59 + 1 = 60 := ⟨by decide +kernel, rfl⟩
theorem zd_JP_checkIndex_0 : decode zb_JP_checkIndex 0 = .ok (.iload_n 0, 1) ∧ 0 + 1 = 1 := ⟨by decide +kernel, rfl⟩
theorem zd_JP_checkIndex_1 : decode zb_JP_checkIndex 1 = .ok (.ifCond .lt 8, 3) ∧ ((1 : Nat) : Int) + (8) = ((9 : Nat) : Int) ∧ 1 + 3 = 4 := ⟨by decide +kernel, by decide, rfl⟩
theorem zd_JP_checkIndex_4 : decode zb_JP_checkIndex 4 = .ok (.iload_n 0, 1) ∧ 4 + 1 = 5 := ⟨by decide +kernel, rfl⟩
theorem zd_JP_checkIndex_5 : decode zb_JP_checkIndex 5 = .ok (.iload_n 1, 1) ∧ 5 + 1 = 6 := ⟨by decide +kernel, rfl⟩
theorem zd_JP_checkIndex_6 : decode zb_JP_checkIndex 6 = .ok (.if_icmp .lt 10, 3) ∧ ((6 : Nat) : Int) + (10) = ((16 : Nat) : Int) ∧ 6 + 3 = 9 := ⟨by decide +kernel, by decide, rfl⟩
theorem zd_JP_checkIndex_9 : decode zb_JP_checkIndex 9 = .ok (.aload_n 2, 1) ∧ 9 + 1 = 10 := ⟨by decide +kernel, rfl⟩
theorem zd_JP_checkIndex_10 : decode zb_JP_checkIndex 10 = .ok (.iload_n 0, 1) ∧ 10 + 1 = 11 := ⟨by decide +kernel, rfl⟩
theorem zd_JP_checkIndex_11 : decode zb_JP_checkIndex 11 = .ok (.iload_n 1, 1) ∧ 11 + 1 = 12 := ⟨by decide +kernel, rfl⟩
theorem zd_JP_checkIndex_12 : decode zb_JP_checkIndex 12 = .ok (.invokestatic 95, 3) ∧ 12 + 3 = 15 := ⟨by decide +kernel, rfl⟩
theorem zd_JP_checkIndex_15 : decode zb_JP_checkIndex 15 = .ok (.athrow, 1) ∧ 15 + 1 = 16 := ⟨by decide +kernel, rfl⟩
theorem zd_JP_checkIndex_16 : decode zb_JP_checkIndex 16 = .ok (.iload_n 0, 1) ∧ 16 + 1 = 17 := ⟨by decide +kernel, rfl⟩
theorem zd_JP_checkIndex_17 : decode zb_JP_checkIndex 17 = .ok (.ireturn, 1) ∧ 17 + 1 = 18 := ⟨by decide +kernel, rfl⟩
theorem zd_JP_checkFromToIndex_0 : decode zb_JP_checkFromToIndex 0 = .ok (.iload_n 0, 1) ∧ 0 + 1 = 1 := ⟨by decide +kernel, rfl⟩
theorem zd_JP_checkFromToIndex_1 : decode zb_JP_checkFromToIndex 1 = .ok (.ifCond .lt 13, 3) ∧ ((1 : Nat) : Int) + (13) = ((14 : Nat) : Int) ∧ 1 + 3 = 4 := ⟨by decide +kernel, by decide, rfl⟩
theorem zd_JP_checkFromToIndex_4 : decode zb_JP_checkFromToIndex 4 = .ok (.iload_n 0, 1) ∧ 4 + 1 = 5 := ⟨by decide +kernel, rfl⟩
theorem zd_JP_checkFromToIndex_5 : decode zb_JP_checkFromToIndex 5 = .ok (.iload_n 1, 1) ∧ 5 + 1 = 6 := ⟨by decide +kernel, rfl⟩
theorem zd_JP_checkFromToIndex_6 : decode zb_JP_checkFromToIndex 6 = .ok (.if_icmp .gt 8, 3) ∧ ((6 : Nat) : Int) + (8) = ((14 : Nat) : Int) ∧ 6 + 3 = 9 := ⟨by decide +kernel, by decide, rfl⟩
theorem zd_JP_checkFromToIndex_9 : decode zb_JP_checkFromToIndex 9 = .ok (.iload_n 1, 1) ∧ 9 + 1 = 10 := ⟨by decide +kernel, rfl⟩
theorem zd_JP_checkFromToIndex_10 : decode zb_JP_checkFromToIndex 10 = .ok (.iload_n 2, 1) ∧ 10 + 1 = 11 := ⟨by decide +kernel, rfl⟩
theorem zd_JP_checkFromToIndex_11 : decode zb_JP_checkFromToIndex 11 = .ok (.if_icmp .le 11, 3) ∧ ((11 : Nat) : Int) + (11) = ((22 : Nat) : Int) ∧ 11 + 3 = 14 := ⟨by decide +kernel, by decide, rfl⟩
theorem zd_JP_checkFromToIndex_14 : decode zb_JP_checkFromToIndex 14 = .ok (.aload_n 3, 1) ∧ 14 + 1 = 15 := ⟨by decide +kernel, rfl⟩
theorem zd_JP_checkFromToIndex_15 : decode zb_JP_checkFromToIndex 15 = .ok (.iload_n 0, 1) ∧ 15 + 1 = 16 := ⟨by decide +kernel, rfl⟩
theorem zd_JP_checkFromToIndex_16 : decode zb_JP_checkFromToIndex 16 = .ok (.iload_n 1, 1) ∧ 16 + 1 = 17 := ⟨by decide +kernel, rfl⟩
theorem zd_JP_checkFromToIndex_17 : decode zb_JP_checkFromToIndex 17 = .ok (.iload_n 2, 1) ∧ 17 + 1 = 18 := ⟨by decide +kernel, rfl⟩
theorem zd_JP_checkFromToIndex_18 : decode zb_JP_checkFromToIndex 18 = .ok (.invokestatic 99, 3) ∧ 18 + 3 = 21 := ⟨by decide +kernel, rfl⟩
theorem zd_JP_checkFromToIndex_21 : decode zb_JP_checkFromToIndex 21 = .ok (.athrow, 1) ∧ 21 + 1 = 22 := ⟨by decide +kernel, rfl⟩
theorem zd_JP_checkFromToIndex_22 : decode zb_JP_checkFromToIndex 22 = .ok (.iload_n 0, 1) ∧ 22 + 1 = 23 := ⟨by decide +kernel, rfl⟩
theorem zd_JP_checkFromToIndex_23 : decode zb_JP_checkFromToIndex 23 = .ok (.ireturn, 1) ∧ 23 + 1 = 24 := ⟨by decide +kernel, rfl⟩
theorem zd_JP_checkFromIndexSize_0 : decode zb_JP_checkFromIndexSize 0 = .ok (.iload_n 2, 1) ∧ 0 + 1 = 1 := ⟨by decide +kernel, rfl⟩
theorem zd_JP_checkFromIndexSize_1 : decode zb_JP_checkFromIndexSize 1 = .ok (.iload_n 0, 1) ∧ 1 + 1 = 2 := ⟨by decide +kernel, rfl⟩
theorem zd_JP_checkFromIndexSize_2 : decode zb_JP_checkFromIndexSize 2 = .ok (.ior, 1) ∧ 2 + 1 = 3 := ⟨by decide +kernel, rfl⟩
theorem zd_JP_checkFromIndexSize_3 : decode zb_JP_checkFromIndexSize 3 = .ok (.iload_n 1, 1) ∧ 3 + 1 = 4 := ⟨by decide +kernel, rfl⟩
theorem zd_JP_checkFromIndexSize_4 : decode zb_JP_checkFromIndexSize 4 = .ok (.ior, 1) ∧ 4 + 1 = 5 := ⟨by decide +kernel, rfl⟩
theorem zd_JP_checkFromIndexSize_5 : decode zb_JP_checkFromIndexSize 5 = .ok (.ifCond .lt 10, 3) ∧ ((5 : Nat) : Int) + (10) = ((15 : Nat) : Int) ∧ 5 + 3 = 8 := ⟨by decide +kernel, by decide, rfl⟩
theorem zd_JP_checkFromIndexSize_8 : decode zb_JP_checkFromIndexSize 8 = .ok (.iload_n 1, 1) ∧ 8 + 1 = 9 := ⟨by decide +kernel, rfl⟩
theorem zd_JP_checkFromIndexSize_9 : decode zb_JP_checkFromIndexSize 9 = .ok (.iload_n 2, 1) ∧ 9 + 1 = 10 := ⟨by decide +kernel, rfl⟩
theorem zd_JP_checkFromIndexSize_10 : decode zb_JP_checkFromIndexSize 10 = .ok (.iload_n 0, 1) ∧ 10 + 1 = 11 := ⟨by decide +kernel, rfl⟩
theorem zd_JP_checkFromIndexSize_11 : decode zb_JP_checkFromIndexSize 11 = .ok (.isub, 1) ∧ 11 + 1 = 12 := ⟨by decide +kernel, rfl⟩
theorem zd_JP_checkFromIndexSize_12 : decode zb_JP_checkFromIndexSize 12 = .ok (.if_icmp .le 11, 3) ∧ ((12 : Nat) : Int) + (11) = ((23 : Nat) : Int) ∧ 12 + 3 = 15 := ⟨by decide +kernel, by decide, rfl⟩
theorem zd_JP_checkFromIndexSize_15 : decode zb_JP_checkFromIndexSize 15 = .ok (.aload_n 3, 1) ∧ 15 + 1 = 16 := ⟨by decide +kernel, rfl⟩
theorem zd_JP_checkFromIndexSize_16 : decode zb_JP_checkFromIndexSize 16 = .ok (.iload_n 0, 1) ∧ 16 + 1 = 17 := ⟨by decide +kernel, rfl⟩
theorem zd_JP_checkFromIndexSize_17 : decode zb_JP_checkFromIndexSize 17 = .ok (.iload_n 1, 1) ∧ 17 + 1 = 18 := ⟨by decide +kernel, rfl⟩
theorem zd_JP_checkFromIndexSize_18 : decode zb_JP_checkFromIndexSize 18 = .ok (.iload_n 2, 1) ∧ 18 + 1 = 19 := ⟨by decide +kernel, rfl⟩
theorem zd_JP_checkFromIndexSize_19 : decode zb_JP_checkFromIndexSize 19 = .ok (.invokestatic 103, 3) ∧ 19 + 3 = 22 := ⟨by decide +kernel, rfl⟩
theorem zd_JP_checkFromIndexSize_22 : decode zb_JP_checkFromIndexSize 22 = .ok (.athrow, 1) ∧ 22 + 1 = 23 := ⟨by decide +kernel, rfl⟩
theorem zd_JP_checkFromIndexSize_23 : decode zb_JP_checkFromIndexSize 23 = .ok (.iload_n 0, 1) ∧ 23 + 1 = 24 := ⟨by decide +kernel, rfl⟩
theorem zd_JP_checkFromIndexSize_24 : decode zb_JP_checkFromIndexSize 24 = .ok (.ireturn, 1) ∧ 24 + 1 = 25 := ⟨by decide +kernel, rfl⟩
