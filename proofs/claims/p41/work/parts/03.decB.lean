theorem zd_B_init_0 : decode zb_B_init 0 = .ok (.aload_n 0, 1) ∧ 0 + 1 = 1 := ⟨by decide +kernel, rfl⟩
theorem zd_B_init_1 : decode zb_B_init 1 = .ok (.invokespecial 3, 3) ∧ 1 + 3 = 4 := ⟨by decide +kernel, rfl⟩
theorem zd_B_init_4 : decode zb_B_init 4 = .ok (.aload_n 0, 1) ∧ 4 + 1 = 5 := ⟨by decide +kernel, rfl⟩
theorem zd_B_init_5 : decode zb_B_init 5 = .ok (.sipush 1600, 3) ∧ 5 + 3 = 8 := ⟨by decide +kernel, rfl⟩
theorem zd_B_init_8 : decode zb_B_init 8 = .ok (.newarray .int, 2) ∧ 8 + 2 = 10 := ⟨by decide +kernel, rfl⟩
theorem zd_B_init_10 : decode zb_B_init 10 = .ok (.putfield 9, 3) ∧ 10 + 3 = 13 := ⟨by decide +kernel, rfl⟩
theorem zd_B_init_13 : decode zb_B_init 13 = .ok (.aload_n 0, 1) ∧ 13 + 1 = 14 := ⟨by decide +kernel, rfl⟩
theorem zd_B_init_14 : decode zb_B_init 14 = .ok (.new 13, 3) ∧ 14 + 3 = 17 := ⟨by decide +kernel, rfl⟩
theorem zd_B_init_17 : decode zb_B_init 17 = .ok (.dup, 1) ∧ 17 + 1 = 18 := ⟨by decide +kernel, rfl⟩
theorem zd_B_init_18 : decode zb_B_init 18 = .ok (.invokespecial 15, 3) ∧ 18 + 3 = 21 := ⟨by decide +kernel, rfl⟩
theorem zd_B_init_21 : decode zb_B_init 21 = .ok (.putfield 16, 3) ∧ 21 + 3 = 24 := ⟨by decide +kernel, rfl⟩
theorem zd_B_init_24 : decode zb_B_init 24 = .ok (.aload_n 0, 1) ∧ 24 + 1 = 25 := ⟨by decide +kernel, rfl⟩
theorem zd_B_init_25 : decode zb_B_init 25 = .ok (.new 20, 3) ∧ 25 + 3 = 28 := ⟨by decide +kernel, rfl⟩
theorem zd_B_init_28 : decode zb_B_init 28 = .ok (.dup, 1) ∧ 28 + 1 = 29 := ⟨by decide +kernel, rfl⟩
theorem zd_B_init_29 : decode zb_B_init 29 = .ok (.invokespecial 22, 3) ∧ 29 + 3 = 32 := ⟨by decide +kernel, rfl⟩
theorem zd_B_init_32 : decode zb_B_init 32 = .ok (.putfield 23, 3) ∧ 32 + 3 = 35 := ⟨by decide +kernel, rfl⟩
theorem zd_B_init_35 : decode zb_B_init 35 = .ok (.aload_n 0, 1) ∧ 35 + 1 = 36 := ⟨by decide +kernel, rfl⟩
theorem zd_B_init_36 : decode zb_B_init 36 = .ok (.new 27, 3) ∧ 36 + 3 = 39 := ⟨by decide +kernel, rfl⟩
theorem zd_B_init_39 : decode zb_B_init 39 = .ok (.dup, 1) ∧ 39 + 1 = 40 := ⟨by decide +kernel, rfl⟩
theorem zd_B_init_40 : decode zb_B_init 40 = .ok (.invokespecial 29, 3) ∧ 40 + 3 = 43 := ⟨by decide +kernel, rfl⟩
theorem zd_B_init_43 : decode zb_B_init 43 = .ok (.putfield 30, 3) ∧ 43 + 3 = 46 := ⟨by decide +kernel, rfl⟩
theorem zd_B_init_46 : decode zb_B_init 46 = .ok (.aload_n 0, 1) ∧ 46 + 1 = 47 := ⟨by decide +kernel, rfl⟩
theorem zd_B_init_47 : decode zb_B_init 47 = .ok (.new 34, 3) ∧ 47 + 3 = 50 := ⟨by decide +kernel, rfl⟩
theorem zd_B_init_50 : decode zb_B_init 50 = .ok (.dup, 1) ∧ 50 + 1 = 51 := ⟨by decide +kernel, rfl⟩
theorem zd_B_init_51 : decode zb_B_init 51 = .ok (.invokespecial 36, 3) ∧ 51 + 3 = 54 := ⟨by decide +kernel, rfl⟩
theorem zd_B_init_54 : decode zb_B_init 54 = .ok (.putfield 37, 3) ∧ 54 + 3 = 57 := ⟨by decide +kernel, rfl⟩
theorem zd_B_init_57 : decode zb_B_init 57 = .ok (.aload_n 0, 1) ∧ 57 + 1 = 58 := ⟨by decide +kernel, rfl⟩
theorem zd_B_init_58 : decode zb_B_init 58 = .ok (.sipush 144, 3) ∧ 58 + 3 = 61 := ⟨by decide +kernel, rfl⟩
theorem zd_B_init_61 : decode zb_B_init 61 = .ok (.newarray .int, 2) ∧ 61 + 2 = 63 := ⟨by decide +kernel, rfl⟩
theorem zd_B_init_63 : decode zb_B_init 63 = .ok (.putfield 41, 3) ∧ 63 + 3 = 66 := ⟨by decide +kernel, rfl⟩
theorem zd_B_init_66 : decode zb_B_init 66 = .ok (.aload_n 0, 1) ∧ 66 + 1 = 67 := ⟨by decide +kernel, rfl⟩
theorem zd_B_init_67 : decode zb_B_init 67 = .ok (.new 44, 3) ∧ 67 + 3 = 70 := ⟨by decide +kernel, rfl⟩
theorem zd_B_init_70 : decode zb_B_init 70 = .ok (.dup, 1) ∧ 70 + 1 = 71 := ⟨by decide +kernel, rfl⟩
theorem zd_B_init_71 : decode zb_B_init 71 = .ok (.invokespecial 46, 3) ∧ 71 + 3 = 74 := ⟨by decide +kernel, rfl⟩
theorem zd_B_init_74 : decode zb_B_init 74 = .ok (.putfield 47, 3) ∧ 74 + 3 = 77 := ⟨by decide +kernel, rfl⟩
theorem zd_B_init_77 : decode zb_B_init 77 = .ok (.aload_n 0, 1) ∧ 77 + 1 = 78 := ⟨by decide +kernel, rfl⟩
theorem zd_B_init_78 : decode zb_B_init 78 = .ok (.bipush 14, 2) ∧ 78 + 2 = 80 := ⟨by decide +kernel, rfl⟩
theorem zd_B_init_80 : decode zb_B_init 80 = .ok (.newarray .int, 2) ∧ 80 + 2 = 82 := ⟨by decide +kernel, rfl⟩
theorem zd_B_init_82 : decode zb_B_init 82 = .ok (.putfield 51, 3) ∧ 82 + 3 = 85 := ⟨by decide +kernel, rfl⟩
theorem zd_B_init_85 : decode zb_B_init 85 = .ok (.return_, 1) ∧ 85 + 1 = 86 := ⟨by decide +kernel, rfl⟩
theorem zd_B_feed_0 : decode zb_B_feed 0 = .ok (.aload_n 0, 1) ∧ 0 + 1 = 1 := ⟨by decide +kernel, rfl⟩
theorem zd_B_feed_1 : decode zb_B_feed 1 = .ok (.getfield 54, 3) ∧ 1 + 3 = 4 := ⟨by decide +kernel, rfl⟩
theorem zd_B_feed_4 : decode zb_B_feed 4 = .ok (.bipush 20, 2) ∧ 4 + 2 = 6 := ⟨by decide +kernel, rfl⟩
theorem zd_B_feed_6 : decode zb_B_feed 6 = .ok (.iadd, 1) ∧ 6 + 1 = 7 := ⟨by decide +kernel, rfl⟩
theorem zd_B_feed_7 : decode zb_B_feed 7 = .ok (.sipush 1600, 3) ∧ 7 + 3 = 10 := ⟨by decide +kernel, rfl⟩
theorem zd_B_feed_10 : decode zb_B_feed 10 = .ok (.if_icmp .le 5, 3) ∧ ((10 : Nat) : Int) + (5) = ((15 : Nat) : Int) ∧ 10 + 3 = 13 := ⟨by decide +kernel, by decide, rfl⟩
theorem zd_B_feed_13 : decode zb_B_feed 13 = .ok (.iconst (-1), 1) ∧ 13 + 1 = 14 := ⟨by decide +kernel, rfl⟩
theorem zd_B_feed_14 : decode zb_B_feed 14 = .ok (.ireturn, 1) ∧ 14 + 1 = 15 := ⟨by decide +kernel, rfl⟩
theorem zd_B_feed_15 : decode zb_B_feed 15 = .ok (.aload_n 0, 1) ∧ 15 + 1 = 16 := ⟨by decide +kernel, rfl⟩
theorem zd_B_feed_16 : decode zb_B_feed 16 = .ok (.iload_n 1, 1) ∧ 16 + 1 = 17 := ⟨by decide +kernel, rfl⟩
theorem zd_B_feed_17 : decode zb_B_feed 17 = .ok (.invokevirtual 58, 3) ∧ 17 + 3 = 20 := ⟨by decide +kernel, rfl⟩
theorem zd_B_feed_20 : decode zb_B_feed 20 = .ok (.aload_n 0, 1) ∧ 20 + 1 = 21 := ⟨by decide +kernel, rfl⟩
theorem zd_B_feed_21 : decode zb_B_feed 21 = .ok (.iload_n 2, 1) ∧ 21 + 1 = 22 := ⟨by decide +kernel, rfl⟩
theorem zd_B_feed_22 : decode zb_B_feed 22 = .ok (.invokevirtual 58, 3) ∧ 22 + 3 = 25 := ⟨by decide +kernel, rfl⟩
theorem zd_B_feed_25 : decode zb_B_feed 25 = .ok (.aload_n 0, 1) ∧ 25 + 1 = 26 := ⟨by decide +kernel, rfl⟩
theorem zd_B_feed_26 : decode zb_B_feed 26 = .ok (.iload_n 3, 1) ∧ 26 + 1 = 27 := ⟨by decide +kernel, rfl⟩
theorem zd_B_feed_27 : decode zb_B_feed 27 = .ok (.invokevirtual 58, 3) ∧ 27 + 3 = 30 := ⟨by decide +kernel, rfl⟩
theorem zd_B_feed_30 : decode zb_B_feed 30 = .ok (.aload_n 0, 1) ∧ 30 + 1 = 31 := ⟨by decide +kernel, rfl⟩
theorem zd_B_feed_31 : decode zb_B_feed 31 = .ok (.iload 4, 2) ∧ 31 + 2 = 33 := ⟨by decide +kernel, rfl⟩
theorem zd_B_feed_33 : decode zb_B_feed 33 = .ok (.invokevirtual 58, 3) ∧ 33 + 3 = 36 := ⟨by decide +kernel, rfl⟩
theorem zd_B_feed_36 : decode zb_B_feed 36 = .ok (.aload_n 0, 1) ∧ 36 + 1 = 37 := ⟨by decide +kernel, rfl⟩
theorem zd_B_feed_37 : decode zb_B_feed 37 = .ok (.iload 5, 2) ∧ 37 + 2 = 39 := ⟨by decide +kernel, rfl⟩
theorem zd_B_feed_39 : decode zb_B_feed 39 = .ok (.invokevirtual 58, 3) ∧ 39 + 3 = 42 := ⟨by decide +kernel, rfl⟩
theorem zd_B_feed_42 : decode zb_B_feed 42 = .ok (.aload_n 0, 1) ∧ 42 + 1 = 43 := ⟨by decide +kernel, rfl⟩
theorem zd_B_feed_43 : decode zb_B_feed 43 = .ok (.getfield 54, 3) ∧ 43 + 3 = 46 := ⟨by decide +kernel, rfl⟩
theorem zd_B_feed_46 : decode zb_B_feed 46 = .ok (.ireturn, 1) ∧ 46 + 1 = 47 := ⟨by decide +kernel, rfl⟩
theorem zd_B_putOnTape_0 : decode zb_B_putOnTape 0 = .ok (.bipush 24, 2) ∧ 0 + 2 = 2 := ⟨by decide +kernel, rfl⟩
theorem zd_B_putOnTape_2 : decode zb_B_putOnTape 2 = .ok (.istore_n 2, 1) ∧ 2 + 1 = 3 := ⟨by decide +kernel, rfl⟩
theorem zd_B_putOnTape_3 : decode zb_B_putOnTape 3 = .ok (.iload_n 2, 1) ∧ 3 + 1 = 4 := ⟨by decide +kernel, rfl⟩
theorem zd_B_putOnTape_4 : decode zb_B_putOnTape 4 = .ok (.ifCond .lt 45, 3) ∧ ((4 : Nat) : Int) + (45) = ((49 : Nat) : Int) ∧ 4 + 3 = 7 := ⟨by decide +kernel, by decide, rfl⟩
theorem zd_B_putOnTape_7 : decode zb_B_putOnTape 7 = .ok (.aload_n 0, 1) ∧ 7 + 1 = 8 := ⟨by decide +kernel, rfl⟩
theorem zd_B_putOnTape_8 : decode zb_B_putOnTape 8 = .ok (.getfield 54, 3) ∧ 8 + 3 = 11 := ⟨by decide +kernel, rfl⟩
theorem zd_B_putOnTape_11 : decode zb_B_putOnTape 11 = .ok (.sipush 1600, 3) ∧ 11 + 3 = 14 := ⟨by decide +kernel, rfl⟩
theorem zd_B_putOnTape_14 : decode zb_B_putOnTape 14 = .ok (.if_icmp .ge 35, 3) ∧ ((14 : Nat) : Int) + (35) = ((49 : Nat) : Int) ∧ 14 + 3 = 17 := ⟨by decide +kernel, by decide, rfl⟩
theorem zd_B_putOnTape_17 : decode zb_B_putOnTape 17 = .ok (.aload_n 0, 1) ∧ 17 + 1 = 18 := ⟨by decide +kernel, rfl⟩
theorem zd_B_putOnTape_18 : decode zb_B_putOnTape 18 = .ok (.getfield 9, 3) ∧ 18 + 3 = 21 := ⟨by decide +kernel, rfl⟩
theorem zd_B_putOnTape_21 : decode zb_B_putOnTape 21 = .ok (.aload_n 0, 1) ∧ 21 + 1 = 22 := ⟨by decide +kernel, rfl⟩
theorem zd_B_putOnTape_22 : decode zb_B_putOnTape 22 = .ok (.getfield 54, 3) ∧ 22 + 3 = 25 := ⟨by decide +kernel, rfl⟩
theorem zd_B_putOnTape_25 : decode zb_B_putOnTape 25 = .ok (.iload_n 1, 1) ∧ 25 + 1 = 26 := ⟨by decide +kernel, rfl⟩
theorem zd_B_putOnTape_26 : decode zb_B_putOnTape 26 = .ok (.iload_n 2, 1) ∧ 26 + 1 = 27 := ⟨by decide +kernel, rfl⟩
theorem zd_B_putOnTape_27 : decode zb_B_putOnTape 27 = .ok (.ishr, 1) ∧ 27 + 1 = 28 := ⟨by decide +kernel, rfl⟩
theorem zd_B_putOnTape_28 : decode zb_B_putOnTape 28 = .ok (.sipush 255, 3) ∧ 28 + 3 = 31 := ⟨by decide +kernel, rfl⟩
theorem zd_B_putOnTape_31 : decode zb_B_putOnTape 31 = .ok (.iand, 1) ∧ 31 + 1 = 32 := ⟨by decide +kernel, rfl⟩
theorem zd_B_putOnTape_32 : decode zb_B_putOnTape 32 = .ok (.iastore, 1) ∧ 32 + 1 = 33 := ⟨by decide +kernel, rfl⟩
theorem zd_B_putOnTape_33 : decode zb_B_putOnTape 33 = .ok (.aload_n 0, 1) ∧ 33 + 1 = 34 := ⟨by decide +kernel, rfl⟩
theorem zd_B_putOnTape_34 : decode zb_B_putOnTape 34 = .ok (.dup, 1) ∧ 34 + 1 = 35 := ⟨by decide +kernel, rfl⟩
theorem zd_B_putOnTape_35 : decode zb_B_putOnTape 35 = .ok (.getfield 54, 3) ∧ 35 + 3 = 38 := ⟨by decide +kernel, rfl⟩
theorem zd_B_putOnTape_38 : decode zb_B_putOnTape 38 = .ok (.iconst 1, 1) ∧ 38 + 1 = 39 := ⟨by decide +kernel, rfl⟩
theorem zd_B_putOnTape_39 : decode zb_B_putOnTape 39 = .ok (.iadd, 1) ∧ 39 + 1 = 40 := ⟨by decide +kernel, rfl⟩
theorem zd_B_putOnTape_40 : decode zb_B_putOnTape 40 = .ok (.putfield 54, 3) ∧ 40 + 3 = 43 := ⟨by decide +kernel, rfl⟩
theorem zd_B_putOnTape_43 : decode zb_B_putOnTape 43 = .ok (.iinc 2 (-8), 3) ∧ 43 + 3 = 46 := ⟨by decide +kernel, rfl⟩
theorem zd_B_putOnTape_46 : decode zb_B_putOnTape 46 = .ok (.goto (-43), 3) ∧ ((46 : Nat) : Int) + (-43) = ((3 : Nat) : Int) ∧ 46 + 3 = 49 := ⟨by decide +kernel, by decide, rfl⟩
theorem zd_B_putOnTape_49 : decode zb_B_putOnTape 49 = .ok (.return_, 1) ∧ 49 + 1 = 50 := ⟨by decide +kernel, rfl⟩
theorem zd_B_end_0 : decode zb_B_end 0 = .ok (.iload_n 1, 1) ∧ 0 + 1 = 1 := ⟨by decide +kernel, rfl⟩
theorem zd_B_end_1 : decode zb_B_end 1 = .ok (.ifCond .lt 11, 3) ∧ ((1 : Nat) : Int) + (11) = ((12 : Nat) : Int) ∧ 1 + 3 = 4 := ⟨by decide +kernel, by decide, rfl⟩
theorem zd_B_end_4 : decode zb_B_end 4 = .ok (.iload_n 1, 1) ∧ 4 + 1 = 5 := ⟨by decide +kernel, rfl⟩
theorem zd_B_end_5 : decode zb_B_end 5 = .ok (.aload_n 0, 1) ∧ 5 + 1 = 6 := ⟨by decide +kernel, rfl⟩
theorem zd_B_end_6 : decode zb_B_end 6 = .ok (.getfield 54, 3) ∧ 6 + 3 = 9 := ⟨by decide +kernel, rfl⟩
theorem zd_B_end_9 : decode zb_B_end 9 = .ok (.if_icmp .le 5, 3) ∧ ((9 : Nat) : Int) + (5) = ((14 : Nat) : Int) ∧ 9 + 3 = 12 := ⟨by decide +kernel, by decide, rfl⟩
theorem zd_B_end_12 : decode zb_B_end 12 = .ok (.iconst 0, 1) ∧ 12 + 1 = 13 := ⟨by decide +kernel, rfl⟩
theorem zd_B_end_13 : decode zb_B_end 13 = .ok (.ireturn, 1) ∧ 13 + 1 = 14 := ⟨by decide +kernel, rfl⟩
theorem zd_B_end_14 : decode zb_B_end 14 = .ok (.aload_n 0, 1) ∧ 14 + 1 = 15 := ⟨by decide +kernel, rfl⟩
theorem zd_B_end_15 : decode zb_B_end 15 = .ok (.iload_n 1, 1) ∧ 15 + 1 = 16 := ⟨by decide +kernel, rfl⟩
theorem zd_B_end_16 : decode zb_B_end 16 = .ok (.putfield 54, 3) ∧ 16 + 3 = 19 := ⟨by decide +kernel, rfl⟩
theorem zd_B_end_19 : decode zb_B_end 19 = .ok (.iconst 1, 1) ∧ 19 + 1 = 20 := ⟨by decide +kernel, rfl⟩
theorem zd_B_end_20 : decode zb_B_end 20 = .ok (.ireturn, 1) ∧ 20 + 1 = 21 := ⟨by decide +kernel, rfl⟩
theorem zd_B_board_0 : decode zb_B_board 0 = .ok (.aload_n 0, 1) ∧ 0 + 1 = 1 := ⟨by decide +kernel, rfl⟩
theorem zd_B_board_1 : decode zb_B_board 1 = .ok (.getfield 54, 3) ∧ 1 + 3 = 4 := ⟨by decide +kernel, rfl⟩
theorem zd_B_board_4 : decode zb_B_board 4 = .ok (.istore_n 1, 1) ∧ 4 + 1 = 5 := ⟨by decide +kernel, rfl⟩
theorem zd_B_board_5 : decode zb_B_board 5 = .ok (.aload_n 0, 1) ∧ 5 + 1 = 6 := ⟨by decide +kernel, rfl⟩
theorem zd_B_board_6 : decode zb_B_board 6 = .ok (.iconst 0, 1) ∧ 6 + 1 = 7 := ⟨by decide +kernel, rfl⟩
theorem zd_B_board_7 : decode zb_B_board 7 = .ok (.putfield 54, 3) ∧ 7 + 3 = 10 := ⟨by decide +kernel, rfl⟩
theorem zd_B_board_10 : decode zb_B_board 10 = .ok (.aload_n 0, 1) ∧ 10 + 1 = 11 := ⟨by decide +kernel, rfl⟩
theorem zd_B_board_11 : decode zb_B_board 11 = .ok (.getfield 16, 3) ∧ 11 + 3 = 14 := ⟨by decide +kernel, rfl⟩
theorem zd_B_board_14 : decode zb_B_board 14 = .ok (.aload_n 0, 1) ∧ 14 + 1 = 15 := ⟨by decide +kernel, rfl⟩
theorem zd_B_board_15 : decode zb_B_board 15 = .ok (.getfield 9, 3) ∧ 15 + 3 = 18 := ⟨by decide +kernel, rfl⟩
theorem zd_B_board_18 : decode zb_B_board 18 = .ok (.iload_n 1, 1) ∧ 18 + 1 = 19 := ⟨by decide +kernel, rfl⟩
theorem zd_B_board_19 : decode zb_B_board 19 = .ok (.invokevirtual 62, 3) ∧ 19 + 3 = 22 := ⟨by decide +kernel, rfl⟩
theorem zd_B_board_22 : decode zb_B_board 22 = .ok (.istore_n 2, 1) ∧ 22 + 1 = 23 := ⟨by decide +kernel, rfl⟩
theorem zd_B_board_23 : decode zb_B_board 23 = .ok (.iload_n 2, 1) ∧ 23 + 1 = 24 := ⟨by decide +kernel, rfl⟩
theorem zd_B_board_24 : decode zb_B_board 24 = .ok (.iconst (-1), 1) ∧ 24 + 1 = 25 := ⟨by decide +kernel, rfl⟩
theorem zd_B_board_25 : decode zb_B_board 25 = .ok (.if_icmp .ne 5, 3) ∧ ((25 : Nat) : Int) + (5) = ((30 : Nat) : Int) ∧ 25 + 3 = 28 := ⟨by decide +kernel, by decide, rfl⟩
theorem zd_B_board_28 : decode zb_B_board 28 = .ok (.iconst (-1), 1) ∧ 28 + 1 = 29 := ⟨by decide +kernel, rfl⟩
theorem zd_B_board_29 : decode zb_B_board 29 = .ok (.ireturn, 1) ∧ 29 + 1 = 30 := ⟨by decide +kernel, rfl⟩
theorem zd_B_board_30 : decode zb_B_board 30 = .ok (.aload_n 0, 1) ∧ 30 + 1 = 31 := ⟨by decide +kernel, rfl⟩
theorem zd_B_board_31 : decode zb_B_board 31 = .ok (.aload_n 0, 1) ∧ 31 + 1 = 32 := ⟨by decide +kernel, rfl⟩
theorem zd_B_board_32 : decode zb_B_board 32 = .ok (.getfield 16, 3) ∧ 32 + 3 = 35 := ⟨by decide +kernel, rfl⟩
theorem zd_B_board_35 : decode zb_B_board 35 = .ok (.aload_n 0, 1) ∧ 35 + 1 = 36 := ⟨by decide +kernel, rfl⟩
theorem zd_B_board_36 : decode zb_B_board 36 = .ok (.getfield 23, 3) ∧ 36 + 3 = 39 := ⟨by decide +kernel, rfl⟩
theorem zd_B_board_39 : decode zb_B_board 39 = .ok (.invokevirtual 66, 3) ∧ 39 + 3 = 42 := ⟨by decide +kernel, rfl⟩
theorem zd_B_board_42 : decode zb_B_board 42 = .ok (.putfield 23, 3) ∧ 42 + 3 = 45 := ⟨by decide +kernel, rfl⟩
theorem zd_B_board_45 : decode zb_B_board 45 = .ok (.aload_n 0, 1) ∧ 45 + 1 = 46 := ⟨by decide +kernel, rfl⟩
theorem zd_B_board_46 : decode zb_B_board 46 = .ok (.iconst 0, 1) ∧ 46 + 1 = 47 := ⟨by decide +kernel, rfl⟩
theorem zd_B_board_47 : decode zb_B_board 47 = .ok (.putfield 70, 3) ∧ 47 + 3 = 50 := ⟨by decide +kernel, rfl⟩
theorem zd_B_board_50 : decode zb_B_board 50 = .ok (.aload_n 0, 1) ∧ 50 + 1 = 51 := ⟨by decide +kernel, rfl⟩
theorem zd_B_board_51 : decode zb_B_board 51 = .ok (.iconst 0, 1) ∧ 51 + 1 = 52 := ⟨by decide +kernel, rfl⟩
theorem zd_B_board_52 : decode zb_B_board 52 = .ok (.putfield 73, 3) ∧ 52 + 3 = 55 := ⟨by decide +kernel, rfl⟩
theorem zd_B_board_55 : decode zb_B_board 55 = .ok (.aload_n 0, 1) ∧ 55 + 1 = 56 := ⟨by decide +kernel, rfl⟩
theorem zd_B_board_56 : decode zb_B_board 56 = .ok (.iconst 0, 1) ∧ 56 + 1 = 57 := ⟨by decide +kernel, rfl⟩
theorem zd_B_board_57 : decode zb_B_board 57 = .ok (.putfield 76, 3) ∧ 57 + 3 = 60 := ⟨by decide +kernel, rfl⟩
theorem zd_B_board_60 : decode zb_B_board 60 = .ok (.aload_n 0, 1) ∧ 60 + 1 = 61 := ⟨by decide +kernel, rfl⟩
theorem zd_B_board_61 : decode zb_B_board 61 = .ok (.iconst 0, 1) ∧ 61 + 1 = 62 := ⟨by decide +kernel, rfl⟩
theorem zd_B_board_62 : decode zb_B_board 62 = .ok (.putfield 79, 3) ∧ 62 + 3 = 65 := ⟨by decide +kernel, rfl⟩
theorem zd_B_board_65 : decode zb_B_board 65 = .ok (.aload_n 0, 1) ∧ 65 + 1 = 66 := ⟨by decide +kernel, rfl⟩
theorem zd_B_board_66 : decode zb_B_board 66 = .ok (.getfield 47, 3) ∧ 66 + 3 = 69 := ⟨by decide +kernel, rfl⟩
theorem zd_B_board_69 : decode zb_B_board 69 = .ok (.iconst 0, 1) ∧ 69 + 1 = 70 := ⟨by decide +kernel, rfl⟩
theorem zd_B_board_70 : decode zb_B_board 70 = .ok (.putfield 82, 3) ∧ 70 + 3 = 73 := ⟨by decide +kernel, rfl⟩
theorem zd_B_board_73 : decode zb_B_board 73 = .ok (.iload_n 2, 1) ∧ 73 + 1 = 74 := ⟨by decide +kernel, rfl⟩
theorem zd_B_board_74 : decode zb_B_board 74 = .ok (.ireturn, 1) ∧ 74 + 1 = 75 := ⟨by decide +kernel, rfl⟩
theorem zd_B_has_0 : decode zb_B_has 0 = .ok (.iload_n 1, 1) ∧ 0 + 1 = 1 := ⟨by decide +kernel, rfl⟩
theorem zd_B_has_1 : decode zb_B_has 1 = .ok (.tableswitch 107 0 6 #[43, 51, 59, 69, 79, 89, 99], 43) ∧ 1 + 43 = 44 := ⟨by decide +kernel, rfl⟩
theorem zd_B_has_44 : decode zb_B_has 44 = .ok (.aload_n 0, 1) ∧ 44 + 1 = 45 := ⟨by decide +kernel, rfl⟩
theorem zd_B_has_45 : decode zb_B_has 45 = .ok (.getfield 23, 3) ∧ 45 + 3 = 48 := ⟨by decide +kernel, rfl⟩
theorem zd_B_has_48 : decode zb_B_has 48 = .ok (.getfield 91, 3) ∧ 48 + 3 = 51 := ⟨by decide +kernel, rfl⟩
theorem zd_B_has_51 : decode zb_B_has 51 = .ok (.ireturn, 1) ∧ 51 + 1 = 52 := ⟨by decide +kernel, rfl⟩
theorem zd_B_has_52 : decode zb_B_has 52 = .ok (.aload_n 0, 1) ∧ 52 + 1 = 53 := ⟨by decide +kernel, rfl⟩
theorem zd_B_has_53 : decode zb_B_has 53 = .ok (.getfield 23, 3) ∧ 53 + 3 = 56 := ⟨by decide +kernel, rfl⟩
theorem zd_B_has_56 : decode zb_B_has 56 = .ok (.getfield 94, 3) ∧ 56 + 3 = 59 := ⟨by decide +kernel, rfl⟩
theorem zd_B_has_59 : decode zb_B_has 59 = .ok (.ireturn, 1) ∧ 59 + 1 = 60 := ⟨by decide +kernel, rfl⟩
theorem zd_B_has_60 : decode zb_B_has 60 = .ok (.aload_n 0, 1) ∧ 60 + 1 = 61 := ⟨by decide +kernel, rfl⟩
theorem zd_B_has_61 : decode zb_B_has 61 = .ok (.getfield 23, 3) ∧ 61 + 3 = 64 := ⟨by decide +kernel, rfl⟩
theorem zd_B_has_64 : decode zb_B_has 64 = .ok (.getfield 97, 3) ∧ 64 + 3 = 67 := ⟨by decide +kernel, rfl⟩
theorem zd_B_has_67 : decode zb_B_has 67 = .ok (.iconst 0, 1) ∧ 67 + 1 = 68 := ⟨by decide +kernel, rfl⟩
theorem zd_B_has_68 : decode zb_B_has 68 = .ok (.iaload, 1) ∧ 68 + 1 = 69 := ⟨by decide +kernel, rfl⟩
theorem zd_B_has_69 : decode zb_B_has 69 = .ok (.ireturn, 1) ∧ 69 + 1 = 70 := ⟨by decide +kernel, rfl⟩
theorem zd_B_has_70 : decode zb_B_has 70 = .ok (.aload_n 0, 1) ∧ 70 + 1 = 71 := ⟨by decide +kernel, rfl⟩
theorem zd_B_has_71 : decode zb_B_has 71 = .ok (.getfield 23, 3) ∧ 71 + 3 = 74 := ⟨by decide +kernel, rfl⟩
theorem zd_B_has_74 : decode zb_B_has 74 = .ok (.getfield 97, 3) ∧ 74 + 3 = 77 := ⟨by decide +kernel, rfl⟩
theorem zd_B_has_77 : decode zb_B_has 77 = .ok (.iconst 1, 1) ∧ 77 + 1 = 78 := ⟨by decide +kernel, rfl⟩
theorem zd_B_has_78 : decode zb_B_has 78 = .ok (.iaload, 1) ∧ 78 + 1 = 79 := ⟨by decide +kernel, rfl⟩
theorem zd_B_has_79 : decode zb_B_has 79 = .ok (.ireturn, 1) ∧ 79 + 1 = 80 := ⟨by decide +kernel, rfl⟩
theorem zd_B_has_80 : decode zb_B_has 80 = .ok (.aload_n 0, 1) ∧ 80 + 1 = 81 := ⟨by decide +kernel, rfl⟩
theorem zd_B_has_81 : decode zb_B_has 81 = .ok (.getfield 23, 3) ∧ 81 + 3 = 84 := ⟨by decide +kernel, rfl⟩
theorem zd_B_has_84 : decode zb_B_has 84 = .ok (.getfield 97, 3) ∧ 84 + 3 = 87 := ⟨by decide +kernel, rfl⟩
theorem zd_B_has_87 : decode zb_B_has 87 = .ok (.iconst 2, 1) ∧ 87 + 1 = 88 := ⟨by decide +kernel, rfl⟩
theorem zd_B_has_88 : decode zb_B_has 88 = .ok (.iaload, 1) ∧ 88 + 1 = 89 := ⟨by decide +kernel, rfl⟩
theorem zd_B_has_89 : decode zb_B_has 89 = .ok (.ireturn, 1) ∧ 89 + 1 = 90 := ⟨by decide +kernel, rfl⟩
theorem zd_B_has_90 : decode zb_B_has 90 = .ok (.aload_n 0, 1) ∧ 90 + 1 = 91 := ⟨by decide +kernel, rfl⟩
theorem zd_B_has_91 : decode zb_B_has 91 = .ok (.getfield 23, 3) ∧ 91 + 3 = 94 := ⟨by decide +kernel, rfl⟩
theorem zd_B_has_94 : decode zb_B_has 94 = .ok (.getfield 97, 3) ∧ 94 + 3 = 97 := ⟨by decide +kernel, rfl⟩
theorem zd_B_has_97 : decode zb_B_has 97 = .ok (.iconst 3, 1) ∧ 97 + 1 = 98 := ⟨by decide +kernel, rfl⟩
theorem zd_B_has_98 : decode zb_B_has 98 = .ok (.iaload, 1) ∧ 98 + 1 = 99 := ⟨by decide +kernel, rfl⟩
theorem zd_B_has_99 : decode zb_B_has 99 = .ok (.ireturn, 1) ∧ 99 + 1 = 100 := ⟨by decide +kernel, rfl⟩
theorem zd_B_has_100 : decode zb_B_has 100 = .ok (.aload_n 0, 1) ∧ 100 + 1 = 101 := ⟨by decide +kernel, rfl⟩
theorem zd_B_has_101 : decode zb_B_has 101 = .ok (.getfield 23, 3) ∧ 101 + 3 = 104 := ⟨by decide +kernel, rfl⟩
theorem zd_B_has_104 : decode zb_B_has 104 = .ok (.getfield 99, 3) ∧ 104 + 3 = 107 := ⟨by decide +kernel, rfl⟩
theorem zd_B_has_107 : decode zb_B_has 107 = .ok (.ireturn, 1) ∧ 107 + 1 = 108 := ⟨by decide +kernel, rfl⟩
theorem zd_B_has_108 : decode zb_B_has 108 = .ok (.iconst (-1), 1) ∧ 108 + 1 = 109 := ⟨by decide +kernel, rfl⟩
theorem zd_B_has_109 : decode zb_B_has 109 = .ok (.ireturn, 1) ∧ 109 + 1 = 110 := ⟨by decide +kernel, rfl⟩
theorem zd_B_square_0 : decode zb_B_square 0 = .ok (.aload_n 0, 1) ∧ 0 + 1 = 1 := ⟨by decide +kernel, rfl⟩
theorem zd_B_square_1 : decode zb_B_square 1 = .ok (.getfield 23, 3) ∧ 1 + 3 = 4 := ⟨by decide +kernel, rfl⟩
theorem zd_B_square_4 : decode zb_B_square 4 = .ok (.iload_n 1, 1) ∧ 4 + 1 = 5 := ⟨by decide +kernel, rfl⟩
theorem zd_B_square_5 : decode zb_B_square 5 = .ok (.iload_n 2, 1) ∧ 5 + 1 = 6 := ⟨by decide +kernel, rfl⟩
theorem zd_B_square_6 : decode zb_B_square 6 = .ok (.invokevirtual 110, 3) ∧ 6 + 3 = 9 := ⟨by decide +kernel, rfl⟩
theorem zd_B_square_9 : decode zb_B_square 9 = .ok (.istore 4, 2) ∧ 9 + 2 = 11 := ⟨by decide +kernel, rfl⟩
theorem zd_B_square_11 : decode zb_B_square 11 = .ok (.iload 4, 2) ∧ 11 + 2 = 13 := ⟨by decide +kernel, rfl⟩
theorem zd_B_square_13 : decode zb_B_square 13 = .ok (.iconst (-1), 1) ∧ 13 + 1 = 14 := ⟨by decide +kernel, rfl⟩
theorem zd_B_square_14 : decode zb_B_square 14 = .ok (.if_icmp .ne 5, 3) ∧ ((14 : Nat) : Int) + (5) = ((19 : Nat) : Int) ∧ 14 + 3 = 17 := ⟨by decide +kernel, by decide, rfl⟩
theorem zd_B_square_17 : decode zb_B_square 17 = .ok (.iconst (-1), 1) ∧ 17 + 1 = 18 := ⟨by decide +kernel, rfl⟩
theorem zd_B_square_18 : decode zb_B_square 18 = .ok (.ireturn, 1) ∧ 18 + 1 = 19 := ⟨by decide +kernel, rfl⟩
theorem zd_B_square_19 : decode zb_B_square 19 = .ok (.aload_n 0, 1) ∧ 19 + 1 = 20 := ⟨by decide +kernel, rfl⟩
theorem zd_B_square_20 : decode zb_B_square 20 = .ok (.getfield 23, 3) ∧ 20 + 3 = 23 := ⟨by decide +kernel, rfl⟩
theorem zd_B_square_23 : decode zb_B_square 23 = .ok (.getfield 113, 3) ∧ 23 + 3 = 26 := ⟨by decide +kernel, rfl⟩
theorem zd_B_square_26 : decode zb_B_square 26 = .ok (.iload 4, 2) ∧ 26 + 2 = 28 := ⟨by decide +kernel, rfl⟩
theorem zd_B_square_28 : decode zb_B_square 28 = .ok (.iaload, 1) ∧ 28 + 1 = 29 := ⟨by decide +kernel, rfl⟩
theorem zd_B_square_29 : decode zb_B_square 29 = .ok (.istore 5, 2) ∧ 29 + 2 = 31 := ⟨by decide +kernel, rfl⟩
theorem zd_B_square_31 : decode zb_B_square 31 = .ok (.iload_n 3, 1) ∧ 31 + 1 = 32 := ⟨by decide +kernel, rfl⟩
theorem zd_B_square_32 : decode zb_B_square 32 = .ok (.ifCond .ne 24, 3) ∧ ((32 : Nat) : Int) + (24) = ((56 : Nat) : Int) ∧ 32 + 3 = 35 := ⟨by decide +kernel, by decide, rfl⟩
theorem zd_B_square_35 : decode zb_B_square 35 = .ok (.iload 5, 2) ∧ 35 + 2 = 37 := ⟨by decide +kernel, rfl⟩
theorem zd_B_square_37 : decode zb_B_square 37 = .ok (.iconst (-1), 1) ∧ 37 + 1 = 38 := ⟨by decide +kernel, rfl⟩
theorem zd_B_square_38 : decode zb_B_square 38 = .ok (.if_icmp .ne 7, 3) ∧ ((38 : Nat) : Int) + (7) = ((45 : Nat) : Int) ∧ 38 + 3 = 41 := ⟨by decide +kernel, by decide, rfl⟩
theorem zd_B_square_41 : decode zb_B_square 41 = .ok (.iconst 0, 1) ∧ 41 + 1 = 42 := ⟨by decide +kernel, rfl⟩
theorem zd_B_square_42 : decode zb_B_square 42 = .ok (.goto 13, 3) ∧ ((42 : Nat) : Int) + (13) = ((55 : Nat) : Int) ∧ 42 + 3 = 45 := ⟨by decide +kernel, by decide, rfl⟩
theorem zd_B_square_45 : decode zb_B_square 45 = .ok (.aload_n 0, 1) ∧ 45 + 1 = 46 := ⟨by decide +kernel, rfl⟩
theorem zd_B_square_46 : decode zb_B_square 46 = .ok (.getfield 23, 3) ∧ 46 + 3 = 49 := ⟨by decide +kernel, rfl⟩
theorem zd_B_square_49 : decode zb_B_square 49 = .ok (.getfield 116, 3) ∧ 49 + 3 = 52 := ⟨by decide +kernel, rfl⟩
theorem zd_B_square_52 : decode zb_B_square 52 = .ok (.iload 5, 2) ∧ 52 + 2 = 54 := ⟨by decide +kernel, rfl⟩
theorem zd_B_square_54 : decode zb_B_square 54 = .ok (.iaload, 1) ∧ 54 + 1 = 55 := ⟨by decide +kernel, rfl⟩
theorem zd_B_square_55 : decode zb_B_square 55 = .ok (.ireturn, 1) ∧ 55 + 1 = 56 := ⟨by decide +kernel, rfl⟩
theorem zd_B_square_56 : decode zb_B_square 56 = .ok (.iload 5, 2) ∧ 56 + 2 = 58 := ⟨by decide +kernel, rfl⟩
theorem zd_B_square_58 : decode zb_B_square 58 = .ok (.iconst (-1), 1) ∧ 58 + 1 = 59 := ⟨by decide +kernel, rfl⟩
theorem zd_B_square_59 : decode zb_B_square 59 = .ok (.if_icmp .ne 5, 3) ∧ ((59 : Nat) : Int) + (5) = ((64 : Nat) : Int) ∧ 59 + 3 = 62 := ⟨by decide +kernel, by decide, rfl⟩
theorem zd_B_square_62 : decode zb_B_square 62 = .ok (.iconst (-1), 1) ∧ 62 + 1 = 63 := ⟨by decide +kernel, rfl⟩
theorem zd_B_square_63 : decode zb_B_square 63 = .ok (.ireturn, 1) ∧ 63 + 1 = 64 := ⟨by decide +kernel, rfl⟩
theorem zd_B_square_64 : decode zb_B_square 64 = .ok (.iload_n 3, 1) ∧ 64 + 1 = 65 := ⟨by decide +kernel, rfl⟩
theorem zd_B_square_65 : decode zb_B_square 65 = .ok (.iconst 1, 1) ∧ 65 + 1 = 66 := ⟨by decide +kernel, rfl⟩
theorem zd_B_square_66 : decode zb_B_square 66 = .ok (.if_icmp .ne 14, 3) ∧ ((66 : Nat) : Int) + (14) = ((80 : Nat) : Int) ∧ 66 + 3 = 69 := ⟨by decide +kernel, by decide, rfl⟩
theorem zd_B_square_69 : decode zb_B_square 69 = .ok (.aload_n 0, 1) ∧ 69 + 1 = 70 := ⟨by decide +kernel, rfl⟩
theorem zd_B_square_70 : decode zb_B_square 70 = .ok (.getfield 23, 3) ∧ 70 + 3 = 73 := ⟨by decide +kernel, rfl⟩
theorem zd_B_square_73 : decode zb_B_square 73 = .ok (.getfield 119, 3) ∧ 73 + 3 = 76 := ⟨by decide +kernel, rfl⟩
theorem zd_B_square_76 : decode zb_B_square 76 = .ok (.iload 5, 2) ∧ 76 + 2 = 78 := ⟨by decide +kernel, rfl⟩
theorem zd_B_square_78 : decode zb_B_square 78 = .ok (.iaload, 1) ∧ 78 + 1 = 79 := ⟨by decide +kernel, rfl⟩
theorem zd_B_square_79 : decode zb_B_square 79 = .ok (.ireturn, 1) ∧ 79 + 1 = 80 := ⟨by decide +kernel, rfl⟩
theorem zd_B_square_80 : decode zb_B_square 80 = .ok (.iload_n 3, 1) ∧ 80 + 1 = 81 := ⟨by decide +kernel, rfl⟩
theorem zd_B_square_81 : decode zb_B_square 81 = .ok (.iconst 2, 1) ∧ 81 + 1 = 82 := ⟨by decide +kernel, rfl⟩
theorem zd_B_square_82 : decode zb_B_square 82 = .ok (.if_icmp .ne 23, 3) ∧ ((82 : Nat) : Int) + (23) = ((105 : Nat) : Int) ∧ 82 + 3 = 85 := ⟨by decide +kernel, by decide, rfl⟩
theorem zd_B_square_85 : decode zb_B_square 85 = .ok (.aload_n 0, 1) ∧ 85 + 1 = 86 := ⟨by decide +kernel, rfl⟩
theorem zd_B_square_86 : decode zb_B_square 86 = .ok (.getfield 23, 3) ∧ 86 + 3 = 89 := ⟨by decide +kernel, rfl⟩
theorem zd_B_square_89 : decode zb_B_square 89 = .ok (.iload 5, 2) ∧ 89 + 2 = 91 := ⟨by decide +kernel, rfl⟩
theorem zd_B_square_91 : decode zb_B_square 91 = .ok (.aload_n 0, 1) ∧ 91 + 1 = 92 := ⟨by decide +kernel, rfl⟩
theorem zd_B_square_92 : decode zb_B_square 92 = .ok (.getfield 70, 3) ∧ 92 + 3 = 95 := ⟨by decide +kernel, rfl⟩
theorem zd_B_square_95 : decode zb_B_square 95 = .ok (.aload_n 0, 1) ∧ 95 + 1 = 96 := ⟨by decide +kernel, rfl⟩
theorem zd_B_square_96 : decode zb_B_square 96 = .ok (.getfield 73, 3) ∧ 96 + 3 = 99 := ⟨by decide +kernel, rfl⟩
theorem zd_B_square_99 : decode zb_B_square 99 = .ok (.invokevirtual 122, 3) ∧ 99 + 3 = 102 := ⟨by decide +kernel, rfl⟩
theorem zd_B_square_102 : decode zb_B_square 102 = .ok (.goto 4, 3) ∧ ((102 : Nat) : Int) + (4) = ((106 : Nat) : Int) ∧ 102 + 3 = 105 := ⟨by decide +kernel, by decide, rfl⟩
theorem zd_B_square_105 : decode zb_B_square 105 = .ok (.iconst (-1), 1) ∧ 105 + 1 = 106 := ⟨by decide +kernel, rfl⟩
theorem zd_B_square_106 : decode zb_B_square 106 = .ok (.ireturn, 1) ∧ 106 + 1 = 107 := ⟨by decide +kernel, rfl⟩
theorem zd_B_light_0 : decode zb_B_light 0 = .ok (.aload_n 0, 1) ∧ 0 + 1 = 1 := ⟨by decide +kernel, rfl⟩
theorem zd_B_light_1 : decode zb_B_light 1 = .ok (.getfield 23, 3) ∧ 1 + 3 = 4 := ⟨by decide +kernel, rfl⟩
theorem zd_B_light_4 : decode zb_B_light 4 = .ok (.iload_n 1, 1) ∧ 4 + 1 = 5 := ⟨by decide +kernel, rfl⟩
theorem zd_B_light_5 : decode zb_B_light 5 = .ok (.iload_n 2, 1) ∧ 5 + 1 = 6 := ⟨by decide +kernel, rfl⟩
theorem zd_B_light_6 : decode zb_B_light 6 = .ok (.invokevirtual 110, 3) ∧ 6 + 3 = 9 := ⟨by decide +kernel, rfl⟩
theorem zd_B_light_9 : decode zb_B_light 9 = .ok (.istore 4, 2) ∧ 9 + 2 = 11 := ⟨by decide +kernel, rfl⟩
theorem zd_B_light_11 : decode zb_B_light 11 = .ok (.iload 4, 2) ∧ 11 + 2 = 13 := ⟨by decide +kernel, rfl⟩
theorem zd_B_light_13 : decode zb_B_light 13 = .ok (.iconst (-1), 1) ∧ 13 + 1 = 14 := ⟨by decide +kernel, rfl⟩
theorem zd_B_light_14 : decode zb_B_light 14 = .ok (.if_icmp .eq 12, 3) ∧ ((14 : Nat) : Int) + (12) = ((26 : Nat) : Int) ∧ 14 + 3 = 17 := ⟨by decide +kernel, by decide, rfl⟩
theorem zd_B_light_17 : decode zb_B_light 17 = .ok (.iload_n 3, 1) ∧ 17 + 1 = 18 := ⟨by decide +kernel, rfl⟩
theorem zd_B_light_18 : decode zb_B_light 18 = .ok (.ifCond .lt 8, 3) ∧ ((18 : Nat) : Int) + (8) = ((26 : Nat) : Int) ∧ 18 + 3 = 21 := ⟨by decide +kernel, by decide, rfl⟩
theorem zd_B_light_21 : decode zb_B_light 21 = .ok (.iload_n 3, 1) ∧ 21 + 1 = 22 := ⟨by decide +kernel, rfl⟩
theorem zd_B_light_22 : decode zb_B_light 22 = .ok (.iconst 4, 1) ∧ 22 + 1 = 23 := ⟨by decide +kernel, rfl⟩
theorem zd_B_light_23 : decode zb_B_light 23 = .ok (.if_icmp .lt 5, 3) ∧ ((23 : Nat) : Int) + (5) = ((28 : Nat) : Int) ∧ 23 + 3 = 26 := ⟨by decide +kernel, by decide, rfl⟩
theorem zd_B_light_26 : decode zb_B_light 26 = .ok (.iconst (-1), 1) ∧ 26 + 1 = 27 := ⟨by decide +kernel, rfl⟩
theorem zd_B_light_27 : decode zb_B_light 27 = .ok (.ireturn, 1) ∧ 27 + 1 = 28 := ⟨by decide +kernel, rfl⟩
theorem zd_B_light_28 : decode zb_B_light 28 = .ok (.aload_n 0, 1) ∧ 28 + 1 = 29 := ⟨by decide +kernel, rfl⟩
theorem zd_B_light_29 : decode zb_B_light 29 = .ok (.invokevirtual 143, 3) ∧ 29 + 3 = 32 := ⟨by decide +kernel, rfl⟩
theorem zd_B_light_32 : decode zb_B_light 32 = .ok (.getfield 147, 3) ∧ 32 + 3 = 35 := ⟨by decide +kernel, rfl⟩
theorem zd_B_light_35 : decode zb_B_light 35 = .ok (.iload 4, 2) ∧ 35 + 2 = 37 := ⟨by decide +kernel, rfl⟩
theorem zd_B_light_37 : decode zb_B_light 37 = .ok (.iconst 4, 1) ∧ 37 + 1 = 38 := ⟨by decide +kernel, rfl⟩
theorem zd_B_light_38 : decode zb_B_light 38 = .ok (.imul, 1) ∧ 38 + 1 = 39 := ⟨by decide +kernel, rfl⟩
theorem zd_B_light_39 : decode zb_B_light 39 = .ok (.iload_n 3, 1) ∧ 39 + 1 = 40 := ⟨by decide +kernel, rfl⟩
theorem zd_B_light_40 : decode zb_B_light 40 = .ok (.iadd, 1) ∧ 40 + 1 = 41 := ⟨by decide +kernel, rfl⟩
theorem zd_B_light_41 : decode zb_B_light 41 = .ok (.iaload, 1) ∧ 41 + 1 = 42 := ⟨by decide +kernel, rfl⟩
theorem zd_B_light_42 : decode zb_B_light 42 = .ok (.ireturn, 1) ∧ 42 + 1 = 43 := ⟨by decide +kernel, rfl⟩
theorem zd_B_sees_0 : decode zb_B_sees 0 = .ok (.aload_n 0, 1) ∧ 0 + 1 = 1 := ⟨by decide +kernel, rfl⟩
theorem zd_B_sees_1 : decode zb_B_sees 1 = .ok (.iload_n 1, 1) ∧ 1 + 1 = 2 := ⟨by decide +kernel, rfl⟩
theorem zd_B_sees_2 : decode zb_B_sees 2 = .ok (.iconst 3, 1) ∧ 2 + 1 = 3 := ⟨by decide +kernel, rfl⟩
theorem zd_B_sees_3 : decode zb_B_sees 3 = .ok (.invokevirtual 102, 3) ∧ 3 + 3 = 6 := ⟨by decide +kernel, rfl⟩
theorem zd_B_sees_6 : decode zb_B_sees 6 = .ok (.ifCond .eq 15, 3) ∧ ((6 : Nat) : Int) + (15) = ((21 : Nat) : Int) ∧ 6 + 3 = 9 := ⟨by decide +kernel, by decide, rfl⟩
theorem zd_B_sees_9 : decode zb_B_sees 9 = .ok (.aload_n 0, 1) ∧ 9 + 1 = 10 := ⟨by decide +kernel, rfl⟩
theorem zd_B_sees_10 : decode zb_B_sees 10 = .ok (.invokevirtual 143, 3) ∧ 10 + 3 = 13 := ⟨by decide +kernel, rfl⟩
theorem zd_B_sees_13 : decode zb_B_sees 13 = .ok (.getfield 160, 3) ∧ 13 + 3 = 16 := ⟨by decide +kernel, rfl⟩
theorem zd_B_sees_16 : decode zb_B_sees 16 = .ok (.iload_n 1, 1) ∧ 16 + 1 = 17 := ⟨by decide +kernel, rfl⟩
theorem zd_B_sees_17 : decode zb_B_sees 17 = .ok (.iaload, 1) ∧ 17 + 1 = 18 := ⟨by decide +kernel, rfl⟩
theorem zd_B_sees_18 : decode zb_B_sees 18 = .ok (.goto 4, 3) ∧ ((18 : Nat) : Int) + (4) = ((22 : Nat) : Int) ∧ 18 + 3 = 21 := ⟨by decide +kernel, by decide, rfl⟩
theorem zd_B_sees_21 : decode zb_B_sees 21 = .ok (.iconst (-1), 1) ∧ 21 + 1 = 22 := ⟨by decide +kernel, rfl⟩
theorem zd_B_sees_22 : decode zb_B_sees 22 = .ok (.ireturn, 1) ∧ 22 + 1 = 23 := ⟨by decide +kernel, rfl⟩
theorem zd_B_behind_0 : decode zb_B_behind 0 = .ok (.aload_n 0, 1) ∧ 0 + 1 = 1 := ⟨by decide +kernel, rfl⟩
theorem zd_B_behind_1 : decode zb_B_behind 1 = .ok (.iload_n 1, 1) ∧ 1 + 1 = 2 := ⟨by decide +kernel, rfl⟩
theorem zd_B_behind_2 : decode zb_B_behind 2 = .ok (.iconst 3, 1) ∧ 2 + 1 = 3 := ⟨by decide +kernel, rfl⟩
theorem zd_B_behind_3 : decode zb_B_behind 3 = .ok (.invokevirtual 102, 3) ∧ 3 + 3 = 6 := ⟨by decide +kernel, rfl⟩
theorem zd_B_behind_6 : decode zb_B_behind 6 = .ok (.ifCond .ne 5, 3) ∧ ((6 : Nat) : Int) + (5) = ((11 : Nat) : Int) ∧ 6 + 3 = 9 := ⟨by decide +kernel, by decide, rfl⟩
theorem zd_B_behind_9 : decode zb_B_behind 9 = .ok (.iconst (-1), 1) ∧ 9 + 1 = 10 := ⟨by decide +kernel, rfl⟩
theorem zd_B_behind_10 : decode zb_B_behind 10 = .ok (.ireturn, 1) ∧ 10 + 1 = 11 := ⟨by decide +kernel, rfl⟩
theorem zd_B_behind_11 : decode zb_B_behind 11 = .ok (.iconst 0, 1) ∧ 11 + 1 = 12 := ⟨by decide +kernel, rfl⟩
theorem zd_B_behind_12 : decode zb_B_behind 12 = .ok (.istore_n 2, 1) ∧ 12 + 1 = 13 := ⟨by decide +kernel, rfl⟩
theorem zd_B_behind_13 : decode zb_B_behind 13 = .ok (.iconst 0, 1) ∧ 13 + 1 = 14 := ⟨by decide +kernel, rfl⟩
theorem zd_B_behind_14 : decode zb_B_behind 14 = .ok (.istore_n 3, 1) ∧ 14 + 1 = 15 := ⟨by decide +kernel, rfl⟩
theorem zd_B_behind_15 : decode zb_B_behind 15 = .ok (.iload_n 3, 1) ∧ 15 + 1 = 16 := ⟨by decide +kernel, rfl⟩
theorem zd_B_behind_16 : decode zb_B_behind 16 = .ok (.aload_n 0, 1) ∧ 16 + 1 = 17 := ⟨by decide +kernel, rfl⟩
theorem zd_B_behind_17 : decode zb_B_behind 17 = .ok (.getfield 23, 3) ∧ 17 + 3 = 20 := ⟨by decide +kernel, rfl⟩
theorem zd_B_behind_20 : decode zb_B_behind 20 = .ok (.getfield 97, 3) ∧ 20 + 3 = 23 := ⟨by decide +kernel, rfl⟩
theorem zd_B_behind_23 : decode zb_B_behind 23 = .ok (.iconst 0, 1) ∧ 23 + 1 = 24 := ⟨by decide +kernel, rfl⟩
theorem zd_B_behind_24 : decode zb_B_behind 24 = .ok (.iaload, 1) ∧ 24 + 1 = 25 := ⟨by decide +kernel, rfl⟩
theorem zd_B_behind_25 : decode zb_B_behind 25 = .ok (.if_icmp .ge 32, 3) ∧ ((25 : Nat) : Int) + (32) = ((57 : Nat) : Int) ∧ 25 + 3 = 28 := ⟨by decide +kernel, by decide, rfl⟩
theorem zd_B_behind_28 : decode zb_B_behind 28 = .ok (.aload_n 0, 1) ∧ 28 + 1 = 29 := ⟨by decide +kernel, rfl⟩
theorem zd_B_behind_29 : decode zb_B_behind 29 = .ok (.iconst 1, 1) ∧ 29 + 1 = 30 := ⟨by decide +kernel, rfl⟩
theorem zd_B_behind_30 : decode zb_B_behind 30 = .ok (.iload_n 3, 1) ∧ 30 + 1 = 31 := ⟨by decide +kernel, rfl⟩
theorem zd_B_behind_31 : decode zb_B_behind 31 = .ok (.ishl, 1) ∧ 31 + 1 = 32 := ⟨by decide +kernel, rfl⟩
theorem zd_B_behind_32 : decode zb_B_behind 32 = .ok (.bipush 7, 2) ∧ 32 + 2 = 34 := ⟨by decide +kernel, rfl⟩
theorem zd_B_behind_34 : decode zb_B_behind 34 = .ok (.invokevirtual 234, 3) ∧ 34 + 3 = 37 := ⟨by decide +kernel, rfl⟩
theorem zd_B_behind_37 : decode zb_B_behind 37 = .ok (.getfield 160, 3) ∧ 37 + 3 = 40 := ⟨by decide +kernel, rfl⟩
theorem zd_B_behind_40 : decode zb_B_behind 40 = .ok (.iload_n 1, 1) ∧ 40 + 1 = 41 := ⟨by decide +kernel, rfl⟩
theorem zd_B_behind_41 : decode zb_B_behind 41 = .ok (.iaload, 1) ∧ 41 + 1 = 42 := ⟨by decide +kernel, rfl⟩
theorem zd_B_behind_42 : decode zb_B_behind 42 = .ok (.ifCond .eq 9, 3) ∧ ((42 : Nat) : Int) + (9) = ((51 : Nat) : Int) ∧ 42 + 3 = 45 := ⟨by decide +kernel, by decide, rfl⟩
theorem zd_B_behind_45 : decode zb_B_behind 45 = .ok (.iload_n 2, 1) ∧ 45 + 1 = 46 := ⟨by decide +kernel, rfl⟩
theorem zd_B_behind_46 : decode zb_B_behind 46 = .ok (.iconst 1, 1) ∧ 46 + 1 = 47 := ⟨by decide +kernel, rfl⟩
theorem zd_B_behind_47 : decode zb_B_behind 47 = .ok (.iload_n 3, 1) ∧ 47 + 1 = 48 := ⟨by decide +kernel, rfl⟩
theorem zd_B_behind_48 : decode zb_B_behind 48 = .ok (.ishl, 1) ∧ 48 + 1 = 49 := ⟨by decide +kernel, rfl⟩
theorem zd_B_behind_49 : decode zb_B_behind 49 = .ok (.ior, 1) ∧ 49 + 1 = 50 := ⟨by decide +kernel, rfl⟩
theorem zd_B_behind_50 : decode zb_B_behind 50 = .ok (.istore_n 2, 1) ∧ 50 + 1 = 51 := ⟨by decide +kernel, rfl⟩
theorem zd_B_behind_51 : decode zb_B_behind 51 = .ok (.iinc 3 1, 3) ∧ 51 + 3 = 54 := ⟨by decide +kernel, rfl⟩
theorem zd_B_behind_54 : decode zb_B_behind 54 = .ok (.goto (-39), 3) ∧ ((54 : Nat) : Int) + (-39) = ((15 : Nat) : Int) ∧ 54 + 3 = 57 := ⟨by decide +kernel, by decide, rfl⟩
theorem zd_B_behind_57 : decode zb_B_behind 57 = .ok (.iload_n 2, 1) ∧ 57 + 1 = 58 := ⟨by decide +kernel, rfl⟩
theorem zd_B_behind_58 : decode zb_B_behind 58 = .ok (.ireturn, 1) ∧ 58 + 1 = 59 := ⟨by decide +kernel, rfl⟩
theorem zd_B_isNumber_0 : decode zb_B_isNumber 0 = .ok (.iload_n 1, 1) ∧ 0 + 1 = 1 := ⟨by decide +kernel, rfl⟩
theorem zd_B_isNumber_1 : decode zb_B_isNumber 1 = .ok (.ifCond .lt 20, 3) ∧ ((1 : Nat) : Int) + (20) = ((21 : Nat) : Int) ∧ 1 + 3 = 4 := ⟨by decide +kernel, by decide, rfl⟩
theorem zd_B_isNumber_4 : decode zb_B_isNumber 4 = .ok (.iload_n 1, 1) ∧ 4 + 1 = 5 := ⟨by decide +kernel, rfl⟩
theorem zd_B_isNumber_5 : decode zb_B_isNumber 5 = .ok (.aload_n 0, 1) ∧ 5 + 1 = 6 := ⟨by decide +kernel, rfl⟩
theorem zd_B_isNumber_6 : decode zb_B_isNumber 6 = .ok (.getfield 23, 3) ∧ 6 + 3 = 9 := ⟨by decide +kernel, rfl⟩
theorem zd_B_isNumber_9 : decode zb_B_isNumber 9 = .ok (.getfield 97, 3) ∧ 9 + 3 = 12 := ⟨by decide +kernel, rfl⟩
theorem zd_B_isNumber_12 : decode zb_B_isNumber 12 = .ok (.iload_n 2, 1) ∧ 12 + 1 = 13 := ⟨by decide +kernel, rfl⟩
theorem zd_B_isNumber_13 : decode zb_B_isNumber 13 = .ok (.iaload, 1) ∧ 13 + 1 = 14 := ⟨by decide +kernel, rfl⟩
theorem zd_B_isNumber_14 : decode zb_B_isNumber 14 = .ok (.if_icmp .ge 7, 3) ∧ ((14 : Nat) : Int) + (7) = ((21 : Nat) : Int) ∧ 14 + 3 = 17 := ⟨by decide +kernel, by decide, rfl⟩
theorem zd_B_isNumber_17 : decode zb_B_isNumber 17 = .ok (.iconst 1, 1) ∧ 17 + 1 = 18 := ⟨by decide +kernel, rfl⟩
theorem zd_B_isNumber_18 : decode zb_B_isNumber 18 = .ok (.goto 4, 3) ∧ ((18 : Nat) : Int) + (4) = ((22 : Nat) : Int) ∧ 18 + 3 = 21 := ⟨by decide +kernel, by decide, rfl⟩
theorem zd_B_isNumber_21 : decode zb_B_isNumber 21 = .ok (.iconst 0, 1) ∧ 21 + 1 = 22 := ⟨by decide +kernel, rfl⟩
theorem zd_B_isNumber_22 : decode zb_B_isNumber 22 = .ok (.ireturn, 1) ∧ 22 + 1 = 23 := ⟨by decide +kernel, rfl⟩
theorem zd_B_lightNow_0 : decode zb_B_lightNow 0 = .ok (.aload_n 0, 1) ∧ 0 + 1 = 1 := ⟨by decide +kernel, rfl⟩
theorem zd_B_lightNow_1 : decode zb_B_lightNow 1 = .ok (.sipush 255, 3) ∧ 1 + 3 = 4 := ⟨by decide +kernel, rfl⟩
theorem zd_B_lightNow_4 : decode zb_B_lightNow 4 = .ok (.bipush 7, 2) ∧ 4 + 2 = 6 := ⟨by decide +kernel, rfl⟩
theorem zd_B_lightNow_6 : decode zb_B_lightNow 6 = .ok (.invokevirtual 234, 3) ∧ 6 + 3 = 9 := ⟨by decide +kernel, rfl⟩
theorem zd_B_lightNow_9 : decode zb_B_lightNow 9 = .ok (.areturn, 1) ∧ 9 + 1 = 10 := ⟨by decide +kernel, rfl⟩
theorem zd_B_lightOf_0 : decode zb_B_lightOf 0 = .ok (.aload_n 0, 1) ∧ 0 + 1 = 1 := ⟨by decide +kernel, rfl⟩
theorem zd_B_lightOf_1 : decode zb_B_lightOf 1 = .ok (.getfield 30, 3) ∧ 1 + 3 = 4 := ⟨by decide +kernel, rfl⟩
theorem zd_B_lightOf_4 : decode zb_B_lightOf 4 = .ok (.getfield 276, 3) ∧ 4 + 3 = 7 := ⟨by decide +kernel, rfl⟩
theorem zd_B_lightOf_7 : decode zb_B_lightOf 7 = .ok (.aload_n 0, 1) ∧ 7 + 1 = 8 := ⟨by decide +kernel, rfl⟩
theorem zd_B_lightOf_8 : decode zb_B_lightOf 8 = .ok (.getfield 23, 3) ∧ 8 + 3 = 11 := ⟨by decide +kernel, rfl⟩
theorem zd_B_lightOf_11 : decode zb_B_lightOf 11 = .ok (.aload_n 0, 1) ∧ 11 + 1 = 12 := ⟨by decide +kernel, rfl⟩
theorem zd_B_lightOf_12 : decode zb_B_lightOf 12 = .ok (.getfield 70, 3) ∧ 12 + 3 = 15 := ⟨by decide +kernel, rfl⟩
theorem zd_B_lightOf_15 : decode zb_B_lightOf 15 = .ok (.aload_n 0, 1) ∧ 15 + 1 = 16 := ⟨by decide +kernel, rfl⟩
theorem zd_B_lightOf_16 : decode zb_B_lightOf 16 = .ok (.getfield 73, 3) ∧ 16 + 3 = 19 := ⟨by decide +kernel, rfl⟩
theorem zd_B_lightOf_19 : decode zb_B_lightOf 19 = .ok (.iload_n 1, 1) ∧ 19 + 1 = 20 := ⟨by decide +kernel, rfl⟩
theorem zd_B_lightOf_20 : decode zb_B_lightOf 20 = .ok (.iload_n 2, 1) ∧ 20 + 1 = 21 := ⟨by decide +kernel, rfl⟩
theorem zd_B_lightOf_21 : decode zb_B_lightOf 21 = .ok (.invokevirtual 279, 3) ∧ 21 + 3 = 24 := ⟨by decide +kernel, rfl⟩
theorem zd_B_lightOf_24 : decode zb_B_lightOf 24 = .ok (.aload_n 0, 1) ∧ 24 + 1 = 25 := ⟨by decide +kernel, rfl⟩
theorem zd_B_lightOf_25 : decode zb_B_lightOf 25 = .ok (.getfield 30, 3) ∧ 25 + 3 = 28 := ⟨by decide +kernel, rfl⟩
theorem zd_B_lightOf_28 : decode zb_B_lightOf 28 = .ok (.getfield 276, 3) ∧ 28 + 3 = 31 := ⟨by decide +kernel, rfl⟩
theorem zd_B_lightOf_31 : decode zb_B_lightOf 31 = .ok (.areturn, 1) ∧ 31 + 1 = 32 := ⟨by decide +kernel, rfl⟩
