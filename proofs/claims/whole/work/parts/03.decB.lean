theorem zd_B_init_0 : decode zb_B_init 0 = .ok (.aload_n 0, 1) ∧ 0 + 1 = 1 := ⟨by decide +kernel, rfl⟩
theorem zd_B_init_1 : decode zb_B_init 1 = .ok (.invokespecial 3, 3) ∧ 1 + 3 = 4 := ⟨by decide +kernel, rfl⟩
theorem zd_B_init_4 : decode zb_B_init 4 = .ok (.aload_n 0, 1) ∧ 4 + 1 = 5 := ⟨by decide +kernel, rfl⟩
theorem zd_B_init_5 : decode zb_B_init 5 = .ok (.sipush 1600, 3) ∧ 5 + 3 = 8 := ⟨by decide +kernel, rfl⟩
theorem zd_B_init_8 : decode zb_B_init 8 = .ok (.newarray .int, 2) ∧ 8 + 2 = 10 := ⟨by decide +kernel, rfl⟩
theorem zd_B_init_10 : decode zb_B_init 10 = .ok (.putfield 9, 3) ∧ 10 + 3 = 13 := ⟨by decide +kernel, rfl⟩
theorem zd_B_init_13 : decode zb_B_init 13 = .ok (.aload_n 0, 1) ∧ 13 + 1 = 14 := ⟨by decide +kernel, rfl⟩
theorem zd_B_init_14 : decode zb_B_init 14 = .ok (.new 13, 3) ∧ 14 + 3 = 17 := ⟨by decide +kernel, rfl⟩
theorem zd_B_init_17 : decode zb_B_init 17 = .ok (.dup, 1) ∧ 17 + 1 = 18 := ⟨by decide +kernel, rfl⟩
theorem zd_B_init_18 : decode zb_B_init 18 = .ok (.invokespecial 15, 3) ∧ 18 + 3 = 21 := ⟨by decide +kernel, rfl⟩
theorem zd_B_init_21 : decode zb_B_init 21 = .ok (.putfield 16, 3) ∧ 21 + 3 = 24 := ⟨by decide +kernel, rfl⟩
theorem zd_B_init_24 : decode zb_B_init 24 = .ok (.aload_n 0, 1) ∧ 24 + 1 = 25 := ⟨by decide +kernel, rfl⟩
theorem zd_B_init_25 : decode zb_B_init 25 = .ok (.new 20, 3) ∧ 25 + 3 = 28 := ⟨by decide +kernel, rfl⟩
theorem zd_B_init_28 : decode zb_B_init 28 = .ok (.dup, 1) ∧ 28 + 1 = 29 := ⟨by decide +kernel, rfl⟩
theorem zd_B_init_29 : decode zb_B_init 29 = .ok (.invokespecial 22, 3) ∧ 29 + 3 = 32 := ⟨by decide +kernel, rfl⟩
theorem zd_B_init_32 : decode zb_B_init 32 = .ok (.putfield 23, 3) ∧ 32 + 3 = 35 := ⟨by decide +kernel, rfl⟩
theorem zd_B_init_35 : decode zb_B_init 35 = .ok (.aload_n 0, 1) ∧ 35 + 1 = 36 := ⟨by decide +kernel, rfl⟩
theorem zd_B_init_36 : decode zb_B_init 36 = .ok (.new 27, 3) ∧ 36 + 3 = 39 := ⟨by decide +kernel, rfl⟩
theorem zd_B_init_39 : decode zb_B_init 39 = .ok (.dup, 1) ∧ 39 + 1 = 40 := ⟨by decide +kernel, rfl⟩
theorem zd_B_init_40 : decode zb_B_init 40 = .ok (.invokespecial 29, 3) ∧ 40 + 3 = 43 := ⟨by decide +kernel, rfl⟩
theorem zd_B_init_43 : decode zb_B_init 43 = .ok (.putfield 30, 3) ∧ 43 + 3 = 46 := ⟨by decide +kernel, rfl⟩
theorem zd_B_init_46 : decode zb_B_init 46 = .ok (.aload_n 0, 1) ∧ 46 + 1 = 47 := ⟨by decide +kernel, rfl⟩
theorem zd_B_init_47 : decode zb_B_init 47 = .ok (.new 34, 3) ∧ 47 + 3 = 50 := ⟨by decide +kernel, rfl⟩
theorem zd_B_init_50 : decode zb_B_init 50 = .ok (.dup, 1) ∧ 50 + 1 = 51 := ⟨by decide +kernel, rfl⟩
theorem zd_B_init_51 : decode zb_B_init 51 = .ok (.invokespecial 36, 3) ∧ 51 + 3 = 54 := ⟨by decide +kernel, rfl⟩
theorem zd_B_init_54 : decode zb_B_init 54 = .ok (.putfield 37, 3) ∧ 54 + 3 = 57 := ⟨by decide +kernel, rfl⟩
theorem zd_B_init_57 : decode zb_B_init 57 = .ok (.aload_n 0, 1) ∧ 57 + 1 = 58 := ⟨by decide +kernel, rfl⟩
theorem zd_B_init_58 : decode zb_B_init 58 = .ok (.sipush 144, 3) ∧ 58 + 3 = 61 := ⟨by decide +kernel, rfl⟩
theorem zd_B_init_61 : decode zb_B_init 61 = .ok (.newarray .int, 2) ∧ 61 + 2 = 63 := ⟨by decide +kernel, rfl⟩
theorem zd_B_init_63 : decode zb_B_init 63 = .ok (.putfield 41, 3) ∧ 63 + 3 = 66 := ⟨by decide +kernel, rfl⟩
theorem zd_B_init_66 : decode zb_B_init 66 = .ok (.aload_n 0, 1) ∧ 66 + 1 = 67 := ⟨by decide +kernel, rfl⟩
theorem zd_B_init_67 : decode zb_B_init 67 = .ok (.new 44, 3) ∧ 67 + 3 = 70 := ⟨by decide +kernel, rfl⟩
theorem zd_B_init_70 : decode zb_B_init 70 = .ok (.dup, 1) ∧ 70 + 1 = 71 := ⟨by decide +kernel, rfl⟩
theorem zd_B_init_71 : decode zb_B_init 71 = .ok (.invokespecial 46, 3) ∧ 71 + 3 = 74 := ⟨by decide +kernel, rfl⟩
theorem zd_B_init_74 : decode zb_B_init 74 = .ok (.putfield 47, 3) ∧ 74 + 3 = 77 := ⟨by decide +kernel, rfl⟩
theorem zd_B_init_77 : decode zb_B_init 77 = .ok (.aload_n 0, 1) ∧ 77 + 1 = 78 := ⟨by decide +kernel, rfl⟩
theorem zd_B_init_78 : decode zb_B_init 78 = .ok (.bipush 14, 2) ∧ 78 + 2 = 80 := ⟨by decide +kernel, rfl⟩
theorem zd_B_init_80 : decode zb_B_init 80 = .ok (.newarray .int, 2) ∧ 80 + 2 = 82 := ⟨by decide +kernel, rfl⟩
theorem zd_B_init_82 : decode zb_B_init 82 = .ok (.putfield 51, 3) ∧ 82 + 3 = 85 := ⟨by decide +kernel, rfl⟩
theorem zd_B_init_85 : decode zb_B_init 85 = .ok (.return_, 1) ∧ 85 + 1 = 86 := ⟨by decide +kernel, rfl⟩
theorem zd_B_feed_0 : decode zb_B_feed 0 = .ok (.aload_n 0, 1) ∧ 0 + 1 = 1 := ⟨by decide +kernel, rfl⟩
theorem zd_B_feed_1 : decode zb_B_feed 1 = .ok (.getfield 54, 3) ∧ 1 + 3 = 4 := ⟨by decide +kernel, rfl⟩
theorem zd_B_feed_4 : decode zb_B_feed 4 = .ok (.bipush 20, 2) ∧ 4 + 2 = 6 := ⟨by decide +kernel, rfl⟩
theorem zd_B_feed_6 : decode zb_B_feed 6 = .ok (.iadd, 1) ∧ 6 + 1 = 7 := ⟨by decide +kernel, rfl⟩
theorem zd_B_feed_7 : decode zb_B_feed 7 = .ok (.sipush 1600, 3) ∧ 7 + 3 = 10 := ⟨by decide +kernel, rfl⟩
theorem zd_B_feed_10 : decode zb_B_feed 10 = .ok (.if_icmp .le 5, 3) ∧ ((10 : Nat) : Int) + (5) = ((15 : Nat) : Int) ∧ 10 + 3 = 13 := ⟨by decide +kernel, by decide, rfl⟩
theorem zd_B_feed_13 : decode zb_B_feed 13 = .ok (.iconst (-1), 1) ∧ 13 + 1 = 14 := ⟨by decide +kernel, rfl⟩
theorem zd_B_feed_14 : decode zb_B_feed 14 = .ok (.ireturn, 1) ∧ 14 + 1 = 15 := ⟨by decide +kernel, rfl⟩
theorem zd_B_feed_15 : decode zb_B_feed 15 = .ok (.aload_n 0, 1) ∧ 15 + 1 = 16 := ⟨by decide +kernel, rfl⟩
theorem zd_B_feed_16 : decode zb_B_feed 16 = .ok (.iload_n 1, 1) ∧ 16 + 1 = 17 := ⟨by decide +kernel, rfl⟩
theorem zd_B_feed_17 : decode zb_B_feed 17 = .ok (.invokevirtual 58, 3) ∧ 17 + 3 = 20 := ⟨by decide +kernel, rfl⟩
theorem zd_B_feed_20 : decode zb_B_feed 20 = .ok (.aload_n 0, 1) ∧ 20 + 1 = 21 := ⟨by decide +kernel, rfl⟩
theorem zd_B_feed_21 : decode zb_B_feed 21 = .ok (.iload_n 2, 1) ∧ 21 + 1 = 22 := ⟨by decide +kernel, rfl⟩
theorem zd_B_feed_22 : decode zb_B_feed 22 = .ok (.invokevirtual 58, 3) ∧ 22 + 3 = 25 := ⟨by decide +kernel, rfl⟩
theorem zd_B_feed_25 : decode zb_B_feed 25 = .ok (.aload_n 0, 1) ∧ 25 + 1 = 26 := ⟨by decide +kernel, rfl⟩
theorem zd_B_feed_26 : decode zb_B_feed 26 = .ok (.iload_n 3, 1) ∧ 26 + 1 = 27 := ⟨by decide +kernel, rfl⟩
theorem zd_B_feed_27 : decode zb_B_feed 27 = .ok (.invokevirtual 58, 3) ∧ 27 + 3 = 30 := ⟨by decide +kernel, rfl⟩
theorem zd_B_feed_30 : decode zb_B_feed 30 = .ok (.aload_n 0, 1) ∧ 30 + 1 = 31 := ⟨by decide +kernel, rfl⟩
theorem zd_B_feed_31 : decode zb_B_feed 31 = .ok (.iload 4, 2) ∧ 31 + 2 = 33 := ⟨by decide +kernel, rfl⟩
theorem zd_B_feed_33 : decode zb_B_feed 33 = .ok (.invokevirtual 58, 3) ∧ 33 + 3 = 36 := ⟨by decide +kernel, rfl⟩
theorem zd_B_feed_36 : decode zb_B_feed 36 = .ok (.aload_n 0, 1) ∧ 36 + 1 = 37 := ⟨by decide +kernel, rfl⟩
theorem zd_B_feed_37 : decode zb_B_feed 37 = .ok (.iload 5, 2) ∧ 37 + 2 = 39 := ⟨by decide +kernel, rfl⟩
theorem zd_B_feed_39 : decode zb_B_feed 39 = .ok (.invokevirtual 58, 3) ∧ 39 + 3 = 42 := ⟨by decide +kernel, rfl⟩
theorem zd_B_feed_42 : decode zb_B_feed 42 = .ok (.aload_n 0, 1) ∧ 42 + 1 = 43 := ⟨by decide +kernel, rfl⟩
theorem zd_B_feed_43 : decode zb_B_feed 43 = .ok (.getfield 54, 3) ∧ 43 + 3 = 46 := ⟨by decide +kernel, rfl⟩
theorem zd_B_feed_46 : decode zb_B_feed 46 = .ok (.ireturn, 1) ∧ 46 + 1 = 47 := ⟨by decide +kernel, rfl⟩
theorem zd_B_putOnTape_0 : decode zb_B_putOnTape 0 = .ok (.bipush 24, 2) ∧ 0 + 2 = 2 := ⟨by decide +kernel, rfl⟩
theorem zd_B_putOnTape_2 : decode zb_B_putOnTape 2 = .ok (.istore_n 2, 1) ∧ 2 + 1 = 3 := ⟨by decide +kernel, rfl⟩
theorem zd_B_putOnTape_3 : decode zb_B_putOnTape 3 = .ok (.iload_n 2, 1) ∧ 3 + 1 = 4 := ⟨by decide +kernel, rfl⟩
theorem zd_B_putOnTape_4 : decode zb_B_putOnTape 4 = .ok (.ifCond .lt 45, 3) ∧ ((4 : Nat) : Int) + (45) = ((49 : Nat) : Int) ∧ 4 + 3 = 7 := ⟨by decide +kernel, by decide, rfl⟩
theorem zd_B_putOnTape_7 : decode zb_B_putOnTape 7 = .ok (.aload_n 0, 1) ∧ 7 + 1 = 8 := ⟨by decide +kernel, rfl⟩
theorem zd_B_putOnTape_8 : decode zb_B_putOnTape 8 = .ok (.getfield 54, 3) ∧ 8 + 3 = 11 := ⟨by decide +kernel, rfl⟩
theorem zd_B_putOnTape_11 : decode zb_B_putOnTape 11 = .ok (.sipush 1600, 3) ∧ 11 + 3 = 14 := ⟨by decide +kernel, rfl⟩
theorem zd_B_putOnTape_14 : decode zb_B_putOnTape 14 = .ok (.if_icmp .ge 35, 3) ∧ ((14 : Nat) : Int) + (35) = ((49 : Nat) : Int) ∧ 14 + 3 = 17 := ⟨by decide +kernel, by decide, rfl⟩
theorem zd_B_putOnTape_17 : decode zb_B_putOnTape 17 = .ok (.aload_n 0, 1) ∧ 17 + 1 = 18 := ⟨by decide +kernel, rfl⟩
theorem zd_B_putOnTape_18 : decode zb_B_putOnTape 18 = .ok (.getfield 9, 3) ∧ 18 + 3 = 21 := ⟨by decide +kernel, rfl⟩
theorem zd_B_putOnTape_21 : decode zb_B_putOnTape 21 = .ok (.aload_n 0, 1) ∧ 21 + 1 = 22 := ⟨by decide +kernel, rfl⟩
theorem zd_B_putOnTape_22 : decode zb_B_putOnTape 22 = .ok (.getfield 54, 3) ∧ 22 + 3 = 25 := ⟨by decide +kernel, rfl⟩
theorem zd_B_putOnTape_25 : decode zb_B_putOnTape 25 = .ok (.iload_n 1, 1) ∧ 25 + 1 = 26 := ⟨by decide +kernel, rfl⟩
theorem zd_B_putOnTape_26 : decode zb_B_putOnTape 26 = .ok (.iload_n 2, 1) ∧ 26 + 1 = 27 := ⟨by decide +kernel, rfl⟩
theorem zd_B_putOnTape_27 : decode zb_B_putOnTape 27 = .ok (.ishr, 1) ∧ 27 + 1 = 28 := ⟨by decide +kernel, rfl⟩
theorem zd_B_putOnTape_28 : decode zb_B_putOnTape 28 = .ok (.sipush 255, 3) ∧ 28 + 3 = 31 := ⟨by decide +kernel, rfl⟩
theorem zd_B_putOnTape_31 : decode zb_B_putOnTape 31 = .ok (.iand, 1) ∧ 31 + 1 = 32 := ⟨by decide +kernel, rfl⟩
theorem zd_B_putOnTape_32 : decode zb_B_putOnTape 32 = .ok (.iastore, 1) ∧ 32 + 1 = 33 := ⟨by decide +kernel, rfl⟩
theorem zd_B_putOnTape_33 : decode zb_B_putOnTape 33 = .ok (.aload_n 0, 1) ∧ 33 + 1 = 34 := ⟨by decide +kernel, rfl⟩
theorem zd_B_putOnTape_34 : decode zb_B_putOnTape 34 = .ok (.dup, 1) ∧ 34 + 1 = 35 := ⟨by decide +kernel, rfl⟩
theorem zd_B_putOnTape_35 : decode zb_B_putOnTape 35 = .ok (.getfield 54, 3) ∧ 35 + 3 = 38 := ⟨by decide +kernel, rfl⟩
theorem zd_B_putOnTape_38 : decode zb_B_putOnTape 38 = .ok (.iconst 1, 1) ∧ 38 + 1 = 39 := ⟨by decide +kernel, rfl⟩
theorem zd_B_putOnTape_39 : decode zb_B_putOnTape 39 = .ok (.iadd, 1) ∧ 39 + 1 = 40 := ⟨by decide +kernel, rfl⟩
theorem zd_B_putOnTape_40 : decode zb_B_putOnTape 40 = .ok (.putfield 54, 3) ∧ 40 + 3 = 43 := ⟨by decide +kernel, rfl⟩
theorem zd_B_putOnTape_43 : decode zb_B_putOnTape 43 = .ok (.iinc 2 (-8), 3) ∧ 43 + 3 = 46 := ⟨by decide +kernel, rfl⟩
theorem zd_B_putOnTape_46 : decode zb_B_putOnTape 46 = .ok (.goto (-43), 3) ∧ ((46 : Nat) : Int) + (-43) = ((3 : Nat) : Int) ∧ 46 + 3 = 49 := ⟨by decide +kernel, by decide, rfl⟩
theorem zd_B_putOnTape_49 : decode zb_B_putOnTape 49 = .ok (.return_, 1) ∧ 49 + 1 = 50 := ⟨by decide +kernel, rfl⟩
theorem zd_B_end_0 : decode zb_B_end 0 = .ok (.iload_n 1, 1) ∧ 0 + 1 = 1 := ⟨by decide +kernel, rfl⟩
theorem zd_B_end_1 : decode zb_B_end 1 = .ok (.ifCond .lt 11, 3) ∧ ((1 : Nat) : Int) + (11) = ((12 : Nat) : Int) ∧ 1 + 3 = 4 := ⟨by decide +kernel, by decide, rfl⟩
theorem zd_B_end_4 : decode zb_B_end 4 = .ok (.iload_n 1, 1) ∧ 4 + 1 = 5 := ⟨by decide +kernel, rfl⟩
theorem zd_B_end_5 : decode zb_B_end 5 = .ok (.aload_n 0, 1) ∧ 5 + 1 = 6 := ⟨by decide +kernel, rfl⟩
theorem zd_B_end_6 : decode zb_B_end 6 = .ok (.getfield 54, 3) ∧ 6 + 3 = 9 := ⟨by decide +kernel, rfl⟩
theorem zd_B_end_9 : decode zb_B_end 9 = .ok (.if_icmp .le 5, 3) ∧ ((9 : Nat) : Int) + (5) = ((14 : Nat) : Int) ∧ 9 + 3 = 12 := ⟨by decide +kernel, by decide, rfl⟩
theorem zd_B_end_12 : decode zb_B_end 12 = .ok (.iconst 0, 1) ∧ 12 + 1 = 13 := ⟨by decide +kernel, rfl⟩
theorem zd_B_end_13 : decode zb_B_end 13 = .ok (.ireturn, 1) ∧ 13 + 1 = 14 := ⟨by decide +kernel, rfl⟩
theorem zd_B_end_14 : decode zb_B_end 14 = .ok (.aload_n 0, 1) ∧ 14 + 1 = 15 := ⟨by decide +kernel, rfl⟩
theorem zd_B_end_15 : decode zb_B_end 15 = .ok (.iload_n 1, 1) ∧ 15 + 1 = 16 := ⟨by decide +kernel, rfl⟩
theorem zd_B_end_16 : decode zb_B_end 16 = .ok (.putfield 54, 3) ∧ 16 + 3 = 19 := ⟨by decide +kernel, rfl⟩
theorem zd_B_end_19 : decode zb_B_end 19 = .ok (.iconst 1, 1) ∧ 19 + 1 = 20 := ⟨by decide +kernel, rfl⟩
theorem zd_B_end_20 : decode zb_B_end 20 = .ok (.ireturn, 1) ∧ 20 + 1 = 21 := ⟨by decide +kernel, rfl⟩
theorem zd_B_board_0 : decode zb_B_board 0 = .ok (.aload_n 0, 1) ∧ 0 + 1 = 1 := ⟨by decide +kernel, rfl⟩
theorem zd_B_board_1 : decode zb_B_board 1 = .ok (.getfield 54, 3) ∧ 1 + 3 = 4 := ⟨by decide +kernel, rfl⟩
theorem zd_B_board_4 : decode zb_B_board 4 = .ok (.istore_n 1, 1) ∧ 4 + 1 = 5 := ⟨by decide +kernel, rfl⟩
theorem zd_B_board_5 : decode zb_B_board 5 = .ok (.aload_n 0, 1) ∧ 5 + 1 = 6 := ⟨by decide +kernel, rfl⟩
theorem zd_B_board_6 : decode zb_B_board 6 = .ok (.iconst 0, 1) ∧ 6 + 1 = 7 := ⟨by decide +kernel, rfl⟩
theorem zd_B_board_7 : decode zb_B_board 7 = .ok (.putfield 54, 3) ∧ 7 + 3 = 10 := ⟨by decide +kernel, rfl⟩
theorem zd_B_board_10 : decode zb_B_board 10 = .ok (.aload_n 0, 1) ∧ 10 + 1 = 11 := ⟨by decide +kernel, rfl⟩
theorem zd_B_board_11 : decode zb_B_board 11 = .ok (.getfield 16, 3) ∧ 11 + 3 = 14 := ⟨by decide +kernel, rfl⟩
theorem zd_B_board_14 : decode zb_B_board 14 = .ok (.aload_n 0, 1) ∧ 14 + 1 = 15 := ⟨by decide +kernel, rfl⟩
theorem zd_B_board_15 : decode zb_B_board 15 = .ok (.getfield 9, 3) ∧ 15 + 3 = 18 := ⟨by decide +kernel, rfl⟩
theorem zd_B_board_18 : decode zb_B_board 18 = .ok (.iload_n 1, 1) ∧ 18 + 1 = 19 := ⟨by decide +kernel, rfl⟩
theorem zd_B_board_19 : decode zb_B_board 19 = .ok (.invokevirtual 62, 3) ∧ 19 + 3 = 22 := ⟨by decide +kernel, rfl⟩
theorem zd_B_board_22 : decode zb_B_board 22 = .ok (.istore_n 2, 1) ∧ 22 + 1 = 23 := ⟨by decide +kernel, rfl⟩
theorem zd_B_board_23 : decode zb_B_board 23 = .ok (.iload_n 2, 1) ∧ 23 + 1 = 24 := ⟨by decide +kernel, rfl⟩
theorem zd_B_board_24 : decode zb_B_board 24 = .ok (.iconst (-1), 1) ∧ 24 + 1 = 25 := ⟨by decide +kernel, rfl⟩
theorem zd_B_board_25 : decode zb_B_board 25 = .ok (.if_icmp .ne 5, 3) ∧ ((25 : Nat) : Int) + (5) = ((30 : Nat) : Int) ∧ 25 + 3 = 28 := ⟨by decide +kernel, by decide, rfl⟩
theorem zd_B_board_28 : decode zb_B_board 28 = .ok (.iconst (-1), 1) ∧ 28 + 1 = 29 := ⟨by decide +kernel, rfl⟩
theorem zd_B_board_29 : decode zb_B_board 29 = .ok (.ireturn, 1) ∧ 29 + 1 = 30 := ⟨by decide +kernel, rfl⟩
theorem zd_B_board_30 : decode zb_B_board 30 = .ok (.aload_n 0, 1) ∧ 30 + 1 = 31 := ⟨by decide +kernel, rfl⟩
theorem zd_B_board_31 : decode zb_B_board 31 = .ok (.aload_n 0, 1) ∧ 31 + 1 = 32 := ⟨by decide +kernel, rfl⟩
theorem zd_B_board_32 : decode zb_B_board 32 = .ok (.getfield 16, 3) ∧ 32 + 3 = 35 := ⟨by decide +kernel, rfl⟩
theorem zd_B_board_35 : decode zb_B_board 35 = .ok (.aload_n 0, 1) ∧ 35 + 1 = 36 := ⟨by decide +kernel, rfl⟩
theorem zd_B_board_36 : decode zb_B_board 36 = .ok (.getfield 23, 3) ∧ 36 + 3 = 39 := ⟨by decide +kernel, rfl⟩
theorem zd_B_board_39 : decode zb_B_board 39 = .ok (.invokevirtual 66, 3) ∧ 39 + 3 = 42 := ⟨by decide +kernel, rfl⟩
theorem zd_B_board_42 : decode zb_B_board 42 = .ok (.putfield 23, 3) ∧ 42 + 3 = 45 := ⟨by decide +kernel, rfl⟩
theorem zd_B_board_45 : decode zb_B_board 45 = .ok (.aload_n 0, 1) ∧ 45 + 1 = 46 := ⟨by decide +kernel, rfl⟩
theorem zd_B_board_46 : decode zb_B_board 46 = .ok (.iconst 0, 1) ∧ 46 + 1 = 47 := ⟨by decide +kernel, rfl⟩
theorem zd_B_board_47 : decode zb_B_board 47 = .ok (.putfield 70, 3) ∧ 47 + 3 = 50 := ⟨by decide +kernel, rfl⟩
theorem zd_B_board_50 : decode zb_B_board 50 = .ok (.aload_n 0, 1) ∧ 50 + 1 = 51 := ⟨by decide +kernel, rfl⟩
theorem zd_B_board_51 : decode zb_B_board 51 = .ok (.iconst 0, 1) ∧ 51 + 1 = 52 := ⟨by decide +kernel, rfl⟩
theorem zd_B_board_52 : decode zb_B_board 52 = .ok (.putfield 73, 3) ∧ 52 + 3 = 55 := ⟨by decide +kernel, rfl⟩
theorem zd_B_board_55 : decode zb_B_board 55 = .ok (.aload_n 0, 1) ∧ 55 + 1 = 56 := ⟨by decide +kernel, rfl⟩
theorem zd_B_board_56 : decode zb_B_board 56 = .ok (.iconst 0, 1) ∧ 56 + 1 = 57 := ⟨by decide +kernel, rfl⟩
theorem zd_B_board_57 : decode zb_B_board 57 = .ok (.putfield 76, 3) ∧ 57 + 3 = 60 := ⟨by decide +kernel, rfl⟩
theorem zd_B_board_60 : decode zb_B_board 60 = .ok (.aload_n 0, 1) ∧ 60 + 1 = 61 := ⟨by decide +kernel, rfl⟩
theorem zd_B_board_61 : decode zb_B_board 61 = .ok (.iconst 0, 1) ∧ 61 + 1 = 62 := ⟨by decide +kernel, rfl⟩
theorem zd_B_board_62 : decode zb_B_board 62 = .ok (.putfield 79, 3) ∧ 62 + 3 = 65 := ⟨by decide +kernel, rfl⟩
theorem zd_B_board_65 : decode zb_B_board 65 = .ok (.aload_n 0, 1) ∧ 65 + 1 = 66 := ⟨by decide +kernel, rfl⟩
theorem zd_B_board_66 : decode zb_B_board 66 = .ok (.getfield 47, 3) ∧ 66 + 3 = 69 := ⟨by decide +kernel, rfl⟩
theorem zd_B_board_69 : decode zb_B_board 69 = .ok (.iconst 0, 1) ∧ 69 + 1 = 70 := ⟨by decide +kernel, rfl⟩
theorem zd_B_board_70 : decode zb_B_board 70 = .ok (.putfield 82, 3) ∧ 70 + 3 = 73 := ⟨by decide +kernel, rfl⟩
theorem zd_B_board_73 : decode zb_B_board 73 = .ok (.iload_n 2, 1) ∧ 73 + 1 = 74 := ⟨by decide +kernel, rfl⟩
theorem zd_B_board_74 : decode zb_B_board 74 = .ok (.ireturn, 1) ∧ 74 + 1 = 75 := ⟨by decide +kernel, rfl⟩
theorem zd_B_fault_0 : decode zb_B_fault 0 = .ok (.iload_n 1, 1) ∧ 0 + 1 = 1 := ⟨by decide +kernel, rfl⟩
theorem zd_B_fault_1 : decode zb_B_fault 1 = .ok (.ifCond .ne 11, 3) ∧ ((1 : Nat) : Int) + (11) = ((12 : Nat) : Int) ∧ 1 + 3 = 4 := ⟨by decide +kernel, by decide, rfl⟩
theorem zd_B_fault_4 : decode zb_B_fault 4 = .ok (.aload_n 0, 1) ∧ 4 + 1 = 5 := ⟨by decide +kernel, rfl⟩
theorem zd_B_fault_5 : decode zb_B_fault 5 = .ok (.getfield 16, 3) ∧ 5 + 3 = 8 := ⟨by decide +kernel, rfl⟩
theorem zd_B_fault_8 : decode zb_B_fault 8 = .ok (.getfield 85, 3) ∧ 8 + 3 = 11 := ⟨by decide +kernel, rfl⟩
theorem zd_B_fault_11 : decode zb_B_fault 11 = .ok (.ireturn, 1) ∧ 11 + 1 = 12 := ⟨by decide +kernel, rfl⟩
theorem zd_B_fault_12 : decode zb_B_fault 12 = .ok (.iload_n 1, 1) ∧ 12 + 1 = 13 := ⟨by decide +kernel, rfl⟩
theorem zd_B_fault_13 : decode zb_B_fault 13 = .ok (.iconst 1, 1) ∧ 13 + 1 = 14 := ⟨by decide +kernel, rfl⟩
theorem zd_B_fault_14 : decode zb_B_fault 14 = .ok (.if_icmp .ne 13, 3) ∧ ((14 : Nat) : Int) + (13) = ((27 : Nat) : Int) ∧ 14 + 3 = 17 := ⟨by decide +kernel, by decide, rfl⟩
theorem zd_B_fault_17 : decode zb_B_fault 17 = .ok (.aload_n 0, 1) ∧ 17 + 1 = 18 := ⟨by decide +kernel, rfl⟩
theorem zd_B_fault_18 : decode zb_B_fault 18 = .ok (.getfield 16, 3) ∧ 18 + 3 = 21 := ⟨by decide +kernel, rfl⟩
theorem zd_B_fault_21 : decode zb_B_fault 21 = .ok (.getfield 88, 3) ∧ 21 + 3 = 24 := ⟨by decide +kernel, rfl⟩
theorem zd_B_fault_24 : decode zb_B_fault 24 = .ok (.goto 4, 3) ∧ ((24 : Nat) : Int) + (4) = ((28 : Nat) : Int) ∧ 24 + 3 = 27 := ⟨by decide +kernel, by decide, rfl⟩
theorem zd_B_fault_27 : decode zb_B_fault 27 = .ok (.iconst (-1), 1) ∧ 27 + 1 = 28 := ⟨by decide +kernel, rfl⟩
theorem zd_B_fault_28 : decode zb_B_fault 28 = .ok (.ireturn, 1) ∧ 28 + 1 = 29 := ⟨by decide +kernel, rfl⟩
theorem zd_B_has_0 : decode zb_B_has 0 = .ok (.iload_n 1, 1) ∧ 0 + 1 = 1 := ⟨by decide +kernel, rfl⟩
theorem zd_B_has_1 : decode zb_B_has 1 = .ok (.tableswitch 107 0 6 #[43, 51, 59, 69, 79, 89, 99], 43) ∧ 1 + 43 = 44 := ⟨by decide +kernel, rfl⟩
theorem zd_B_has_44 : decode zb_B_has 44 = .ok (.aload_n 0, 1) ∧ 44 + 1 = 45 := ⟨by decide +kernel, rfl⟩
theorem zd_B_has_45 : decode zb_B_has 45 = .ok (.getfield 23, 3) ∧ 45 + 3 = 48 := ⟨by decide +kernel, rfl⟩
theorem zd_B_has_48 : decode zb_B_has 48 = .ok (.getfield 91, 3) ∧ 48 + 3 = 51 := ⟨by decide +kernel, rfl⟩
theorem zd_B_has_51 : decode zb_B_has 51 = .ok (.ireturn, 1) ∧ 51 + 1 = 52 := ⟨by decide +kernel, rfl⟩
theorem zd_B_has_52 : decode zb_B_has 52 = .ok (.aload_n 0, 1) ∧ 52 + 1 = 53 := ⟨by decide +kernel, rfl⟩
theorem zd_B_has_53 : decode zb_B_has 53 = .ok (.getfield 23, 3) ∧ 53 + 3 = 56 := ⟨by decide +kernel, rfl⟩
theorem zd_B_has_56 : decode zb_B_has 56 = .ok (.getfield 94, 3) ∧ 56 + 3 = 59 := ⟨by decide +kernel, rfl⟩
theorem zd_B_has_59 : decode zb_B_has 59 = .ok (.ireturn, 1) ∧ 59 + 1 = 60 := ⟨by decide +kernel, rfl⟩
theorem zd_B_has_60 : decode zb_B_has 60 = .ok (.aload_n 0, 1) ∧ 60 + 1 = 61 := ⟨by decide +kernel, rfl⟩
theorem zd_B_has_61 : decode zb_B_has 61 = .ok (.getfield 23, 3) ∧ 61 + 3 = 64 := ⟨by decide +kernel, rfl⟩
theorem zd_B_has_64 : decode zb_B_has 64 = .ok (.getfield 97, 3) ∧ 64 + 3 = 67 := ⟨by decide +kernel, rfl⟩
theorem zd_B_has_67 : decode zb_B_has 67 = .ok (.iconst 0, 1) ∧ 67 + 1 = 68 := ⟨by decide +kernel, rfl⟩
theorem zd_B_has_68 : decode zb_B_has 68 = .ok (.iaload, 1) ∧ 68 + 1 = 69 := ⟨by decide +kernel, rfl⟩
theorem zd_B_has_69 : decode zb_B_has 69 = .ok (.ireturn, 1) ∧ 69 + 1 = 70 := ⟨by decide +kernel, rfl⟩
theorem zd_B_has_70 : decode zb_B_has 70 = .ok (.aload_n 0, 1) ∧ 70 + 1 = 71 := ⟨by decide +kernel, rfl⟩
theorem zd_B_has_71 : decode zb_B_has 71 = .ok (.getfield 23, 3) ∧ 71 + 3 = 74 := ⟨by decide +kernel, rfl⟩
theorem zd_B_has_74 : decode zb_B_has 74 = .ok (.getfield 97, 3) ∧ 74 + 3 = 77 := ⟨by decide +kernel, rfl⟩
theorem zd_B_has_77 : decode zb_B_has 77 = .ok (.iconst 1, 1) ∧ 77 + 1 = 78 := ⟨by decide +kernel, rfl⟩
theorem zd_B_has_78 : decode zb_B_has 78 = .ok (.iaload, 1) ∧ 78 + 1 = 79 := ⟨by decide +kernel, rfl⟩
theorem zd_B_has_79 : decode zb_B_has 79 = .ok (.ireturn, 1) ∧ 79 + 1 = 80 := ⟨by decide +kernel, rfl⟩
theorem zd_B_has_80 : decode zb_B_has 80 = .ok (.aload_n 0, 1) ∧ 80 + 1 = 81 := ⟨by decide +kernel, rfl⟩
theorem zd_B_has_81 : decode zb_B_has 81 = .ok (.getfield 23, 3) ∧ 81 + 3 = 84 := ⟨by decide +kernel, rfl⟩
theorem zd_B_has_84 : decode zb_B_has 84 = .ok (.getfield 97, 3) ∧ 84 + 3 = 87 := ⟨by decide +kernel, rfl⟩
theorem zd_B_has_87 : decode zb_B_has 87 = .ok (.iconst 2, 1) ∧ 87 + 1 = 88 := ⟨by decide +kernel, rfl⟩
theorem zd_B_has_88 : decode zb_B_has 88 = .ok (.iaload, 1) ∧ 88 + 1 = 89 := ⟨by decide +kernel, rfl⟩
theorem zd_B_has_89 : decode zb_B_has 89 = .ok (.ireturn, 1) ∧ 89 + 1 = 90 := ⟨by decide +kernel, rfl⟩
theorem zd_B_has_90 : decode zb_B_has 90 = .ok (.aload_n 0, 1) ∧ 90 + 1 = 91 := ⟨by decide +kernel, rfl⟩
theorem zd_B_has_91 : decode zb_B_has 91 = .ok (.getfield 23, 3) ∧ 91 + 3 = 94 := ⟨by decide +kernel, rfl⟩
theorem zd_B_has_94 : decode zb_B_has 94 = .ok (.getfield 97, 3) ∧ 94 + 3 = 97 := ⟨by decide +kernel, rfl⟩
theorem zd_B_has_97 : decode zb_B_has 97 = .ok (.iconst 3, 1) ∧ 97 + 1 = 98 := ⟨by decide +kernel, rfl⟩
theorem zd_B_has_98 : decode zb_B_has 98 = .ok (.iaload, 1) ∧ 98 + 1 = 99 := ⟨by decide +kernel, rfl⟩
theorem zd_B_has_99 : decode zb_B_has 99 = .ok (.ireturn, 1) ∧ 99 + 1 = 100 := ⟨by decide +kernel, rfl⟩
theorem zd_B_has_100 : decode zb_B_has 100 = .ok (.aload_n 0, 1) ∧ 100 + 1 = 101 := ⟨by decide +kernel, rfl⟩
theorem zd_B_has_101 : decode zb_B_has 101 = .ok (.getfield 23, 3) ∧ 101 + 3 = 104 := ⟨by decide +kernel, rfl⟩
theorem zd_B_has_104 : decode zb_B_has 104 = .ok (.getfield 99, 3) ∧ 104 + 3 = 107 := ⟨by decide +kernel, rfl⟩
theorem zd_B_has_107 : decode zb_B_has 107 = .ok (.ireturn, 1) ∧ 107 + 1 = 108 := ⟨by decide +kernel, rfl⟩
theorem zd_B_has_108 : decode zb_B_has 108 = .ok (.iconst (-1), 1) ∧ 108 + 1 = 109 := ⟨by decide +kernel, rfl⟩
theorem zd_B_has_109 : decode zb_B_has 109 = .ok (.ireturn, 1) ∧ 109 + 1 = 110 := ⟨by decide +kernel, rfl⟩
theorem zd_B_letter_0 : decode zb_B_letter 0 = .ok (.aload_n 0, 1) ∧ 0 + 1 = 1 := ⟨by decide +kernel, rfl⟩
theorem zd_B_letter_1 : decode zb_B_letter 1 = .ok (.iload_n 1, 1) ∧ 1 + 1 = 2 := ⟨by decide +kernel, rfl⟩
theorem zd_B_letter_2 : decode zb_B_letter 2 = .ok (.iconst 3, 1) ∧ 2 + 1 = 3 := ⟨by decide +kernel, rfl⟩
theorem zd_B_letter_3 : decode zb_B_letter 3 = .ok (.invokevirtual 102, 3) ∧ 3 + 3 = 6 := ⟨by decide +kernel, rfl⟩
theorem zd_B_letter_6 : decode zb_B_letter 6 = .ok (.ifCond .eq 15, 3) ∧ ((6 : Nat) : Int) + (15) = ((21 : Nat) : Int) ∧ 6 + 3 = 9 := ⟨by decide +kernel, by decide, rfl⟩
theorem zd_B_letter_9 : decode zb_B_letter 9 = .ok (.aload_n 0, 1) ∧ 9 + 1 = 10 := ⟨by decide +kernel, rfl⟩
theorem zd_B_letter_10 : decode zb_B_letter 10 = .ok (.getfield 23, 3) ∧ 10 + 3 = 13 := ⟨by decide +kernel, rfl⟩
theorem zd_B_letter_13 : decode zb_B_letter 13 = .ok (.iload_n 1, 1) ∧ 13 + 1 = 14 := ⟨by decide +kernel, rfl⟩
theorem zd_B_letter_14 : decode zb_B_letter 14 = .ok (.iload_n 2, 1) ∧ 14 + 1 = 15 := ⟨by decide +kernel, rfl⟩
theorem zd_B_letter_15 : decode zb_B_letter 15 = .ok (.invokevirtual 106, 3) ∧ 15 + 3 = 18 := ⟨by decide +kernel, rfl⟩
theorem zd_B_letter_18 : decode zb_B_letter 18 = .ok (.goto 4, 3) ∧ ((18 : Nat) : Int) + (4) = ((22 : Nat) : Int) ∧ 18 + 3 = 21 := ⟨by decide +kernel, by decide, rfl⟩
theorem zd_B_letter_21 : decode zb_B_letter 21 = .ok (.iconst (-1), 1) ∧ 21 + 1 = 22 := ⟨by decide +kernel, rfl⟩
theorem zd_B_letter_22 : decode zb_B_letter 22 = .ok (.ireturn, 1) ∧ 22 + 1 = 23 := ⟨by decide +kernel, rfl⟩
theorem zd_B_square_0 : decode zb_B_square 0 = .ok (.aload_n 0, 1) ∧ 0 + 1 = 1 := ⟨by decide +kernel, rfl⟩
theorem zd_B_square_1 : decode zb_B_square 1 = .ok (.getfield 23, 3) ∧ 1 + 3 = 4 := ⟨by decide +kernel, rfl⟩
theorem zd_B_square_4 : decode zb_B_square 4 = .ok (.iload_n 1, 1) ∧ 4 + 1 = 5 := ⟨by decide +kernel, rfl⟩
theorem zd_B_square_5 : decode zb_B_square 5 = .ok (.iload_n 2, 1) ∧ 5 + 1 = 6 := ⟨by decide +kernel, rfl⟩
theorem zd_B_square_6 : decode zb_B_square 6 = .ok (.invokevirtual 110, 3) ∧ 6 + 3 = 9 := ⟨by decide +kernel, rfl⟩
theorem zd_B_square_9 : decode zb_B_square 9 = .ok (.istore 4, 2) ∧ 9 + 2 = 11 := ⟨by decide +kernel, rfl⟩
theorem zd_B_square_11 : decode zb_B_square 11 = .ok (.iload 4, 2) ∧ 11 + 2 = 13 := ⟨by decide +kernel, rfl⟩
theorem zd_B_square_13 : decode zb_B_square 13 = .ok (.iconst (-1), 1) ∧ 13 + 1 = 14 := ⟨by decide +kernel, rfl⟩
theorem zd_B_square_14 : decode zb_B_square 14 = .ok (.if_icmp .ne 5, 3) ∧ ((14 : Nat) : Int) + (5) = ((19 : Nat) : Int) ∧ 14 + 3 = 17 := ⟨by decide +kernel, by decide, rfl⟩
theorem zd_B_square_17 : decode zb_B_square 17 = .ok (.iconst (-1), 1) ∧ 17 + 1 = 18 := ⟨by decide +kernel, rfl⟩
theorem zd_B_square_18 : decode zb_B_square 18 = .ok (.ireturn, 1) ∧ 18 + 1 = 19 := ⟨by decide +kernel, rfl⟩
theorem zd_B_square_19 : decode zb_B_square 19 = .ok (.aload_n 0, 1) ∧ 19 + 1 = 20 := ⟨by decide +kernel, rfl⟩
theorem zd_B_square_20 : decode zb_B_square 20 = .ok (.getfield 23, 3) ∧ 20 + 3 = 23 := ⟨by decide +kernel, rfl⟩
theorem zd_B_square_23 : decode zb_B_square 23 = .ok (.getfield 113, 3) ∧ 23 + 3 = 26 := ⟨by decide +kernel, rfl⟩
theorem zd_B_square_26 : decode zb_B_square 26 = .ok (.iload 4, 2) ∧ 26 + 2 = 28 := ⟨by decide +kernel, rfl⟩
theorem zd_B_square_28 : decode zb_B_square 28 = .ok (.iaload, 1) ∧ 28 + 1 = 29 := ⟨by decide +kernel, rfl⟩
theorem zd_B_square_29 : decode zb_B_square 29 = .ok (.istore 5, 2) ∧ 29 + 2 = 31 := ⟨by decide +kernel, rfl⟩
theorem zd_B_square_31 : decode zb_B_square 31 = .ok (.iload_n 3, 1) ∧ 31 + 1 = 32 := ⟨by decide +kernel, rfl⟩
theorem zd_B_square_32 : decode zb_B_square 32 = .ok (.ifCond .ne 24, 3) ∧ ((32 : Nat) : Int) + (24) = ((56 : Nat) : Int) ∧ 32 + 3 = 35 := ⟨by decide +kernel, by decide, rfl⟩
theorem zd_B_square_35 : decode zb_B_square 35 = .ok (.iload 5, 2) ∧ 35 + 2 = 37 := ⟨by decide +kernel, rfl⟩
theorem zd_B_square_37 : decode zb_B_square 37 = .ok (.iconst (-1), 1) ∧ 37 + 1 = 38 := ⟨by decide +kernel, rfl⟩
theorem zd_B_square_38 : decode zb_B_square 38 = .ok (.if_icmp .ne 7, 3) ∧ ((38 : Nat) : Int) + (7) = ((45 : Nat) : Int) ∧ 38 + 3 = 41 := ⟨by decide +kernel, by decide, rfl⟩
theorem zd_B_square_41 : decode zb_B_square 41 = .ok (.iconst 0, 1) ∧ 41 + 1 = 42 := ⟨by decide +kernel, rfl⟩
theorem zd_B_square_42 : decode zb_B_square 42 = .ok (.goto 13, 3) ∧ ((42 : Nat) : Int) + (13) = ((55 : Nat) : Int) ∧ 42 + 3 = 45 := ⟨by decide +kernel, by decide, rfl⟩
theorem zd_B_square_45 : decode zb_B_square 45 = .ok (.aload_n 0, 1) ∧ 45 + 1 = 46 := ⟨by decide +kernel, rfl⟩
theorem zd_B_square_46 : decode zb_B_square 46 = .ok (.getfield 23, 3) ∧ 46 + 3 = 49 := ⟨by decide +kernel, rfl⟩
theorem zd_B_square_49 : decode zb_B_square 49 = .ok (.getfield 116, 3) ∧ 49 + 3 = 52 := ⟨by decide +kernel, rfl⟩
theorem zd_B_square_52 : decode zb_B_square 52 = .ok (.iload 5, 2) ∧ 52 + 2 = 54 := ⟨by decide +kernel, rfl⟩
theorem zd_B_square_54 : decode zb_B_square 54 = .ok (.iaload, 1) ∧ 54 + 1 = 55 := ⟨by decide +kernel, rfl⟩
theorem zd_B_square_55 : decode zb_B_square 55 = .ok (.ireturn, 1) ∧ 55 + 1 = 56 := ⟨by decide +kernel, rfl⟩
theorem zd_B_square_56 : decode zb_B_square 56 = .ok (.iload 5, 2) ∧ 56 + 2 = 58 := ⟨by decide +kernel, rfl⟩
theorem zd_B_square_58 : decode zb_B_square 58 = .ok (.iconst (-1), 1) ∧ 58 + 1 = 59 := ⟨by decide +kernel, rfl⟩
theorem zd_B_square_59 : decode zb_B_square 59 = .ok (.if_icmp .ne 5, 3) ∧ ((59 : Nat) : Int) + (5) = ((64 : Nat) : Int) ∧ 59 + 3 = 62 := ⟨by decide +kernel, by decide, rfl⟩
theorem zd_B_square_62 : decode zb_B_square 62 = .ok (.iconst (-1), 1) ∧ 62 + 1 = 63 := ⟨by decide +kernel, rfl⟩
theorem zd_B_square_63 : decode zb_B_square 63 = .ok (.ireturn, 1) ∧ 63 + 1 = 64 := ⟨by decide +kernel, rfl⟩
theorem zd_B_square_64 : decode zb_B_square 64 = .ok (.iload_n 3, 1) ∧ 64 + 1 = 65 := ⟨by decide +kernel, rfl⟩
theorem zd_B_square_65 : decode zb_B_square 65 = .ok (.iconst 1, 1) ∧ 65 + 1 = 66 := ⟨by decide +kernel, rfl⟩
theorem zd_B_square_66 : decode zb_B_square 66 = .ok (.if_icmp .ne 14, 3) ∧ ((66 : Nat) : Int) + (14) = ((80 : Nat) : Int) ∧ 66 + 3 = 69 := ⟨by decide +kernel, by decide, rfl⟩
theorem zd_B_square_69 : decode zb_B_square 69 = .ok (.aload_n 0, 1) ∧ 69 + 1 = 70 := ⟨by decide +kernel, rfl⟩
theorem zd_B_square_70 : decode zb_B_square 70 = .ok (.getfield 23, 3) ∧ 70 + 3 = 73 := ⟨by decide +kernel, rfl⟩
theorem zd_B_square_73 : decode zb_B_square 73 = .ok (.getfield 119, 3) ∧ 73 + 3 = 76 := ⟨by decide +kernel, rfl⟩
theorem zd_B_square_76 : decode zb_B_square 76 = .ok (.iload 5, 2) ∧ 76 + 2 = 78 := ⟨by decide +kernel, rfl⟩
theorem zd_B_square_78 : decode zb_B_square 78 = .ok (.iaload, 1) ∧ 78 + 1 = 79 := ⟨by decide +kernel, rfl⟩
theorem zd_B_square_79 : decode zb_B_square 79 = .ok (.ireturn, 1) ∧ 79 + 1 = 80 := ⟨by decide +kernel, rfl⟩
theorem zd_B_square_80 : decode zb_B_square 80 = .ok (.iload_n 3, 1) ∧ 80 + 1 = 81 := ⟨by decide +kernel, rfl⟩
theorem zd_B_square_81 : decode zb_B_square 81 = .ok (.iconst 2, 1) ∧ 81 + 1 = 82 := ⟨by decide +kernel, rfl⟩
theorem zd_B_square_82 : decode zb_B_square 82 = .ok (.if_icmp .ne 23, 3) ∧ ((82 : Nat) : Int) + (23) = ((105 : Nat) : Int) ∧ 82 + 3 = 85 := ⟨by decide +kernel, by decide, rfl⟩
theorem zd_B_square_85 : decode zb_B_square 85 = .ok (.aload_n 0, 1) ∧ 85 + 1 = 86 := ⟨by decide +kernel, rfl⟩
theorem zd_B_square_86 : decode zb_B_square 86 = .ok (.getfield 23, 3) ∧ 86 + 3 = 89 := ⟨by decide +kernel, rfl⟩
theorem zd_B_square_89 : decode zb_B_square 89 = .ok (.iload 5, 2) ∧ 89 + 2 = 91 := ⟨by decide +kernel, rfl⟩
theorem zd_B_square_91 : decode zb_B_square 91 = .ok (.aload_n 0, 1) ∧ 91 + 1 = 92 := ⟨by decide +kernel, rfl⟩
theorem zd_B_square_92 : decode zb_B_square 92 = .ok (.getfield 70, 3) ∧ 92 + 3 = 95 := ⟨by decide +kernel, rfl⟩
theorem zd_B_square_95 : decode zb_B_square 95 = .ok (.aload_n 0, 1) ∧ 95 + 1 = 96 := ⟨by decide +kernel, rfl⟩
theorem zd_B_square_96 : decode zb_B_square 96 = .ok (.getfield 73, 3) ∧ 96 + 3 = 99 := ⟨by decide +kernel, rfl⟩
theorem zd_B_square_99 : decode zb_B_square 99 = .ok (.invokevirtual 122, 3) ∧ 99 + 3 = 102 := ⟨by decide +kernel, rfl⟩
theorem zd_B_square_102 : decode zb_B_square 102 = .ok (.goto 4, 3) ∧ ((102 : Nat) : Int) + (4) = ((106 : Nat) : Int) ∧ 102 + 3 = 105 := ⟨by decide +kernel, by decide, rfl⟩
theorem zd_B_square_105 : decode zb_B_square 105 = .ok (.iconst (-1), 1) ∧ 105 + 1 = 106 := ⟨by decide +kernel, rfl⟩
theorem zd_B_square_106 : decode zb_B_square 106 = .ok (.ireturn, 1) ∧ 106 + 1 = 107 := ⟨by decide +kernel, rfl⟩
theorem zd_B_turn_0 : decode zb_B_turn 0 = .ok (.aload_n 0, 1) ∧ 0 + 1 = 1 := ⟨by decide +kernel, rfl⟩
theorem zd_B_turn_1 : decode zb_B_turn 1 = .ok (.iload_n 1, 1) ∧ 1 + 1 = 2 := ⟨by decide +kernel, rfl⟩
theorem zd_B_turn_2 : decode zb_B_turn 2 = .ok (.iconst 1, 1) ∧ 2 + 1 = 3 := ⟨by decide +kernel, rfl⟩
theorem zd_B_turn_3 : decode zb_B_turn 3 = .ok (.invokevirtual 102, 3) ∧ 3 + 3 = 6 := ⟨by decide +kernel, rfl⟩
theorem zd_B_turn_6 : decode zb_B_turn 6 = .ok (.ifCond .ne 5, 3) ∧ ((6 : Nat) : Int) + (5) = ((11 : Nat) : Int) ∧ 6 + 3 = 9 := ⟨by decide +kernel, by decide, rfl⟩
theorem zd_B_turn_9 : decode zb_B_turn 9 = .ok (.iconst (-1), 1) ∧ 9 + 1 = 10 := ⟨by decide +kernel, rfl⟩
theorem zd_B_turn_10 : decode zb_B_turn 10 = .ok (.ireturn, 1) ∧ 10 + 1 = 11 := ⟨by decide +kernel, rfl⟩
theorem zd_B_turn_11 : decode zb_B_turn 11 = .ok (.aload_n 0, 1) ∧ 11 + 1 = 12 := ⟨by decide +kernel, rfl⟩
theorem zd_B_turn_12 : decode zb_B_turn 12 = .ok (.getfield 47, 3) ∧ 12 + 3 = 15 := ⟨by decide +kernel, rfl⟩
theorem zd_B_turn_15 : decode zb_B_turn 15 = .ok (.aload_n 0, 1) ∧ 15 + 1 = 16 := ⟨by decide +kernel, rfl⟩
theorem zd_B_turn_16 : decode zb_B_turn 16 = .ok (.getfield 70, 3) ∧ 16 + 3 = 19 := ⟨by decide +kernel, rfl⟩
theorem zd_B_turn_19 : decode zb_B_turn 19 = .ok (.aload_n 0, 1) ∧ 19 + 1 = 20 := ⟨by decide +kernel, rfl⟩
theorem zd_B_turn_20 : decode zb_B_turn 20 = .ok (.getfield 73, 3) ∧ 20 + 3 = 23 := ⟨by decide +kernel, rfl⟩
theorem zd_B_turn_23 : decode zb_B_turn 23 = .ok (.invokevirtual 126, 3) ∧ 23 + 3 = 26 := ⟨by decide +kernel, rfl⟩
theorem zd_B_turn_26 : decode zb_B_turn 26 = .ok (.aload_n 0, 1) ∧ 26 + 1 = 27 := ⟨by decide +kernel, rfl⟩
theorem zd_B_turn_27 : decode zb_B_turn 27 = .ok (.dup, 1) ∧ 27 + 1 = 28 := ⟨by decide +kernel, rfl⟩
theorem zd_B_turn_28 : decode zb_B_turn 28 = .ok (.getfield 70, 3) ∧ 28 + 3 = 31 := ⟨by decide +kernel, rfl⟩
theorem zd_B_turn_31 : decode zb_B_turn 31 = .ok (.iconst 1, 1) ∧ 31 + 1 = 32 := ⟨by decide +kernel, rfl⟩
theorem zd_B_turn_32 : decode zb_B_turn 32 = .ok (.iload_n 1, 1) ∧ 32 + 1 = 33 := ⟨by decide +kernel, rfl⟩
theorem zd_B_turn_33 : decode zb_B_turn 33 = .ok (.ishl, 1) ∧ 33 + 1 = 34 := ⟨by decide +kernel, rfl⟩
theorem zd_B_turn_34 : decode zb_B_turn 34 = .ok (.ixor, 1) ∧ 34 + 1 = 35 := ⟨by decide +kernel, rfl⟩
theorem zd_B_turn_35 : decode zb_B_turn 35 = .ok (.putfield 70, 3) ∧ 35 + 3 = 38 := ⟨by decide +kernel, rfl⟩
theorem zd_B_turn_38 : decode zb_B_turn 38 = .ok (.aload_n 0, 1) ∧ 38 + 1 = 39 := ⟨by decide +kernel, rfl⟩
theorem zd_B_turn_39 : decode zb_B_turn 39 = .ok (.getfield 70, 3) ∧ 39 + 3 = 42 := ⟨by decide +kernel, rfl⟩
theorem zd_B_turn_42 : decode zb_B_turn 42 = .ok (.invokestatic 130, 3) ∧ 42 + 3 = 45 := ⟨by decide +kernel, rfl⟩
theorem zd_B_turn_45 : decode zb_B_turn 45 = .ok (.ireturn, 1) ∧ 45 + 1 = 46 := ⟨by decide +kernel, rfl⟩
theorem zd_B_turned_0 : decode zb_B_turned 0 = .ok (.aload_n 0, 1) ∧ 0 + 1 = 1 := ⟨by decide +kernel, rfl⟩
theorem zd_B_turned_1 : decode zb_B_turned 1 = .ok (.getfield 70, 3) ∧ 1 + 3 = 4 := ⟨by decide +kernel, rfl⟩
theorem zd_B_turned_4 : decode zb_B_turned 4 = .ok (.ireturn, 1) ∧ 4 + 1 = 5 := ⟨by decide +kernel, rfl⟩
theorem zd_B_set_0 : decode zb_B_set 0 = .ok (.aload_n 0, 1) ∧ 0 + 1 = 1 := ⟨by decide +kernel, rfl⟩
theorem zd_B_set_1 : decode zb_B_set 1 = .ok (.iload_n 1, 1) ∧ 1 + 1 = 2 := ⟨by decide +kernel, rfl⟩
theorem zd_B_set_2 : decode zb_B_set 2 = .ok (.invokevirtual 136, 3) ∧ 2 + 3 = 5 := ⟨by decide +kernel, rfl⟩
theorem zd_B_set_5 : decode zb_B_set 5 = .ok (.ifCond .ne 5, 3) ∧ ((5 : Nat) : Int) + (5) = ((10 : Nat) : Int) ∧ 5 + 3 = 8 := ⟨by decide +kernel, by decide, rfl⟩
theorem zd_B_set_8 : decode zb_B_set 8 = .ok (.iconst 0, 1) ∧ 8 + 1 = 9 := ⟨by decide +kernel, rfl⟩
theorem zd_B_set_9 : decode zb_B_set 9 = .ok (.ireturn, 1) ∧ 9 + 1 = 10 := ⟨by decide +kernel, rfl⟩
theorem zd_B_set_10 : decode zb_B_set 10 = .ok (.aload_n 0, 1) ∧ 10 + 1 = 11 := ⟨by decide +kernel, rfl⟩
theorem zd_B_set_11 : decode zb_B_set 11 = .ok (.iload_n 1, 1) ∧ 11 + 1 = 12 := ⟨by decide +kernel, rfl⟩
theorem zd_B_set_12 : decode zb_B_set 12 = .ok (.invokevirtual 140, 3) ∧ 12 + 3 = 15 := ⟨by decide +kernel, rfl⟩
theorem zd_B_set_15 : decode zb_B_set 15 = .ok (.iconst 1, 1) ∧ 15 + 1 = 16 := ⟨by decide +kernel, rfl⟩
theorem zd_B_set_16 : decode zb_B_set 16 = .ok (.ireturn, 1) ∧ 16 + 1 = 17 := ⟨by decide +kernel, rfl⟩
theorem zd_B_state_0 : decode zb_B_state 0 = .ok (.aload_n 0, 1) ∧ 0 + 1 = 1 := ⟨by decide +kernel, rfl⟩
theorem zd_B_state_1 : decode zb_B_state 1 = .ok (.getfield 73, 3) ∧ 1 + 3 = 4 := ⟨by decide +kernel, rfl⟩
theorem zd_B_state_4 : decode zb_B_state 4 = .ok (.ireturn, 1) ∧ 4 + 1 = 5 := ⟨by decide +kernel, rfl⟩
theorem zd_B_light_0 : decode zb_B_light 0 = .ok (.aload_n 0, 1) ∧ 0 + 1 = 1 := ⟨by decide +kernel, rfl⟩
theorem zd_B_light_1 : decode zb_B_light 1 = .ok (.getfield 23, 3) ∧ 1 + 3 = 4 := ⟨by decide +kernel, rfl⟩
theorem zd_B_light_4 : decode zb_B_light 4 = .ok (.iload_n 1, 1) ∧ 4 + 1 = 5 := ⟨by decide +kernel, rfl⟩
theorem zd_B_light_5 : decode zb_B_light 5 = .ok (.iload_n 2, 1) ∧ 5 + 1 = 6 := ⟨by decide +kernel, rfl⟩
theorem zd_B_light_6 : decode zb_B_light 6 = .ok (.invokevirtual 110, 3) ∧ 6 + 3 = 9 := ⟨by decide +kernel, rfl⟩
theorem zd_B_light_9 : decode zb_B_light 9 = .ok (.istore 4, 2) ∧ 9 + 2 = 11 := ⟨by decide +kernel, rfl⟩
theorem zd_B_light_11 : decode zb_B_light 11 = .ok (.iload 4, 2) ∧ 11 + 2 = 13 := ⟨by decide +kernel, rfl⟩
theorem zd_B_light_13 : decode zb_B_light 13 = .ok (.iconst (-1), 1) ∧ 13 + 1 = 14 := ⟨by decide +kernel, rfl⟩
theorem zd_B_light_14 : decode zb_B_light 14 = .ok (.if_icmp .eq 12, 3) ∧ ((14 : Nat) : Int) + (12) = ((26 : Nat) : Int) ∧ 14 + 3 = 17 := ⟨by decide +kernel, by decide, rfl⟩
theorem zd_B_light_17 : decode zb_B_light 17 = .ok (.iload_n 3, 1) ∧ 17 + 1 = 18 := ⟨by decide +kernel, rfl⟩
theorem zd_B_light_18 : decode zb_B_light 18 = .ok (.ifCond .lt 8, 3) ∧ ((18 : Nat) : Int) + (8) = ((26 : Nat) : Int) ∧ 18 + 3 = 21 := ⟨by decide +kernel, by decide, rfl⟩
theorem zd_B_light_21 : decode zb_B_light 21 = .ok (.iload_n 3, 1) ∧ 21 + 1 = 22 := ⟨by decide +kernel, rfl⟩
theorem zd_B_light_22 : decode zb_B_light 22 = .ok (.iconst 4, 1) ∧ 22 + 1 = 23 := ⟨by decide +kernel, rfl⟩
theorem zd_B_light_23 : decode zb_B_light 23 = .ok (.if_icmp .lt 5, 3) ∧ ((23 : Nat) : Int) + (5) = ((28 : Nat) : Int) ∧ 23 + 3 = 26 := ⟨by decide +kernel, by decide, rfl⟩
theorem zd_B_light_26 : decode zb_B_light 26 = .ok (.iconst (-1), 1) ∧ 26 + 1 = 27 := ⟨by decide +kernel, rfl⟩
theorem zd_B_light_27 : decode zb_B_light 27 = .ok (.ireturn, 1) ∧ 27 + 1 = 28 := ⟨by decide +kernel, rfl⟩
theorem zd_B_light_28 : decode zb_B_light 28 = .ok (.aload_n 0, 1) ∧ 28 + 1 = 29 := ⟨by decide +kernel, rfl⟩
theorem zd_B_light_29 : decode zb_B_light 29 = .ok (.invokevirtual 143, 3) ∧ 29 + 3 = 32 := ⟨by decide +kernel, rfl⟩
theorem zd_B_light_32 : decode zb_B_light 32 = .ok (.getfield 147, 3) ∧ 32 + 3 = 35 := ⟨by decide +kernel, rfl⟩
theorem zd_B_light_35 : decode zb_B_light 35 = .ok (.iload 4, 2) ∧ 35 + 2 = 37 := ⟨by decide +kernel, rfl⟩
theorem zd_B_light_37 : decode zb_B_light 37 = .ok (.iconst 4, 1) ∧ 37 + 1 = 38 := ⟨by decide +kernel, rfl⟩
theorem zd_B_light_38 : decode zb_B_light 38 = .ok (.imul, 1) ∧ 38 + 1 = 39 := ⟨by decide +kernel, rfl⟩
theorem zd_B_light_39 : decode zb_B_light 39 = .ok (.iload_n 3, 1) ∧ 39 + 1 = 40 := ⟨by decide +kernel, rfl⟩
theorem zd_B_light_40 : decode zb_B_light 40 = .ok (.iadd, 1) ∧ 40 + 1 = 41 := ⟨by decide +kernel, rfl⟩
theorem zd_B_light_41 : decode zb_B_light 41 = .ok (.iaload, 1) ∧ 41 + 1 = 42 := ⟨by decide +kernel, rfl⟩
theorem zd_B_light_42 : decode zb_B_light 42 = .ok (.ireturn, 1) ∧ 42 + 1 = 43 := ⟨by decide +kernel, rfl⟩
theorem zd_B_lit_0 : decode zb_B_lit 0 = .ok (.iload_n 1, 1) ∧ 0 + 1 = 1 := ⟨by decide +kernel, rfl⟩
theorem zd_B_lit_1 : decode zb_B_lit 1 = .ok (.bipush 7, 2) ∧ 1 + 2 = 3 := ⟨by decide +kernel, rfl⟩
theorem zd_B_lit_3 : decode zb_B_lit 3 = .ok (.if_icmp .eq 12, 3) ∧ ((3 : Nat) : Int) + (12) = ((15 : Nat) : Int) ∧ 3 + 3 = 6 := ⟨by decide +kernel, by decide, rfl⟩
theorem zd_B_lit_6 : decode zb_B_lit 6 = .ok (.iload_n 1, 1) ∧ 6 + 1 = 7 := ⟨by decide +kernel, rfl⟩
theorem zd_B_lit_7 : decode zb_B_lit 7 = .ok (.invokestatic 150, 3) ∧ 7 + 3 = 10 := ⟨by decide +kernel, rfl⟩
theorem zd_B_lit_10 : decode zb_B_lit 10 = .ok (.ifCond .ne 5, 3) ∧ ((10 : Nat) : Int) + (5) = ((15 : Nat) : Int) ∧ 10 + 3 = 13 := ⟨by decide +kernel, by decide, rfl⟩
theorem zd_B_lit_13 : decode zb_B_lit 13 = .ok (.iconst (-1), 1) ∧ 13 + 1 = 14 := ⟨by decide +kernel, rfl⟩
theorem zd_B_lit_14 : decode zb_B_lit 14 = .ok (.ireturn, 1) ∧ 14 + 1 = 15 := ⟨by decide +kernel, rfl⟩
theorem zd_B_lit_15 : decode zb_B_lit 15 = .ok (.aload_n 0, 1) ∧ 15 + 1 = 16 := ⟨by decide +kernel, rfl⟩
theorem zd_B_lit_16 : decode zb_B_lit 16 = .ok (.invokevirtual 143, 3) ∧ 16 + 3 = 19 := ⟨by decide +kernel, rfl⟩
theorem zd_B_lit_19 : decode zb_B_lit 19 = .ok (.astore_n 2, 1) ∧ 19 + 1 = 20 := ⟨by decide +kernel, rfl⟩
theorem zd_B_lit_20 : decode zb_B_lit 20 = .ok (.iconst 0, 1) ∧ 20 + 1 = 21 := ⟨by decide +kernel, rfl⟩
theorem zd_B_lit_21 : decode zb_B_lit 21 = .ok (.istore_n 3, 1) ∧ 21 + 1 = 22 := ⟨by decide +kernel, rfl⟩
theorem zd_B_lit_22 : decode zb_B_lit 22 = .ok (.iconst 0, 1) ∧ 22 + 1 = 23 := ⟨by decide +kernel, rfl⟩
theorem zd_B_lit_23 : decode zb_B_lit 23 = .ok (.istore 4, 2) ∧ 23 + 2 = 25 := ⟨by decide +kernel, rfl⟩
theorem zd_B_lit_25 : decode zb_B_lit 25 = .ok (.iload 4, 2) ∧ 25 + 2 = 27 := ⟨by decide +kernel, rfl⟩
theorem zd_B_lit_27 : decode zb_B_lit 27 = .ok (.aload_n 0, 1) ∧ 27 + 1 = 28 := ⟨by decide +kernel, rfl⟩
theorem zd_B_lit_28 : decode zb_B_lit 28 = .ok (.getfield 23, 3) ∧ 28 + 3 = 31 := ⟨by decide +kernel, rfl⟩
theorem zd_B_lit_31 : decode zb_B_lit 31 = .ok (.invokevirtual 153, 3) ∧ 31 + 3 = 34 := ⟨by decide +kernel, rfl⟩
theorem zd_B_lit_34 : decode zb_B_lit 34 = .ok (.if_icmp .ge 23, 3) ∧ ((34 : Nat) : Int) + (23) = ((57 : Nat) : Int) ∧ 34 + 3 = 37 := ⟨by decide +kernel, by decide, rfl⟩
theorem zd_B_lit_37 : decode zb_B_lit 37 = .ok (.aload_n 2, 1) ∧ 37 + 1 = 38 := ⟨by decide +kernel, rfl⟩
theorem zd_B_lit_38 : decode zb_B_lit 38 = .ok (.iload 4, 2) ∧ 38 + 2 = 40 := ⟨by decide +kernel, rfl⟩
theorem zd_B_lit_40 : decode zb_B_lit 40 = .ok (.invokevirtual 157, 3) ∧ 40 + 3 = 43 := ⟨by decide +kernel, rfl⟩
theorem zd_B_lit_43 : decode zb_B_lit 43 = .ok (.iload_n 1, 1) ∧ 43 + 1 = 44 := ⟨by decide +kernel, rfl⟩
theorem zd_B_lit_44 : decode zb_B_lit 44 = .ok (.iand, 1) ∧ 44 + 1 = 45 := ⟨by decide +kernel, rfl⟩
theorem zd_B_lit_45 : decode zb_B_lit 45 = .ok (.ifCond .eq 6, 3) ∧ ((45 : Nat) : Int) + (6) = ((51 : Nat) : Int) ∧ 45 + 3 = 48 := ⟨by decide +kernel, by decide, rfl⟩
theorem zd_B_lit_48 : decode zb_B_lit 48 = .ok (.iinc 3 1, 3) ∧ 48 + 3 = 51 := ⟨by decide +kernel, rfl⟩
theorem zd_B_lit_51 : decode zb_B_lit 51 = .ok (.iinc 4 1, 3) ∧ 51 + 3 = 54 := ⟨by decide +kernel, rfl⟩
theorem zd_B_lit_54 : decode zb_B_lit 54 = .ok (.goto (-29), 3) ∧ ((54 : Nat) : Int) + (-29) = ((25 : Nat) : Int) ∧ 54 + 3 = 57 := ⟨by decide +kernel, by decide, rfl⟩
theorem zd_B_lit_57 : decode zb_B_lit 57 = .ok (.iload_n 3, 1) ∧ 57 + 1 = 58 := ⟨by decide +kernel, rfl⟩
theorem zd_B_lit_58 : decode zb_B_lit 58 = .ok (.ireturn, 1) ∧ 58 + 1 = 59 := ⟨by decide +kernel, rfl⟩
theorem zd_B_sees_0 : decode zb_B_sees 0 = .ok (.aload_n 0, 1) ∧ 0 + 1 = 1 := ⟨by decide +kernel, rfl⟩
theorem zd_B_sees_1 : decode zb_B_sees 1 = .ok (.iload_n 1, 1) ∧ 1 + 1 = 2 := ⟨by decide +kernel, rfl⟩
theorem zd_B_sees_2 : decode zb_B_sees 2 = .ok (.iconst 3, 1) ∧ 2 + 1 = 3 := ⟨by decide +kernel, rfl⟩
theorem zd_B_sees_3 : decode zb_B_sees 3 = .ok (.invokevirtual 102, 3) ∧ 3 + 3 = 6 := ⟨by decide +kernel, rfl⟩
theorem zd_B_sees_6 : decode zb_B_sees 6 = .ok (.ifCond .eq 15, 3) ∧ ((6 : Nat) : Int) + (15) = ((21 : Nat) : Int) ∧ 6 + 3 = 9 := ⟨by decide +kernel, by decide, rfl⟩
theorem zd_B_sees_9 : decode zb_B_sees 9 = .ok (.aload_n 0, 1) ∧ 9 + 1 = 10 := ⟨by decide +kernel, rfl⟩
theorem zd_B_sees_10 : decode zb_B_sees 10 = .ok (.invokevirtual 143, 3) ∧ 10 + 3 = 13 := ⟨by decide +kernel, rfl⟩
theorem zd_B_sees_13 : decode zb_B_sees 13 = .ok (.getfield 160, 3) ∧ 13 + 3 = 16 := ⟨by decide +kernel, rfl⟩
theorem zd_B_sees_16 : decode zb_B_sees 16 = .ok (.iload_n 1, 1) ∧ 16 + 1 = 17 := ⟨by decide +kernel, rfl⟩
theorem zd_B_sees_17 : decode zb_B_sees 17 = .ok (.iaload, 1) ∧ 17 + 1 = 18 := ⟨by decide +kernel, rfl⟩
theorem zd_B_sees_18 : decode zb_B_sees 18 = .ok (.goto 4, 3) ∧ ((18 : Nat) : Int) + (4) = ((22 : Nat) : Int) ∧ 18 + 3 = 21 := ⟨by decide +kernel, by decide, rfl⟩
theorem zd_B_sees_21 : decode zb_B_sees 21 = .ok (.iconst (-1), 1) ∧ 21 + 1 = 22 := ⟨by decide +kernel, rfl⟩
theorem zd_B_sees_22 : decode zb_B_sees 22 = .ok (.ireturn, 1) ∧ 22 + 1 = 23 := ⟨by decide +kernel, rfl⟩
theorem zd_B_step_0 : decode zb_B_step 0 = .ok (.iload_n 1, 1) ∧ 0 + 1 = 1 := ⟨by decide +kernel, rfl⟩
theorem zd_B_step_1 : decode zb_B_step 1 = .ok (.ifCond .lt 10, 3) ∧ ((1 : Nat) : Int) + (10) = ((11 : Nat) : Int) ∧ 1 + 3 = 4 := ⟨by decide +kernel, by decide, rfl⟩
theorem zd_B_step_4 : decode zb_B_step 4 = .ok (.iload_n 1, 1) ∧ 4 + 1 = 5 := ⟨by decide +kernel, rfl⟩
theorem zd_B_step_5 : decode zb_B_step 5 = .ok (.sipush 1000, 3) ∧ 5 + 3 = 8 := ⟨by decide +kernel, rfl⟩
theorem zd_B_step_8 : decode zb_B_step 8 = .ok (.if_icmp .le 5, 3) ∧ ((8 : Nat) : Int) + (5) = ((13 : Nat) : Int) ∧ 8 + 3 = 11 := ⟨by decide +kernel, by decide, rfl⟩
theorem zd_B_step_11 : decode zb_B_step 11 = .ok (.iconst (-1), 1) ∧ 11 + 1 = 12 := ⟨by decide +kernel, rfl⟩
theorem zd_B_step_12 : decode zb_B_step 12 = .ok (.ireturn, 1) ∧ 12 + 1 = 13 := ⟨by decide +kernel, rfl⟩
theorem zd_B_step_13 : decode zb_B_step 13 = .ok (.aload_n 0, 1) ∧ 13 + 1 = 14 := ⟨by decide +kernel, rfl⟩
theorem zd_B_step_14 : decode zb_B_step 14 = .ok (.getfield 30, 3) ∧ 14 + 3 = 17 := ⟨by decide +kernel, rfl⟩
theorem zd_B_step_17 : decode zb_B_step 17 = .ok (.invokevirtual 163, 3) ∧ 17 + 3 = 20 := ⟨by decide +kernel, rfl⟩
theorem zd_B_step_20 : decode zb_B_step 20 = .ok (.aload_n 0, 1) ∧ 20 + 1 = 21 := ⟨by decide +kernel, rfl⟩
theorem zd_B_step_21 : decode zb_B_step 21 = .ok (.getfield 73, 3) ∧ 21 + 3 = 24 := ⟨by decide +kernel, rfl⟩
theorem zd_B_step_24 : decode zb_B_step 24 = .ok (.istore_n 2, 1) ∧ 24 + 1 = 25 := ⟨by decide +kernel, rfl⟩
theorem zd_B_step_25 : decode zb_B_step 25 = .ok (.iconst 0, 1) ∧ 25 + 1 = 26 := ⟨by decide +kernel, rfl⟩
theorem zd_B_step_26 : decode zb_B_step 26 = .ok (.istore_n 3, 1) ∧ 26 + 1 = 27 := ⟨by decide +kernel, rfl⟩
theorem zd_B_step_27 : decode zb_B_step 27 = .ok (.iload_n 3, 1) ∧ 27 + 1 = 28 := ⟨by decide +kernel, rfl⟩
theorem zd_B_step_28 : decode zb_B_step 28 = .ok (.iload_n 1, 1) ∧ 28 + 1 = 29 := ⟨by decide +kernel, rfl⟩
theorem zd_B_step_29 : decode zb_B_step 29 = .ok (.if_icmp .ge 26, 3) ∧ ((29 : Nat) : Int) + (26) = ((55 : Nat) : Int) ∧ 29 + 3 = 32 := ⟨by decide +kernel, by decide, rfl⟩
theorem zd_B_step_32 : decode zb_B_step 32 = .ok (.aload_n 0, 1) ∧ 32 + 1 = 33 := ⟨by decide +kernel, rfl⟩
theorem zd_B_step_33 : decode zb_B_step 33 = .ok (.getfield 30, 3) ∧ 33 + 3 = 36 := ⟨by decide +kernel, rfl⟩
theorem zd_B_step_36 : decode zb_B_step 36 = .ok (.aload_n 0, 1) ∧ 36 + 1 = 37 := ⟨by decide +kernel, rfl⟩
theorem zd_B_step_37 : decode zb_B_step 37 = .ok (.getfield 23, 3) ∧ 37 + 3 = 40 := ⟨by decide +kernel, rfl⟩
theorem zd_B_step_40 : decode zb_B_step 40 = .ok (.aload_n 0, 1) ∧ 40 + 1 = 41 := ⟨by decide +kernel, rfl⟩
theorem zd_B_step_41 : decode zb_B_step 41 = .ok (.getfield 70, 3) ∧ 41 + 3 = 44 := ⟨by decide +kernel, rfl⟩
theorem zd_B_step_44 : decode zb_B_step 44 = .ok (.iload_n 2, 1) ∧ 44 + 1 = 45 := ⟨by decide +kernel, rfl⟩
theorem zd_B_step_45 : decode zb_B_step 45 = .ok (.invokevirtual 166, 3) ∧ 45 + 3 = 48 := ⟨by decide +kernel, rfl⟩
theorem zd_B_step_48 : decode zb_B_step 48 = .ok (.istore_n 2, 1) ∧ 48 + 1 = 49 := ⟨by decide +kernel, rfl⟩
theorem zd_B_step_49 : decode zb_B_step 49 = .ok (.iinc 3 1, 3) ∧ 49 + 3 = 52 := ⟨by decide +kernel, rfl⟩
theorem zd_B_step_52 : decode zb_B_step 52 = .ok (.goto (-25), 3) ∧ ((52 : Nat) : Int) + (-25) = ((27 : Nat) : Int) ∧ 52 + 3 = 55 := ⟨by decide +kernel, by decide, rfl⟩
theorem zd_B_step_55 : decode zb_B_step 55 = .ok (.aload_n 0, 1) ∧ 55 + 1 = 56 := ⟨by decide +kernel, rfl⟩
theorem zd_B_step_56 : decode zb_B_step 56 = .ok (.iload_n 2, 1) ∧ 56 + 1 = 57 := ⟨by decide +kernel, rfl⟩
theorem zd_B_step_57 : decode zb_B_step 57 = .ok (.invokevirtual 140, 3) ∧ 57 + 3 = 60 := ⟨by decide +kernel, rfl⟩
theorem zd_B_step_60 : decode zb_B_step 60 = .ok (.aload_n 0, 1) ∧ 60 + 1 = 61 := ⟨by decide +kernel, rfl⟩
theorem zd_B_step_61 : decode zb_B_step 61 = .ok (.getfield 73, 3) ∧ 61 + 3 = 64 := ⟨by decide +kernel, rfl⟩
theorem zd_B_step_64 : decode zb_B_step 64 = .ok (.ireturn, 1) ∧ 64 + 1 = 65 := ⟨by decide +kernel, rfl⟩
theorem zd_B_round_0 : decode zb_B_round 0 = .ok (.aload_n 0, 1) ∧ 0 + 1 = 1 := ⟨by decide +kernel, rfl⟩
theorem zd_B_round_1 : decode zb_B_round 1 = .ok (.getfield 30, 3) ∧ 1 + 3 = 4 := ⟨by decide +kernel, rfl⟩
theorem zd_B_round_4 : decode zb_B_round 4 = .ok (.invokevirtual 163, 3) ∧ 4 + 3 = 7 := ⟨by decide +kernel, rfl⟩
theorem zd_B_round_7 : decode zb_B_round 7 = .ok (.aload_n 0, 1) ∧ 7 + 1 = 8 := ⟨by decide +kernel, rfl⟩
theorem zd_B_round_8 : decode zb_B_round 8 = .ok (.getfield 30, 3) ∧ 8 + 3 = 11 := ⟨by decide +kernel, rfl⟩
theorem zd_B_round_11 : decode zb_B_round 11 = .ok (.aload_n 0, 1) ∧ 11 + 1 = 12 := ⟨by decide +kernel, rfl⟩
theorem zd_B_round_12 : decode zb_B_round 12 = .ok (.getfield 23, 3) ∧ 12 + 3 = 15 := ⟨by decide +kernel, rfl⟩
theorem zd_B_round_15 : decode zb_B_round 15 = .ok (.aload_n 0, 1) ∧ 15 + 1 = 16 := ⟨by decide +kernel, rfl⟩
theorem zd_B_round_16 : decode zb_B_round 16 = .ok (.getfield 70, 3) ∧ 16 + 3 = 19 := ⟨by decide +kernel, rfl⟩
theorem zd_B_round_19 : decode zb_B_round 19 = .ok (.aload_n 0, 1) ∧ 19 + 1 = 20 := ⟨by decide +kernel, rfl⟩
theorem zd_B_round_20 : decode zb_B_round 20 = .ok (.getfield 73, 3) ∧ 20 + 3 = 23 := ⟨by decide +kernel, rfl⟩
theorem zd_B_round_23 : decode zb_B_round 23 = .ok (.invokevirtual 170, 3) ∧ 23 + 3 = 26 := ⟨by decide +kernel, rfl⟩
theorem zd_B_round_26 : decode zb_B_round 26 = .ok (.iload_n 1, 1) ∧ 26 + 1 = 27 := ⟨by decide +kernel, rfl⟩
theorem zd_B_round_27 : decode zb_B_round 27 = .ok (.tableswitch 69 0 3 #[29, 37, 45, 61], 29) ∧ 27 + 29 = 56 := ⟨by decide +kernel, rfl⟩
theorem zd_B_round_56 : decode zb_B_round 56 = .ok (.aload_n 0, 1) ∧ 56 + 1 = 57 := ⟨by decide +kernel, rfl⟩
theorem zd_B_round_57 : decode zb_B_round 57 = .ok (.getfield 30, 3) ∧ 57 + 3 = 60 := ⟨by decide +kernel, rfl⟩
theorem zd_B_round_60 : decode zb_B_round 60 = .ok (.getfield 174, 3) ∧ 60 + 3 = 63 := ⟨by decide +kernel, rfl⟩
theorem zd_B_round_63 : decode zb_B_round 63 = .ok (.ireturn, 1) ∧ 63 + 1 = 64 := ⟨by decide +kernel, rfl⟩
theorem zd_B_round_64 : decode zb_B_round 64 = .ok (.aload_n 0, 1) ∧ 64 + 1 = 65 := ⟨by decide +kernel, rfl⟩
theorem zd_B_round_65 : decode zb_B_round 65 = .ok (.getfield 30, 3) ∧ 65 + 3 = 68 := ⟨by decide +kernel, rfl⟩
theorem zd_B_round_68 : decode zb_B_round 68 = .ok (.invokevirtual 177, 3) ∧ 68 + 3 = 71 := ⟨by decide +kernel, rfl⟩
theorem zd_B_round_71 : decode zb_B_round 71 = .ok (.ireturn, 1) ∧ 71 + 1 = 72 := ⟨by decide +kernel, rfl⟩
theorem zd_B_round_72 : decode zb_B_round 72 = .ok (.aload_n 0, 1) ∧ 72 + 1 = 73 := ⟨by decide +kernel, rfl⟩
theorem zd_B_round_73 : decode zb_B_round 73 = .ok (.getfield 30, 3) ∧ 73 + 3 = 76 := ⟨by decide +kernel, rfl⟩
theorem zd_B_round_76 : decode zb_B_round 76 = .ok (.getfield 180, 3) ∧ 76 + 3 = 79 := ⟨by decide +kernel, rfl⟩
theorem zd_B_round_79 : decode zb_B_round 79 = .ok (.aload_n 0, 1) ∧ 79 + 1 = 80 := ⟨by decide +kernel, rfl⟩
theorem zd_B_round_80 : decode zb_B_round 80 = .ok (.getfield 30, 3) ∧ 80 + 3 = 83 := ⟨by decide +kernel, rfl⟩
theorem zd_B_round_83 : decode zb_B_round 83 = .ok (.getfield 174, 3) ∧ 83 + 3 = 86 := ⟨by decide +kernel, rfl⟩
theorem zd_B_round_86 : decode zb_B_round 86 = .ok (.iaload, 1) ∧ 86 + 1 = 87 := ⟨by decide +kernel, rfl⟩
theorem zd_B_round_87 : decode zb_B_round 87 = .ok (.ireturn, 1) ∧ 87 + 1 = 88 := ⟨by decide +kernel, rfl⟩
theorem zd_B_round_88 : decode zb_B_round 88 = .ok (.aload_n 0, 1) ∧ 88 + 1 = 89 := ⟨by decide +kernel, rfl⟩
theorem zd_B_round_89 : decode zb_B_round 89 = .ok (.getfield 30, 3) ∧ 89 + 3 = 92 := ⟨by decide +kernel, rfl⟩
theorem zd_B_round_92 : decode zb_B_round 92 = .ok (.invokevirtual 183, 3) ∧ 92 + 3 = 95 := ⟨by decide +kernel, rfl⟩
theorem zd_B_round_95 : decode zb_B_round 95 = .ok (.ireturn, 1) ∧ 95 + 1 = 96 := ⟨by decide +kernel, rfl⟩
theorem zd_B_round_96 : decode zb_B_round 96 = .ok (.iconst (-1), 1) ∧ 96 + 1 = 97 := ⟨by decide +kernel, rfl⟩
theorem zd_B_round_97 : decode zb_B_round 97 = .ok (.ireturn, 1) ∧ 97 + 1 = 98 := ⟨by decide +kernel, rfl⟩
theorem zd_B_rests_0 : decode zb_B_rests 0 = .ok (.aload_n 0, 1) ∧ 0 + 1 = 1 := ⟨by decide +kernel, rfl⟩
theorem zd_B_rests_1 : decode zb_B_rests 1 = .ok (.getfield 30, 3) ∧ 1 + 3 = 4 := ⟨by decide +kernel, rfl⟩
theorem zd_B_rests_4 : decode zb_B_rests 4 = .ok (.invokevirtual 163, 3) ∧ 4 + 3 = 7 := ⟨by decide +kernel, rfl⟩
theorem zd_B_rests_7 : decode zb_B_rests 7 = .ok (.iconst 0, 1) ∧ 7 + 1 = 8 := ⟨by decide +kernel, rfl⟩
theorem zd_B_rests_8 : decode zb_B_rests 8 = .ok (.istore_n 2, 1) ∧ 8 + 1 = 9 := ⟨by decide +kernel, rfl⟩
theorem zd_B_rests_9 : decode zb_B_rests 9 = .ok (.iconst 0, 1) ∧ 9 + 1 = 10 := ⟨by decide +kernel, rfl⟩
theorem zd_B_rests_10 : decode zb_B_rests 10 = .ok (.istore_n 3, 1) ∧ 10 + 1 = 11 := ⟨by decide +kernel, rfl⟩
theorem zd_B_rests_11 : decode zb_B_rests 11 = .ok (.iload_n 3, 1) ∧ 11 + 1 = 12 := ⟨by decide +kernel, rfl⟩
theorem zd_B_rests_12 : decode zb_B_rests 12 = .ok (.aload_n 0, 1) ∧ 12 + 1 = 13 := ⟨by decide +kernel, rfl⟩
theorem zd_B_rests_13 : decode zb_B_rests 13 = .ok (.invokevirtual 186, 3) ∧ 13 + 3 = 16 := ⟨by decide +kernel, rfl⟩
theorem zd_B_rests_16 : decode zb_B_rests 16 = .ok (.if_icmp .ge 39, 3) ∧ ((16 : Nat) : Int) + (39) = ((55 : Nat) : Int) ∧ 16 + 3 = 19 := ⟨by decide +kernel, by decide, rfl⟩
theorem zd_B_rests_19 : decode zb_B_rests 19 = .ok (.aload_n 0, 1) ∧ 19 + 1 = 20 := ⟨by decide +kernel, rfl⟩
theorem zd_B_rests_20 : decode zb_B_rests 20 = .ok (.getfield 30, 3) ∧ 20 + 3 = 23 := ⟨by decide +kernel, rfl⟩
theorem zd_B_rests_23 : decode zb_B_rests 23 = .ok (.aload_n 0, 1) ∧ 23 + 1 = 24 := ⟨by decide +kernel, rfl⟩
theorem zd_B_rests_24 : decode zb_B_rests 24 = .ok (.getfield 23, 3) ∧ 24 + 3 = 27 := ⟨by decide +kernel, rfl⟩
theorem zd_B_rests_27 : decode zb_B_rests 27 = .ok (.aload_n 0, 1) ∧ 27 + 1 = 28 := ⟨by decide +kernel, rfl⟩
theorem zd_B_rests_28 : decode zb_B_rests 28 = .ok (.getfield 70, 3) ∧ 28 + 3 = 31 := ⟨by decide +kernel, rfl⟩
theorem zd_B_rests_31 : decode zb_B_rests 31 = .ok (.iload_n 3, 1) ∧ 31 + 1 = 32 := ⟨by decide +kernel, rfl⟩
theorem zd_B_rests_32 : decode zb_B_rests 32 = .ok (.invokevirtual 166, 3) ∧ 32 + 3 = 35 := ⟨by decide +kernel, rfl⟩
theorem zd_B_rests_35 : decode zb_B_rests 35 = .ok (.iload_n 3, 1) ∧ 35 + 1 = 36 := ⟨by decide +kernel, rfl⟩
theorem zd_B_rests_36 : decode zb_B_rests 36 = .ok (.if_icmp .ne 13, 3) ∧ ((36 : Nat) : Int) + (13) = ((49 : Nat) : Int) ∧ 36 + 3 = 39 := ⟨by decide +kernel, by decide, rfl⟩
theorem zd_B_rests_39 : decode zb_B_rests 39 = .ok (.iload_n 2, 1) ∧ 39 + 1 = 40 := ⟨by decide +kernel, rfl⟩
theorem zd_B_rests_40 : decode zb_B_rests 40 = .ok (.iload_n 1, 1) ∧ 40 + 1 = 41 := ⟨by decide +kernel, rfl⟩
theorem zd_B_rests_41 : decode zb_B_rests 41 = .ok (.if_icmp .ne 5, 3) ∧ ((41 : Nat) : Int) + (5) = ((46 : Nat) : Int) ∧ 41 + 3 = 44 := ⟨by decide +kernel, by decide, rfl⟩
theorem zd_B_rests_44 : decode zb_B_rests 44 = .ok (.iload_n 3, 1) ∧ 44 + 1 = 45 := ⟨by decide +kernel, rfl⟩
theorem zd_B_rests_45 : decode zb_B_rests 45 = .ok (.ireturn, 1) ∧ 45 + 1 = 46 := ⟨by decide +kernel, rfl⟩
theorem zd_B_rests_46 : decode zb_B_rests 46 = .ok (.iinc 2 1, 3) ∧ 46 + 3 = 49 := ⟨by decide +kernel, rfl⟩
theorem zd_B_rests_49 : decode zb_B_rests 49 = .ok (.iinc 3 1, 3) ∧ 49 + 3 = 52 := ⟨by decide +kernel, rfl⟩
theorem zd_B_rests_52 : decode zb_B_rests 52 = .ok (.goto (-41), 3) ∧ ((52 : Nat) : Int) + (-41) = ((11 : Nat) : Int) ∧ 52 + 3 = 55 := ⟨by decide +kernel, by decide, rfl⟩
theorem zd_B_rests_55 : decode zb_B_rests 55 = .ok (.iload_n 1, 1) ∧ 55 + 1 = 56 := ⟨by decide +kernel, rfl⟩
theorem zd_B_rests_56 : decode zb_B_rests 56 = .ok (.iconst (-1), 1) ∧ 56 + 1 = 57 := ⟨by decide +kernel, rfl⟩
theorem zd_B_rests_57 : decode zb_B_rests 57 = .ok (.if_icmp .ne 7, 3) ∧ ((57 : Nat) : Int) + (7) = ((64 : Nat) : Int) ∧ 57 + 3 = 60 := ⟨by decide +kernel, by decide, rfl⟩
theorem zd_B_rests_60 : decode zb_B_rests 60 = .ok (.iload_n 2, 1) ∧ 60 + 1 = 61 := ⟨by decide +kernel, rfl⟩
theorem zd_B_rests_61 : decode zb_B_rests 61 = .ok (.goto 4, 3) ∧ ((61 : Nat) : Int) + (4) = ((65 : Nat) : Int) ∧ 61 + 3 = 64 := ⟨by decide +kernel, by decide, rfl⟩
theorem zd_B_rests_64 : decode zb_B_rests 64 = .ok (.iconst (-1), 1) ∧ 64 + 1 = 65 := ⟨by decide +kernel, rfl⟩
theorem zd_B_rests_65 : decode zb_B_rests 65 = .ok (.ireturn, 1) ∧ 65 + 1 = 66 := ⟨by decide +kernel, rfl⟩
theorem zd_B_drawn_0 : decode zb_B_drawn 0 = .ok (.aload_n 0, 1) ∧ 0 + 1 = 1 := ⟨by decide +kernel, rfl⟩
theorem zd_B_drawn_1 : decode zb_B_drawn 1 = .ok (.iload_n 1, 1) ∧ 1 + 1 = 2 := ⟨by decide +kernel, rfl⟩
theorem zd_B_drawn_2 : decode zb_B_drawn 2 = .ok (.invokevirtual 136, 3) ∧ 2 + 3 = 5 := ⟨by decide +kernel, rfl⟩
theorem zd_B_drawn_5 : decode zb_B_drawn 5 = .ok (.ifCond .ne 5, 3) ∧ ((5 : Nat) : Int) + (5) = ((10 : Nat) : Int) ∧ 5 + 3 = 8 := ⟨by decide +kernel, by decide, rfl⟩
theorem zd_B_drawn_8 : decode zb_B_drawn 8 = .ok (.iconst (-1), 1) ∧ 8 + 1 = 9 := ⟨by decide +kernel, rfl⟩
theorem zd_B_drawn_9 : decode zb_B_drawn 9 = .ok (.ireturn, 1) ∧ 9 + 1 = 10 := ⟨by decide +kernel, rfl⟩
theorem zd_B_drawn_10 : decode zb_B_drawn 10 = .ok (.aload_n 0, 1) ∧ 10 + 1 = 11 := ⟨by decide +kernel, rfl⟩
theorem zd_B_drawn_11 : decode zb_B_drawn 11 = .ok (.getfield 30, 3) ∧ 11 + 3 = 14 := ⟨by decide +kernel, rfl⟩
theorem zd_B_drawn_14 : decode zb_B_drawn 14 = .ok (.invokevirtual 163, 3) ∧ 14 + 3 = 17 := ⟨by decide +kernel, rfl⟩
theorem zd_B_drawn_17 : decode zb_B_drawn 17 = .ok (.iconst 0, 1) ∧ 17 + 1 = 18 := ⟨by decide +kernel, rfl⟩
theorem zd_B_drawn_18 : decode zb_B_drawn 18 = .ok (.istore_n 2, 1) ∧ 18 + 1 = 19 := ⟨by decide +kernel, rfl⟩
theorem zd_B_drawn_19 : decode zb_B_drawn 19 = .ok (.iconst 0, 1) ∧ 19 + 1 = 20 := ⟨by decide +kernel, rfl⟩
theorem zd_B_drawn_20 : decode zb_B_drawn 20 = .ok (.istore_n 3, 1) ∧ 20 + 1 = 21 := ⟨by decide +kernel, rfl⟩
theorem zd_B_drawn_21 : decode zb_B_drawn 21 = .ok (.iload_n 3, 1) ∧ 21 + 1 = 22 := ⟨by decide +kernel, rfl⟩
theorem zd_B_drawn_22 : decode zb_B_drawn 22 = .ok (.aload_n 0, 1) ∧ 22 + 1 = 23 := ⟨by decide +kernel, rfl⟩
theorem zd_B_drawn_23 : decode zb_B_drawn 23 = .ok (.invokevirtual 186, 3) ∧ 23 + 3 = 26 := ⟨by decide +kernel, rfl⟩
theorem zd_B_drawn_26 : decode zb_B_drawn 26 = .ok (.if_icmp .ge 39, 3) ∧ ((26 : Nat) : Int) + (39) = ((65 : Nat) : Int) ∧ 26 + 3 = 29 := ⟨by decide +kernel, by decide, rfl⟩
theorem zd_B_drawn_29 : decode zb_B_drawn 29 = .ok (.aload_n 0, 1) ∧ 29 + 1 = 30 := ⟨by decide +kernel, rfl⟩
theorem zd_B_drawn_30 : decode zb_B_drawn 30 = .ok (.getfield 30, 3) ∧ 30 + 3 = 33 := ⟨by decide +kernel, rfl⟩
theorem zd_B_drawn_33 : decode zb_B_drawn 33 = .ok (.aload_n 0, 1) ∧ 33 + 1 = 34 := ⟨by decide +kernel, rfl⟩
theorem zd_B_drawn_34 : decode zb_B_drawn 34 = .ok (.getfield 23, 3) ∧ 34 + 3 = 37 := ⟨by decide +kernel, rfl⟩
theorem zd_B_drawn_37 : decode zb_B_drawn 37 = .ok (.aload_n 0, 1) ∧ 37 + 1 = 38 := ⟨by decide +kernel, rfl⟩
theorem zd_B_drawn_38 : decode zb_B_drawn 38 = .ok (.getfield 70, 3) ∧ 38 + 3 = 41 := ⟨by decide +kernel, rfl⟩
theorem zd_B_drawn_41 : decode zb_B_drawn 41 = .ok (.iload_n 3, 1) ∧ 41 + 1 = 42 := ⟨by decide +kernel, rfl⟩
theorem zd_B_drawn_42 : decode zb_B_drawn 42 = .ok (.invokevirtual 170, 3) ∧ 42 + 3 = 45 := ⟨by decide +kernel, rfl⟩
theorem zd_B_drawn_45 : decode zb_B_drawn 45 = .ok (.aload_n 0, 1) ∧ 45 + 1 = 46 := ⟨by decide +kernel, rfl⟩
theorem zd_B_drawn_46 : decode zb_B_drawn 46 = .ok (.getfield 30, 3) ∧ 46 + 3 = 49 := ⟨by decide +kernel, rfl⟩
theorem zd_B_drawn_49 : decode zb_B_drawn 49 = .ok (.iload_n 1, 1) ∧ 49 + 1 = 50 := ⟨by decide +kernel, rfl⟩
theorem zd_B_drawn_50 : decode zb_B_drawn 50 = .ok (.invokevirtual 189, 3) ∧ 50 + 3 = 53 := ⟨by decide +kernel, rfl⟩
theorem zd_B_drawn_53 : decode zb_B_drawn 53 = .ok (.ifCond .eq 6, 3) ∧ ((53 : Nat) : Int) + (6) = ((59 : Nat) : Int) ∧ 53 + 3 = 56 := ⟨by decide +kernel, by decide, rfl⟩
theorem zd_B_drawn_56 : decode zb_B_drawn 56 = .ok (.iinc 2 1, 3) ∧ 56 + 3 = 59 := ⟨by decide +kernel, rfl⟩
theorem zd_B_drawn_59 : decode zb_B_drawn 59 = .ok (.iinc 3 1, 3) ∧ 59 + 3 = 62 := ⟨by decide +kernel, rfl⟩
theorem zd_B_drawn_62 : decode zb_B_drawn 62 = .ok (.goto (-41), 3) ∧ ((62 : Nat) : Int) + (-41) = ((21 : Nat) : Int) ∧ 62 + 3 = 65 := ⟨by decide +kernel, by decide, rfl⟩
theorem zd_B_drawn_65 : decode zb_B_drawn 65 = .ok (.iload_n 2, 1) ∧ 65 + 1 = 66 := ⟨by decide +kernel, rfl⟩
theorem zd_B_drawn_66 : decode zb_B_drawn 66 = .ok (.ireturn, 1) ∧ 66 + 1 = 67 := ⟨by decide +kernel, rfl⟩
theorem zd_B_wish_0 : decode zb_B_wish 0 = .ok (.aload_n 0, 1) ∧ 0 + 1 = 1 := ⟨by decide +kernel, rfl⟩
theorem zd_B_wish_1 : decode zb_B_wish 1 = .ok (.iload_n 1, 1) ∧ 1 + 1 = 2 := ⟨by decide +kernel, rfl⟩
theorem zd_B_wish_2 : decode zb_B_wish 2 = .ok (.iconst 3, 1) ∧ 2 + 1 = 3 := ⟨by decide +kernel, rfl⟩
theorem zd_B_wish_3 : decode zb_B_wish 3 = .ok (.invokevirtual 102, 3) ∧ 3 + 3 = 6 := ⟨by decide +kernel, rfl⟩
theorem zd_B_wish_6 : decode zb_B_wish 6 = .ok (.ifCond .eq 12, 3) ∧ ((6 : Nat) : Int) + (12) = ((18 : Nat) : Int) ∧ 6 + 3 = 9 := ⟨by decide +kernel, by decide, rfl⟩
theorem zd_B_wish_9 : decode zb_B_wish 9 = .ok (.iload_n 2, 1) ∧ 9 + 1 = 10 := ⟨by decide +kernel, rfl⟩
theorem zd_B_wish_10 : decode zb_B_wish 10 = .ok (.ifCond .lt 8, 3) ∧ ((10 : Nat) : Int) + (8) = ((18 : Nat) : Int) ∧ 10 + 3 = 13 := ⟨by decide +kernel, by decide, rfl⟩
theorem zd_B_wish_13 : decode zb_B_wish 13 = .ok (.iload_n 2, 1) ∧ 13 + 1 = 14 := ⟨by decide +kernel, rfl⟩
theorem zd_B_wish_14 : decode zb_B_wish 14 = .ok (.iconst 2, 1) ∧ 14 + 1 = 15 := ⟨by decide +kernel, rfl⟩
theorem zd_B_wish_15 : decode zb_B_wish 15 = .ok (.if_icmp .le 5, 3) ∧ ((15 : Nat) : Int) + (5) = ((20 : Nat) : Int) ∧ 15 + 3 = 18 := ⟨by decide +kernel, by decide, rfl⟩
theorem zd_B_wish_18 : decode zb_B_wish 18 = .ok (.iconst 0, 1) ∧ 18 + 1 = 19 := ⟨by decide +kernel, rfl⟩
theorem zd_B_wish_19 : decode zb_B_wish 19 = .ok (.ireturn, 1) ∧ 19 + 1 = 20 := ⟨by decide +kernel, rfl⟩
theorem zd_B_wish_20 : decode zb_B_wish 20 = .ok (.aload_n 0, 1) ∧ 20 + 1 = 21 := ⟨by decide +kernel, rfl⟩
theorem zd_B_wish_21 : decode zb_B_wish 21 = .ok (.dup, 1) ∧ 21 + 1 = 22 := ⟨by decide +kernel, rfl⟩
theorem zd_B_wish_22 : decode zb_B_wish 22 = .ok (.getfield 76, 3) ∧ 22 + 3 = 25 := ⟨by decide +kernel, rfl⟩
theorem zd_B_wish_25 : decode zb_B_wish 25 = .ok (.iconst 1, 1) ∧ 25 + 1 = 26 := ⟨by decide +kernel, rfl⟩
theorem zd_B_wish_26 : decode zb_B_wish 26 = .ok (.iload_n 1, 1) ∧ 26 + 1 = 27 := ⟨by decide +kernel, rfl⟩
theorem zd_B_wish_27 : decode zb_B_wish 27 = .ok (.ishl, 1) ∧ 27 + 1 = 28 := ⟨by decide +kernel, rfl⟩
theorem zd_B_wish_28 : decode zb_B_wish 28 = .ok (.iconst (-1), 1) ∧ 28 + 1 = 29 := ⟨by decide +kernel, rfl⟩
theorem zd_B_wish_29 : decode zb_B_wish 29 = .ok (.ixor, 1) ∧ 29 + 1 = 30 := ⟨by decide +kernel, rfl⟩
theorem zd_B_wish_30 : decode zb_B_wish 30 = .ok (.iand, 1) ∧ 30 + 1 = 31 := ⟨by decide +kernel, rfl⟩
theorem zd_B_wish_31 : decode zb_B_wish 31 = .ok (.putfield 76, 3) ∧ 31 + 3 = 34 := ⟨by decide +kernel, rfl⟩
theorem zd_B_wish_34 : decode zb_B_wish 34 = .ok (.aload_n 0, 1) ∧ 34 + 1 = 35 := ⟨by decide +kernel, rfl⟩
theorem zd_B_wish_35 : decode zb_B_wish 35 = .ok (.dup, 1) ∧ 35 + 1 = 36 := ⟨by decide +kernel, rfl⟩
theorem zd_B_wish_36 : decode zb_B_wish 36 = .ok (.getfield 79, 3) ∧ 36 + 3 = 39 := ⟨by decide +kernel, rfl⟩
theorem zd_B_wish_39 : decode zb_B_wish 39 = .ok (.iconst 1, 1) ∧ 39 + 1 = 40 := ⟨by decide +kernel, rfl⟩
theorem zd_B_wish_40 : decode zb_B_wish 40 = .ok (.iload_n 1, 1) ∧ 40 + 1 = 41 := ⟨by decide +kernel, rfl⟩
theorem zd_B_wish_41 : decode zb_B_wish 41 = .ok (.ishl, 1) ∧ 41 + 1 = 42 := ⟨by decide +kernel, rfl⟩
theorem zd_B_wish_42 : decode zb_B_wish 42 = .ok (.iconst (-1), 1) ∧ 42 + 1 = 43 := ⟨by decide +kernel, rfl⟩
theorem zd_B_wish_43 : decode zb_B_wish 43 = .ok (.ixor, 1) ∧ 43 + 1 = 44 := ⟨by decide +kernel, rfl⟩
theorem zd_B_wish_44 : decode zb_B_wish 44 = .ok (.iand, 1) ∧ 44 + 1 = 45 := ⟨by decide +kernel, rfl⟩
theorem zd_B_wish_45 : decode zb_B_wish 45 = .ok (.putfield 79, 3) ∧ 45 + 3 = 48 := ⟨by decide +kernel, rfl⟩
theorem zd_B_wish_48 : decode zb_B_wish 48 = .ok (.iload_n 2, 1) ∧ 48 + 1 = 49 := ⟨by decide +kernel, rfl⟩
theorem zd_B_wish_49 : decode zb_B_wish 49 = .ok (.iconst 1, 1) ∧ 49 + 1 = 50 := ⟨by decide +kernel, rfl⟩
theorem zd_B_wish_50 : decode zb_B_wish 50 = .ok (.if_icmp .ne 18, 3) ∧ ((50 : Nat) : Int) + (18) = ((68 : Nat) : Int) ∧ 50 + 3 = 53 := ⟨by decide +kernel, by decide, rfl⟩
theorem zd_B_wish_53 : decode zb_B_wish 53 = .ok (.aload_n 0, 1) ∧ 53 + 1 = 54 := ⟨by decide +kernel, rfl⟩
theorem zd_B_wish_54 : decode zb_B_wish 54 = .ok (.dup, 1) ∧ 54 + 1 = 55 := ⟨by decide +kernel, rfl⟩
theorem zd_B_wish_55 : decode zb_B_wish 55 = .ok (.getfield 76, 3) ∧ 55 + 3 = 58 := ⟨by decide +kernel, rfl⟩
theorem zd_B_wish_58 : decode zb_B_wish 58 = .ok (.iconst 1, 1) ∧ 58 + 1 = 59 := ⟨by decide +kernel, rfl⟩
theorem zd_B_wish_59 : decode zb_B_wish 59 = .ok (.iload_n 1, 1) ∧ 59 + 1 = 60 := ⟨by decide +kernel, rfl⟩
theorem zd_B_wish_60 : decode zb_B_wish 60 = .ok (.ishl, 1) ∧ 60 + 1 = 61 := ⟨by decide +kernel, rfl⟩
theorem zd_B_wish_61 : decode zb_B_wish 61 = .ok (.ior, 1) ∧ 61 + 1 = 62 := ⟨by decide +kernel, rfl⟩
theorem zd_B_wish_62 : decode zb_B_wish 62 = .ok (.putfield 76, 3) ∧ 62 + 3 = 65 := ⟨by decide +kernel, rfl⟩
theorem zd_B_wish_65 : decode zb_B_wish 65 = .ok (.goto 20, 3) ∧ ((65 : Nat) : Int) + (20) = ((85 : Nat) : Int) ∧ 65 + 3 = 68 := ⟨by decide +kernel, by decide, rfl⟩
theorem zd_B_wish_68 : decode zb_B_wish 68 = .ok (.iload_n 2, 1) ∧ 68 + 1 = 69 := ⟨by decide +kernel, rfl⟩
theorem zd_B_wish_69 : decode zb_B_wish 69 = .ok (.iconst 2, 1) ∧ 69 + 1 = 70 := ⟨by decide +kernel, rfl⟩
theorem zd_B_wish_70 : decode zb_B_wish 70 = .ok (.if_icmp .ne 15, 3) ∧ ((70 : Nat) : Int) + (15) = ((85 : Nat) : Int) ∧ 70 + 3 = 73 := ⟨by decide +kernel, by decide, rfl⟩
theorem zd_B_wish_73 : decode zb_B_wish 73 = .ok (.aload_n 0, 1) ∧ 73 + 1 = 74 := ⟨by decide +kernel, rfl⟩
theorem zd_B_wish_74 : decode zb_B_wish 74 = .ok (.dup, 1) ∧ 74 + 1 = 75 := ⟨by decide +kernel, rfl⟩
theorem zd_B_wish_75 : decode zb_B_wish 75 = .ok (.getfield 79, 3) ∧ 75 + 3 = 78 := ⟨by decide +kernel, rfl⟩
theorem zd_B_wish_78 : decode zb_B_wish 78 = .ok (.iconst 1, 1) ∧ 78 + 1 = 79 := ⟨by decide +kernel, rfl⟩
theorem zd_B_wish_79 : decode zb_B_wish 79 = .ok (.iload_n 1, 1) ∧ 79 + 1 = 80 := ⟨by decide +kernel, rfl⟩
theorem zd_B_wish_80 : decode zb_B_wish 80 = .ok (.ishl, 1) ∧ 80 + 1 = 81 := ⟨by decide +kernel, rfl⟩
theorem zd_B_wish_81 : decode zb_B_wish 81 = .ok (.ior, 1) ∧ 81 + 1 = 82 := ⟨by decide +kernel, rfl⟩
theorem zd_B_wish_82 : decode zb_B_wish 82 = .ok (.putfield 79, 3) ∧ 82 + 3 = 85 := ⟨by decide +kernel, rfl⟩
theorem zd_B_wish_85 : decode zb_B_wish 85 = .ok (.iconst 1, 1) ∧ 85 + 1 = 86 := ⟨by decide +kernel, rfl⟩
theorem zd_B_wish_86 : decode zb_B_wish 86 = .ok (.ireturn, 1) ∧ 86 + 1 = 87 := ⟨by decide +kernel, rfl⟩
theorem zd_B_met_0 : decode zb_B_met 0 = .ok (.aload_n 0, 1) ∧ 0 + 1 = 1 := ⟨by decide +kernel, rfl⟩
theorem zd_B_met_1 : decode zb_B_met 1 = .ok (.aload_n 0, 1) ∧ 1 + 1 = 2 := ⟨by decide +kernel, rfl⟩
theorem zd_B_met_2 : decode zb_B_met 2 = .ok (.getfield 70, 3) ∧ 2 + 3 = 5 := ⟨by decide +kernel, rfl⟩
theorem zd_B_met_5 : decode zb_B_met 5 = .ok (.invokevirtual 192, 3) ∧ 5 + 3 = 8 := ⟨by decide +kernel, rfl⟩
theorem zd_B_met_8 : decode zb_B_met 8 = .ok (.ifCond .eq 7, 3) ∧ ((8 : Nat) : Int) + (7) = ((15 : Nat) : Int) ∧ 8 + 3 = 11 := ⟨by decide +kernel, by decide, rfl⟩
theorem zd_B_met_11 : decode zb_B_met 11 = .ok (.iconst 1, 1) ∧ 11 + 1 = 12 := ⟨by decide +kernel, rfl⟩
theorem zd_B_met_12 : decode zb_B_met 12 = .ok (.goto 4, 3) ∧ ((12 : Nat) : Int) + (4) = ((16 : Nat) : Int) ∧ 12 + 3 = 15 := ⟨by decide +kernel, by decide, rfl⟩
theorem zd_B_met_15 : decode zb_B_met 15 = .ok (.iconst 0, 1) ∧ 15 + 1 = 16 := ⟨by decide +kernel, rfl⟩
theorem zd_B_met_16 : decode zb_B_met 16 = .ok (.ireturn, 1) ∧ 16 + 1 = 17 := ⟨by decide +kernel, rfl⟩
theorem zd_B_fewest_0 : decode zb_B_fewest 0 = .ok (.iconst 1, 1) ∧ 0 + 1 = 1 := ⟨by decide +kernel, rfl⟩
theorem zd_B_fewest_1 : decode zb_B_fewest 1 = .ok (.aload_n 0, 1) ∧ 1 + 1 = 2 := ⟨by decide +kernel, rfl⟩
theorem zd_B_fewest_2 : decode zb_B_fewest 2 = .ok (.getfield 23, 3) ∧ 2 + 3 = 5 := ⟨by decide +kernel, rfl⟩
theorem zd_B_fewest_5 : decode zb_B_fewest 5 = .ok (.getfield 97, 3) ∧ 5 + 3 = 8 := ⟨by decide +kernel, rfl⟩
theorem zd_B_fewest_8 : decode zb_B_fewest 8 = .ok (.iconst 1, 1) ∧ 8 + 1 = 9 := ⟨by decide +kernel, rfl⟩
theorem zd_B_fewest_9 : decode zb_B_fewest 9 = .ok (.iaload, 1) ∧ 9 + 1 = 10 := ⟨by decide +kernel, rfl⟩
theorem zd_B_fewest_10 : decode zb_B_fewest 10 = .ok (.ishl, 1) ∧ 10 + 1 = 11 := ⟨by decide +kernel, rfl⟩
theorem zd_B_fewest_11 : decode zb_B_fewest 11 = .ok (.istore_n 2, 1) ∧ 11 + 1 = 12 := ⟨by decide +kernel, rfl⟩
theorem zd_B_fewest_12 : decode zb_B_fewest 12 = .ok (.iconst 0, 1) ∧ 12 + 1 = 13 := ⟨by decide +kernel, rfl⟩
theorem zd_B_fewest_13 : decode zb_B_fewest 13 = .ok (.istore_n 3, 1) ∧ 13 + 1 = 14 := ⟨by decide +kernel, rfl⟩
theorem zd_B_fewest_14 : decode zb_B_fewest 14 = .ok (.iload_n 3, 1) ∧ 14 + 1 = 15 := ⟨by decide +kernel, rfl⟩
theorem zd_B_fewest_15 : decode zb_B_fewest 15 = .ok (.aload_n 0, 1) ∧ 15 + 1 = 16 := ⟨by decide +kernel, rfl⟩
theorem zd_B_fewest_16 : decode zb_B_fewest 16 = .ok (.getfield 23, 3) ∧ 16 + 3 = 19 := ⟨by decide +kernel, rfl⟩
theorem zd_B_fewest_19 : decode zb_B_fewest 19 = .ok (.getfield 97, 3) ∧ 19 + 3 = 22 := ⟨by decide +kernel, rfl⟩
theorem zd_B_fewest_22 : decode zb_B_fewest 22 = .ok (.iconst 1, 1) ∧ 22 + 1 = 23 := ⟨by decide +kernel, rfl⟩
theorem zd_B_fewest_23 : decode zb_B_fewest 23 = .ok (.iaload, 1) ∧ 23 + 1 = 24 := ⟨by decide +kernel, rfl⟩
theorem zd_B_fewest_24 : decode zb_B_fewest 24 = .ok (.if_icmp .gt 58, 3) ∧ ((24 : Nat) : Int) + (58) = ((82 : Nat) : Int) ∧ 24 + 3 = 27 := ⟨by decide +kernel, by decide, rfl⟩
theorem zd_B_fewest_27 : decode zb_B_fewest 27 = .ok (.iconst 0, 1) ∧ 27 + 1 = 28 := ⟨by decide +kernel, rfl⟩
theorem zd_B_fewest_28 : decode zb_B_fewest 28 = .ok (.istore 4, 2) ∧ 28 + 2 = 30 := ⟨by decide +kernel, rfl⟩
theorem zd_B_fewest_30 : decode zb_B_fewest 30 = .ok (.iload 4, 2) ∧ 30 + 2 = 32 := ⟨by decide +kernel, rfl⟩
theorem zd_B_fewest_32 : decode zb_B_fewest 32 = .ok (.iload_n 2, 1) ∧ 32 + 1 = 33 := ⟨by decide +kernel, rfl⟩
theorem zd_B_fewest_33 : decode zb_B_fewest 33 = .ok (.if_icmp .ge 43, 3) ∧ ((33 : Nat) : Int) + (43) = ((76 : Nat) : Int) ∧ 33 + 3 = 36 := ⟨by decide +kernel, by decide, rfl⟩
theorem zd_B_fewest_36 : decode zb_B_fewest 36 = .ok (.iload 4, 2) ∧ 36 + 2 = 38 := ⟨by decide +kernel, rfl⟩
theorem zd_B_fewest_38 : decode zb_B_fewest 38 = .ok (.invokestatic 130, 3) ∧ 38 + 3 = 41 := ⟨by decide +kernel, rfl⟩
theorem zd_B_fewest_41 : decode zb_B_fewest 41 = .ok (.iload_n 3, 1) ∧ 41 + 1 = 42 := ⟨by decide +kernel, rfl⟩
theorem zd_B_fewest_42 : decode zb_B_fewest 42 = .ok (.if_icmp .ne 28, 3) ∧ ((42 : Nat) : Int) + (28) = ((70 : Nat) : Int) ∧ 42 + 3 = 45 := ⟨by decide +kernel, by decide, rfl⟩
theorem zd_B_fewest_45 : decode zb_B_fewest 45 = .ok (.aload_n 0, 1) ∧ 45 + 1 = 46 := ⟨by decide +kernel, rfl⟩
theorem zd_B_fewest_46 : decode zb_B_fewest 46 = .ok (.aload_n 0, 1) ∧ 46 + 1 = 47 := ⟨by decide +kernel, rfl⟩
theorem zd_B_fewest_47 : decode zb_B_fewest 47 = .ok (.getfield 70, 3) ∧ 47 + 3 = 50 := ⟨by decide +kernel, rfl⟩
theorem zd_B_fewest_50 : decode zb_B_fewest 50 = .ok (.iload 4, 2) ∧ 50 + 2 = 52 := ⟨by decide +kernel, rfl⟩
theorem zd_B_fewest_52 : decode zb_B_fewest 52 = .ok (.ixor, 1) ∧ 52 + 1 = 53 := ⟨by decide +kernel, rfl⟩
theorem zd_B_fewest_53 : decode zb_B_fewest 53 = .ok (.invokevirtual 192, 3) ∧ 53 + 3 = 56 := ⟨by decide +kernel, rfl⟩
theorem zd_B_fewest_56 : decode zb_B_fewest 56 = .ok (.ifCond .eq 14, 3) ∧ ((56 : Nat) : Int) + (14) = ((70 : Nat) : Int) ∧ 56 + 3 = 59 := ⟨by decide +kernel, by decide, rfl⟩
theorem zd_B_fewest_59 : decode zb_B_fewest 59 = .ok (.iload_n 1, 1) ∧ 59 + 1 = 60 := ⟨by decide +kernel, rfl⟩
theorem zd_B_fewest_60 : decode zb_B_fewest 60 = .ok (.ifCond .eq 8, 3) ∧ ((60 : Nat) : Int) + (8) = ((68 : Nat) : Int) ∧ 60 + 3 = 63 := ⟨by decide +kernel, by decide, rfl⟩
theorem zd_B_fewest_63 : decode zb_B_fewest 63 = .ok (.iload 4, 2) ∧ 63 + 2 = 65 := ⟨by decide +kernel, rfl⟩
theorem zd_B_fewest_65 : decode zb_B_fewest 65 = .ok (.goto 4, 3) ∧ ((65 : Nat) : Int) + (4) = ((69 : Nat) : Int) ∧ 65 + 3 = 68 := ⟨by decide +kernel, by decide, rfl⟩
theorem zd_B_fewest_68 : decode zb_B_fewest 68 = .ok (.iload_n 3, 1) ∧ 68 + 1 = 69 := ⟨by decide +kernel, rfl⟩
theorem zd_B_fewest_69 : decode zb_B_fewest 69 = .ok (.ireturn, 1) ∧ 69 + 1 = 70 := ⟨by decide +kernel, rfl⟩
theorem zd_B_fewest_70 : decode zb_B_fewest 70 = .ok (.iinc 4 1, 3) ∧ 70 + 3 = 73 := ⟨by decide +kernel, rfl⟩
theorem zd_B_fewest_73 : decode zb_B_fewest 73 = .ok (.goto (-43), 3) ∧ ((73 : Nat) : Int) + (-43) = ((30 : Nat) : Int) ∧ 73 + 3 = 76 := ⟨by decide +kernel, by decide, rfl⟩
theorem zd_B_fewest_76 : decode zb_B_fewest 76 = .ok (.iinc 3 1, 3) ∧ 76 + 3 = 79 := ⟨by decide +kernel, rfl⟩
theorem zd_B_fewest_79 : decode zb_B_fewest 79 = .ok (.goto (-65), 3) ∧ ((79 : Nat) : Int) + (-65) = ((14 : Nat) : Int) ∧ 79 + 3 = 82 := ⟨by decide +kernel, by decide, rfl⟩
theorem zd_B_fewest_82 : decode zb_B_fewest 82 = .ok (.iconst (-1), 1) ∧ 82 + 1 = 83 := ⟨by decide +kernel, rfl⟩
theorem zd_B_fewest_83 : decode zb_B_fewest 83 = .ok (.ireturn, 1) ∧ 83 + 1 = 84 := ⟨by decide +kernel, rfl⟩
theorem zd_B_needed_0 : decode zb_B_needed 0 = .ok (.aload_n 0, 1) ∧ 0 + 1 = 1 := ⟨by decide +kernel, rfl⟩
theorem zd_B_needed_1 : decode zb_B_needed 1 = .ok (.getfield 23, 3) ∧ 1 + 3 = 4 := ⟨by decide +kernel, rfl⟩
theorem zd_B_needed_4 : decode zb_B_needed 4 = .ok (.iload_n 1, 1) ∧ 4 + 1 = 5 := ⟨by decide +kernel, rfl⟩
theorem zd_B_needed_5 : decode zb_B_needed 5 = .ok (.iload_n 2, 1) ∧ 5 + 1 = 6 := ⟨by decide +kernel, rfl⟩
theorem zd_B_needed_6 : decode zb_B_needed 6 = .ok (.invokevirtual 110, 3) ∧ 6 + 3 = 9 := ⟨by decide +kernel, rfl⟩
theorem zd_B_needed_9 : decode zb_B_needed 9 = .ok (.istore_n 3, 1) ∧ 9 + 1 = 10 := ⟨by decide +kernel, rfl⟩
theorem zd_B_needed_10 : decode zb_B_needed 10 = .ok (.iload_n 3, 1) ∧ 10 + 1 = 11 := ⟨by decide +kernel, rfl⟩
theorem zd_B_needed_11 : decode zb_B_needed 11 = .ok (.iconst (-1), 1) ∧ 11 + 1 = 12 := ⟨by decide +kernel, rfl⟩
theorem zd_B_needed_12 : decode zb_B_needed 12 = .ok (.if_icmp .eq 16, 3) ∧ ((12 : Nat) : Int) + (16) = ((28 : Nat) : Int) ∧ 12 + 3 = 15 := ⟨by decide +kernel, by decide, rfl⟩
theorem zd_B_needed_15 : decode zb_B_needed 15 = .ok (.aload_n 0, 1) ∧ 15 + 1 = 16 := ⟨by decide +kernel, rfl⟩
theorem zd_B_needed_16 : decode zb_B_needed 16 = .ok (.getfield 23, 3) ∧ 16 + 3 = 19 := ⟨by decide +kernel, rfl⟩
theorem zd_B_needed_19 : decode zb_B_needed 19 = .ok (.getfield 113, 3) ∧ 19 + 3 = 22 := ⟨by decide +kernel, rfl⟩
theorem zd_B_needed_22 : decode zb_B_needed 22 = .ok (.iload_n 3, 1) ∧ 22 + 1 = 23 := ⟨by decide +kernel, rfl⟩
theorem zd_B_needed_23 : decode zb_B_needed 23 = .ok (.iaload, 1) ∧ 23 + 1 = 24 := ⟨by decide +kernel, rfl⟩
theorem zd_B_needed_24 : decode zb_B_needed 24 = .ok (.iconst (-1), 1) ∧ 24 + 1 = 25 := ⟨by decide +kernel, rfl⟩
theorem zd_B_needed_25 : decode zb_B_needed 25 = .ok (.if_icmp .ne 5, 3) ∧ ((25 : Nat) : Int) + (5) = ((30 : Nat) : Int) ∧ 25 + 3 = 28 := ⟨by decide +kernel, by decide, rfl⟩
theorem zd_B_needed_28 : decode zb_B_needed 28 = .ok (.iconst (-1), 1) ∧ 28 + 1 = 29 := ⟨by decide +kernel, rfl⟩
theorem zd_B_needed_29 : decode zb_B_needed 29 = .ok (.ireturn, 1) ∧ 29 + 1 = 30 := ⟨by decide +kernel, rfl⟩
theorem zd_B_needed_30 : decode zb_B_needed 30 = .ok (.aload_n 0, 1) ∧ 30 + 1 = 31 := ⟨by decide +kernel, rfl⟩
theorem zd_B_needed_31 : decode zb_B_needed 31 = .ok (.getfield 23, 3) ∧ 31 + 3 = 34 := ⟨by decide +kernel, rfl⟩
theorem zd_B_needed_34 : decode zb_B_needed 34 = .ok (.getfield 113, 3) ∧ 34 + 3 = 37 := ⟨by decide +kernel, rfl⟩
theorem zd_B_needed_37 : decode zb_B_needed 37 = .ok (.iload_n 3, 1) ∧ 37 + 1 = 38 := ⟨by decide +kernel, rfl⟩
theorem zd_B_needed_38 : decode zb_B_needed 38 = .ok (.iaload, 1) ∧ 38 + 1 = 39 := ⟨by decide +kernel, rfl⟩
theorem zd_B_needed_39 : decode zb_B_needed 39 = .ok (.istore 4, 2) ∧ 39 + 2 = 41 := ⟨by decide +kernel, rfl⟩
theorem zd_B_needed_41 : decode zb_B_needed 41 = .ok (.aload_n 0, 1) ∧ 41 + 1 = 42 := ⟨by decide +kernel, rfl⟩
theorem zd_B_needed_42 : decode zb_B_needed 42 = .ok (.getfield 30, 3) ∧ 42 + 3 = 45 := ⟨by decide +kernel, rfl⟩
theorem zd_B_needed_45 : decode zb_B_needed 45 = .ok (.aload_n 0, 1) ∧ 45 + 1 = 46 := ⟨by decide +kernel, rfl⟩
theorem zd_B_needed_46 : decode zb_B_needed 46 = .ok (.getfield 23, 3) ∧ 46 + 3 = 49 := ⟨by decide +kernel, rfl⟩
theorem zd_B_needed_49 : decode zb_B_needed 49 = .ok (.aload_n 0, 1) ∧ 49 + 1 = 50 := ⟨by decide +kernel, rfl⟩
theorem zd_B_needed_50 : decode zb_B_needed 50 = .ok (.getfield 70, 3) ∧ 50 + 3 = 53 := ⟨by decide +kernel, rfl⟩
theorem zd_B_needed_53 : decode zb_B_needed 53 = .ok (.aload_n 0, 1) ∧ 53 + 1 = 54 := ⟨by decide +kernel, rfl⟩
theorem zd_B_needed_54 : decode zb_B_needed 54 = .ok (.getfield 73, 3) ∧ 54 + 3 = 57 := ⟨by decide +kernel, rfl⟩
theorem zd_B_needed_57 : decode zb_B_needed 57 = .ok (.invokevirtual 195, 3) ∧ 57 + 3 = 60 := ⟨by decide +kernel, rfl⟩
theorem zd_B_needed_60 : decode zb_B_needed 60 = .ok (.istore 5, 2) ∧ 60 + 2 = 62 := ⟨by decide +kernel, rfl⟩
theorem zd_B_needed_62 : decode zb_B_needed 62 = .ok (.aload_n 0, 1) ∧ 62 + 1 = 63 := ⟨by decide +kernel, rfl⟩
theorem zd_B_needed_63 : decode zb_B_needed 63 = .ok (.getfield 23, 3) ∧ 63 + 3 = 66 := ⟨by decide +kernel, rfl⟩
theorem zd_B_needed_66 : decode zb_B_needed 66 = .ok (.iconst (-1), 1) ∧ 66 + 1 = 67 := ⟨by decide +kernel, rfl⟩
theorem zd_B_needed_67 : decode zb_B_needed 67 = .ok (.iload_n 3, 1) ∧ 67 + 1 = 68 := ⟨by decide +kernel, rfl⟩
theorem zd_B_needed_68 : decode zb_B_needed 68 = .ok (.invokevirtual 198, 3) ∧ 68 + 3 = 71 := ⟨by decide +kernel, rfl⟩
theorem zd_B_needed_71 : decode zb_B_needed 71 = .ok (.aload_n 0, 1) ∧ 71 + 1 = 72 := ⟨by decide +kernel, rfl⟩
theorem zd_B_needed_72 : decode zb_B_needed 72 = .ok (.getfield 30, 3) ∧ 72 + 3 = 75 := ⟨by decide +kernel, rfl⟩
theorem zd_B_needed_75 : decode zb_B_needed 75 = .ok (.aload_n 0, 1) ∧ 75 + 1 = 76 := ⟨by decide +kernel, rfl⟩
theorem zd_B_needed_76 : decode zb_B_needed 76 = .ok (.getfield 23, 3) ∧ 76 + 3 = 79 := ⟨by decide +kernel, rfl⟩
theorem zd_B_needed_79 : decode zb_B_needed 79 = .ok (.aload_n 0, 1) ∧ 79 + 1 = 80 := ⟨by decide +kernel, rfl⟩
theorem zd_B_needed_80 : decode zb_B_needed 80 = .ok (.getfield 70, 3) ∧ 80 + 3 = 83 := ⟨by decide +kernel, rfl⟩
theorem zd_B_needed_83 : decode zb_B_needed 83 = .ok (.aload_n 0, 1) ∧ 83 + 1 = 84 := ⟨by decide +kernel, rfl⟩
theorem zd_B_needed_84 : decode zb_B_needed 84 = .ok (.getfield 73, 3) ∧ 84 + 3 = 87 := ⟨by decide +kernel, rfl⟩
theorem zd_B_needed_87 : decode zb_B_needed 87 = .ok (.invokevirtual 195, 3) ∧ 87 + 3 = 90 := ⟨by decide +kernel, rfl⟩
theorem zd_B_needed_90 : decode zb_B_needed 90 = .ok (.istore 6, 2) ∧ 90 + 2 = 92 := ⟨by decide +kernel, rfl⟩
theorem zd_B_needed_92 : decode zb_B_needed 92 = .ok (.aload_n 0, 1) ∧ 92 + 1 = 93 := ⟨by decide +kernel, rfl⟩
theorem zd_B_needed_93 : decode zb_B_needed 93 = .ok (.getfield 23, 3) ∧ 93 + 3 = 96 := ⟨by decide +kernel, rfl⟩
theorem zd_B_needed_96 : decode zb_B_needed 96 = .ok (.iload 4, 2) ∧ 96 + 2 = 98 := ⟨by decide +kernel, rfl⟩
theorem zd_B_needed_98 : decode zb_B_needed 98 = .ok (.iload_n 3, 1) ∧ 98 + 1 = 99 := ⟨by decide +kernel, rfl⟩
theorem zd_B_needed_99 : decode zb_B_needed 99 = .ok (.invokevirtual 198, 3) ∧ 99 + 3 = 102 := ⟨by decide +kernel, rfl⟩
theorem zd_B_needed_102 : decode zb_B_needed 102 = .ok (.iload 5, 2) ∧ 102 + 2 = 104 := ⟨by decide +kernel, rfl⟩
theorem zd_B_needed_104 : decode zb_B_needed 104 = .ok (.iconst (-1), 1) ∧ 104 + 1 = 105 := ⟨by decide +kernel, rfl⟩
theorem zd_B_needed_105 : decode zb_B_needed 105 = .ok (.if_icmp .eq 15, 3) ∧ ((105 : Nat) : Int) + (15) = ((120 : Nat) : Int) ∧ 105 + 3 = 108 := ⟨by decide +kernel, by decide, rfl⟩
theorem zd_B_needed_108 : decode zb_B_needed 108 = .ok (.iload 6, 2) ∧ 108 + 2 = 110 := ⟨by decide +kernel, rfl⟩
theorem zd_B_needed_110 : decode zb_B_needed 110 = .ok (.iconst (-1), 1) ∧ 110 + 1 = 111 := ⟨by decide +kernel, rfl⟩
theorem zd_B_needed_111 : decode zb_B_needed 111 = .ok (.if_icmp .eq 9, 3) ∧ ((111 : Nat) : Int) + (9) = ((120 : Nat) : Int) ∧ 111 + 3 = 114 := ⟨by decide +kernel, by decide, rfl⟩
theorem zd_B_needed_114 : decode zb_B_needed 114 = .ok (.iload 5, 2) ∧ 114 + 2 = 116 := ⟨by decide +kernel, rfl⟩
theorem zd_B_needed_116 : decode zb_B_needed 116 = .ok (.iload 6, 2) ∧ 116 + 2 = 118 := ⟨by decide +kernel, rfl⟩
theorem zd_B_needed_118 : decode zb_B_needed 118 = .ok (.ixor, 1) ∧ 118 + 1 = 119 := ⟨by decide +kernel, rfl⟩
theorem zd_B_needed_119 : decode zb_B_needed 119 = .ok (.ireturn, 1) ∧ 119 + 1 = 120 := ⟨by decide +kernel, rfl⟩
theorem zd_B_needed_120 : decode zb_B_needed 120 = .ok (.iload 5, 2) ∧ 120 + 2 = 122 := ⟨by decide +kernel, rfl⟩
theorem zd_B_needed_122 : decode zb_B_needed 122 = .ok (.iload 6, 2) ∧ 122 + 2 = 124 := ⟨by decide +kernel, rfl⟩
theorem zd_B_needed_124 : decode zb_B_needed 124 = .ok (.if_icmp .ne 7, 3) ∧ ((124 : Nat) : Int) + (7) = ((131 : Nat) : Int) ∧ 124 + 3 = 127 := ⟨by decide +kernel, by decide, rfl⟩
theorem zd_B_needed_127 : decode zb_B_needed 127 = .ok (.iconst 0, 1) ∧ 127 + 1 = 128 := ⟨by decide +kernel, rfl⟩
theorem zd_B_needed_128 : decode zb_B_needed 128 = .ok (.goto 8, 3) ∧ ((128 : Nat) : Int) + (8) = ((136 : Nat) : Int) ∧ 128 + 3 = 131 := ⟨by decide +kernel, by decide, rfl⟩
theorem zd_B_needed_131 : decode zb_B_needed 131 = .ok (.aload_n 0, 1) ∧ 131 + 1 = 132 := ⟨by decide +kernel, rfl⟩
theorem zd_B_needed_132 : decode zb_B_needed 132 = .ok (.iconst 3, 1) ∧ 132 + 1 = 133 := ⟨by decide +kernel, rfl⟩
theorem zd_B_needed_133 : decode zb_B_needed 133 = .ok (.invokevirtual 201, 3) ∧ 133 + 3 = 136 := ⟨by decide +kernel, rfl⟩
theorem zd_B_needed_136 : decode zb_B_needed 136 = .ok (.ireturn, 1) ∧ 136 + 1 = 137 := ⟨by decide +kernel, rfl⟩
theorem zd_B_shadow_0 : decode zb_B_shadow 0 = .ok (.aload_n 0, 1) ∧ 0 + 1 = 1 := ⟨by decide +kernel, rfl⟩
theorem zd_B_shadow_1 : decode zb_B_shadow 1 = .ok (.getfield 23, 3) ∧ 1 + 3 = 4 := ⟨by decide +kernel, rfl⟩
theorem zd_B_shadow_4 : decode zb_B_shadow 4 = .ok (.iload_n 1, 1) ∧ 4 + 1 = 5 := ⟨by decide +kernel, rfl⟩
theorem zd_B_shadow_5 : decode zb_B_shadow 5 = .ok (.iload_n 2, 1) ∧ 5 + 1 = 6 := ⟨by decide +kernel, rfl⟩
theorem zd_B_shadow_6 : decode zb_B_shadow 6 = .ok (.invokevirtual 110, 3) ∧ 6 + 3 = 9 := ⟨by decide +kernel, rfl⟩
theorem zd_B_shadow_9 : decode zb_B_shadow 9 = .ok (.istore_n 3, 1) ∧ 9 + 1 = 10 := ⟨by decide +kernel, rfl⟩
theorem zd_B_shadow_10 : decode zb_B_shadow 10 = .ok (.iload_n 3, 1) ∧ 10 + 1 = 11 := ⟨by decide +kernel, rfl⟩
theorem zd_B_shadow_11 : decode zb_B_shadow 11 = .ok (.iconst (-1), 1) ∧ 11 + 1 = 12 := ⟨by decide +kernel, rfl⟩
theorem zd_B_shadow_12 : decode zb_B_shadow 12 = .ok (.if_icmp .eq 16, 3) ∧ ((12 : Nat) : Int) + (16) = ((28 : Nat) : Int) ∧ 12 + 3 = 15 := ⟨by decide +kernel, by decide, rfl⟩
theorem zd_B_shadow_15 : decode zb_B_shadow 15 = .ok (.aload_n 0, 1) ∧ 15 + 1 = 16 := ⟨by decide +kernel, rfl⟩
theorem zd_B_shadow_16 : decode zb_B_shadow 16 = .ok (.getfield 23, 3) ∧ 16 + 3 = 19 := ⟨by decide +kernel, rfl⟩
theorem zd_B_shadow_19 : decode zb_B_shadow 19 = .ok (.getfield 113, 3) ∧ 19 + 3 = 22 := ⟨by decide +kernel, rfl⟩
theorem zd_B_shadow_22 : decode zb_B_shadow 22 = .ok (.iload_n 3, 1) ∧ 22 + 1 = 23 := ⟨by decide +kernel, rfl⟩
theorem zd_B_shadow_23 : decode zb_B_shadow 23 = .ok (.iaload, 1) ∧ 23 + 1 = 24 := ⟨by decide +kernel, rfl⟩
theorem zd_B_shadow_24 : decode zb_B_shadow 24 = .ok (.iconst (-1), 1) ∧ 24 + 1 = 25 := ⟨by decide +kernel, rfl⟩
theorem zd_B_shadow_25 : decode zb_B_shadow 25 = .ok (.if_icmp .eq 5, 3) ∧ ((25 : Nat) : Int) + (5) = ((30 : Nat) : Int) ∧ 25 + 3 = 28 := ⟨by decide +kernel, by decide, rfl⟩
theorem zd_B_shadow_28 : decode zb_B_shadow 28 = .ok (.iconst (-1), 1) ∧ 28 + 1 = 29 := ⟨by decide +kernel, rfl⟩
theorem zd_B_shadow_29 : decode zb_B_shadow 29 = .ok (.ireturn, 1) ∧ 29 + 1 = 30 := ⟨by decide +kernel, rfl⟩
theorem zd_B_shadow_30 : decode zb_B_shadow 30 = .ok (.aload_n 0, 1) ∧ 30 + 1 = 31 := ⟨by decide +kernel, rfl⟩
theorem zd_B_shadow_31 : decode zb_B_shadow 31 = .ok (.iload_n 3, 1) ∧ 31 + 1 = 32 := ⟨by decide +kernel, rfl⟩
theorem zd_B_shadow_32 : decode zb_B_shadow 32 = .ok (.aload_n 0, 1) ∧ 32 + 1 = 33 := ⟨by decide +kernel, rfl⟩
theorem zd_B_shadow_33 : decode zb_B_shadow 33 = .ok (.getfield 30, 3) ∧ 33 + 3 = 36 := ⟨by decide +kernel, rfl⟩
theorem zd_B_shadow_36 : decode zb_B_shadow 36 = .ok (.aload_n 0, 1) ∧ 36 + 1 = 37 := ⟨by decide +kernel, rfl⟩
theorem zd_B_shadow_37 : decode zb_B_shadow 37 = .ok (.getfield 23, 3) ∧ 37 + 3 = 40 := ⟨by decide +kernel, rfl⟩
theorem zd_B_shadow_40 : decode zb_B_shadow 40 = .ok (.aload_n 0, 1) ∧ 40 + 1 = 41 := ⟨by decide +kernel, rfl⟩
theorem zd_B_shadow_41 : decode zb_B_shadow 41 = .ok (.getfield 70, 3) ∧ 41 + 3 = 44 := ⟨by decide +kernel, rfl⟩
theorem zd_B_shadow_44 : decode zb_B_shadow 44 = .ok (.aload_n 0, 1) ∧ 44 + 1 = 45 := ⟨by decide +kernel, rfl⟩
theorem zd_B_shadow_45 : decode zb_B_shadow 45 = .ok (.getfield 73, 3) ∧ 45 + 3 = 48 := ⟨by decide +kernel, rfl⟩
theorem zd_B_shadow_48 : decode zb_B_shadow 48 = .ok (.invokevirtual 195, 3) ∧ 48 + 3 = 51 := ⟨by decide +kernel, rfl⟩
theorem zd_B_shadow_51 : decode zb_B_shadow 51 = .ok (.invokevirtual 204, 3) ∧ 51 + 3 = 54 := ⟨by decide +kernel, rfl⟩
theorem zd_B_shadow_54 : decode zb_B_shadow 54 = .ok (.ireturn, 1) ∧ 54 + 1 = 55 := ⟨by decide +kernel, rfl⟩
theorem zd_B_shadowOn_0 : decode zb_B_shadowOn 0 = .ok (.aload_n 0, 1) ∧ 0 + 1 = 1 := ⟨by decide +kernel, rfl⟩
theorem zd_B_shadowOn_1 : decode zb_B_shadowOn 1 = .ok (.getfield 23, 3) ∧ 1 + 3 = 4 := ⟨by decide +kernel, rfl⟩
theorem zd_B_shadowOn_4 : decode zb_B_shadowOn 4 = .ok (.bipush 6, 2) ∧ 4 + 2 = 6 := ⟨by decide +kernel, rfl⟩
theorem zd_B_shadowOn_6 : decode zb_B_shadowOn 6 = .ok (.iconst (-1), 1) ∧ 6 + 1 = 7 := ⟨by decide +kernel, rfl⟩
theorem zd_B_shadowOn_7 : decode zb_B_shadowOn 7 = .ok (.iload_n 1, 1) ∧ 7 + 1 = 8 := ⟨by decide +kernel, rfl⟩
theorem zd_B_shadowOn_8 : decode zb_B_shadowOn 8 = .ok (.invokevirtual 207, 3) ∧ 8 + 3 = 11 := ⟨by decide +kernel, rfl⟩
theorem zd_B_shadowOn_11 : decode zb_B_shadowOn 11 = .ok (.aload_n 0, 1) ∧ 11 + 1 = 12 := ⟨by decide +kernel, rfl⟩
theorem zd_B_shadowOn_12 : decode zb_B_shadowOn 12 = .ok (.getfield 30, 3) ∧ 12 + 3 = 15 := ⟨by decide +kernel, rfl⟩
theorem zd_B_shadowOn_15 : decode zb_B_shadowOn 15 = .ok (.aload_n 0, 1) ∧ 15 + 1 = 16 := ⟨by decide +kernel, rfl⟩
theorem zd_B_shadowOn_16 : decode zb_B_shadowOn 16 = .ok (.getfield 23, 3) ∧ 16 + 3 = 19 := ⟨by decide +kernel, rfl⟩
theorem zd_B_shadowOn_19 : decode zb_B_shadowOn 19 = .ok (.aload_n 0, 1) ∧ 19 + 1 = 20 := ⟨by decide +kernel, rfl⟩
theorem zd_B_shadowOn_20 : decode zb_B_shadowOn 20 = .ok (.getfield 70, 3) ∧ 20 + 3 = 23 := ⟨by decide +kernel, rfl⟩
theorem zd_B_shadowOn_23 : decode zb_B_shadowOn 23 = .ok (.aload_n 0, 1) ∧ 23 + 1 = 24 := ⟨by decide +kernel, rfl⟩
theorem zd_B_shadowOn_24 : decode zb_B_shadowOn 24 = .ok (.getfield 73, 3) ∧ 24 + 3 = 27 := ⟨by decide +kernel, rfl⟩
theorem zd_B_shadowOn_27 : decode zb_B_shadowOn 27 = .ok (.invokevirtual 195, 3) ∧ 27 + 3 = 30 := ⟨by decide +kernel, rfl⟩
theorem zd_B_shadowOn_30 : decode zb_B_shadowOn 30 = .ok (.istore_n 3, 1) ∧ 30 + 1 = 31 := ⟨by decide +kernel, rfl⟩
theorem zd_B_shadowOn_31 : decode zb_B_shadowOn 31 = .ok (.aload_n 0, 1) ∧ 31 + 1 = 32 := ⟨by decide +kernel, rfl⟩
theorem zd_B_shadowOn_32 : decode zb_B_shadowOn 32 = .ok (.getfield 23, 3) ∧ 32 + 3 = 35 := ⟨by decide +kernel, rfl⟩
theorem zd_B_shadowOn_35 : decode zb_B_shadowOn 35 = .ok (.iconst (-1), 1) ∧ 35 + 1 = 36 := ⟨by decide +kernel, rfl⟩
theorem zd_B_shadowOn_36 : decode zb_B_shadowOn 36 = .ok (.iload_n 1, 1) ∧ 36 + 1 = 37 := ⟨by decide +kernel, rfl⟩
theorem zd_B_shadowOn_37 : decode zb_B_shadowOn 37 = .ok (.invokevirtual 198, 3) ∧ 37 + 3 = 40 := ⟨by decide +kernel, rfl⟩
theorem zd_B_shadowOn_40 : decode zb_B_shadowOn 40 = .ok (.iload_n 3, 1) ∧ 40 + 1 = 41 := ⟨by decide +kernel, rfl⟩
theorem zd_B_shadowOn_41 : decode zb_B_shadowOn 41 = .ok (.iconst (-1), 1) ∧ 41 + 1 = 42 := ⟨by decide +kernel, rfl⟩
theorem zd_B_shadowOn_42 : decode zb_B_shadowOn 42 = .ok (.if_icmp .eq 8, 3) ∧ ((42 : Nat) : Int) + (8) = ((50 : Nat) : Int) ∧ 42 + 3 = 45 := ⟨by decide +kernel, by decide, rfl⟩
theorem zd_B_shadowOn_45 : decode zb_B_shadowOn 45 = .ok (.iload_n 2, 1) ∧ 45 + 1 = 46 := ⟨by decide +kernel, rfl⟩
theorem zd_B_shadowOn_46 : decode zb_B_shadowOn 46 = .ok (.iconst (-1), 1) ∧ 46 + 1 = 47 := ⟨by decide +kernel, rfl⟩
theorem zd_B_shadowOn_47 : decode zb_B_shadowOn 47 = .ok (.if_icmp .ne 7, 3) ∧ ((47 : Nat) : Int) + (7) = ((54 : Nat) : Int) ∧ 47 + 3 = 50 := ⟨by decide +kernel, by decide, rfl⟩
theorem zd_B_shadowOn_50 : decode zb_B_shadowOn 50 = .ok (.iconst 0, 1) ∧ 50 + 1 = 51 := ⟨by decide +kernel, rfl⟩
theorem zd_B_shadowOn_51 : decode zb_B_shadowOn 51 = .ok (.goto 11, 3) ∧ ((51 : Nat) : Int) + (11) = ((62 : Nat) : Int) ∧ 51 + 3 = 54 := ⟨by decide +kernel, by decide, rfl⟩
theorem zd_B_shadowOn_54 : decode zb_B_shadowOn 54 = .ok (.iload_n 2, 1) ∧ 54 + 1 = 55 := ⟨by decide +kernel, rfl⟩
theorem zd_B_shadowOn_55 : decode zb_B_shadowOn 55 = .ok (.iload_n 3, 1) ∧ 55 + 1 = 56 := ⟨by decide +kernel, rfl⟩
theorem zd_B_shadowOn_56 : decode zb_B_shadowOn 56 = .ok (.iconst (-1), 1) ∧ 56 + 1 = 57 := ⟨by decide +kernel, rfl⟩
theorem zd_B_shadowOn_57 : decode zb_B_shadowOn 57 = .ok (.ixor, 1) ∧ 57 + 1 = 58 := ⟨by decide +kernel, rfl⟩
theorem zd_B_shadowOn_58 : decode zb_B_shadowOn 58 = .ok (.iand, 1) ∧ 58 + 1 = 59 := ⟨by decide +kernel, rfl⟩
theorem zd_B_shadowOn_59 : decode zb_B_shadowOn 59 = .ok (.invokestatic 130, 3) ∧ 59 + 3 = 62 := ⟨by decide +kernel, rfl⟩
theorem zd_B_shadowOn_62 : decode zb_B_shadowOn 62 = .ok (.ireturn, 1) ∧ 62 + 1 = 63 := ⟨by decide +kernel, rfl⟩
theorem zd_B_darkest_0 : decode zb_B_darkest 0 = .ok (.iload_n 1, 1) ∧ 0 + 1 = 1 := ⟨by decide +kernel, rfl⟩
theorem zd_B_darkest_1 : decode zb_B_darkest 1 = .ok (.ifCond .lt 8, 3) ∧ ((1 : Nat) : Int) + (8) = ((9 : Nat) : Int) ∧ 1 + 3 = 4 := ⟨by decide +kernel, by decide, rfl⟩
theorem zd_B_darkest_4 : decode zb_B_darkest 4 = .ok (.iload_n 1, 1) ∧ 4 + 1 = 5 := ⟨by decide +kernel, rfl⟩
theorem zd_B_darkest_5 : decode zb_B_darkest 5 = .ok (.iconst 2, 1) ∧ 5 + 1 = 6 := ⟨by decide +kernel, rfl⟩
theorem zd_B_darkest_6 : decode zb_B_darkest 6 = .ok (.if_icmp .le 5, 3) ∧ ((6 : Nat) : Int) + (5) = ((11 : Nat) : Int) ∧ 6 + 3 = 9 := ⟨by decide +kernel, by decide, rfl⟩
theorem zd_B_darkest_9 : decode zb_B_darkest 9 = .ok (.iconst (-1), 1) ∧ 9 + 1 = 10 := ⟨by decide +kernel, rfl⟩
theorem zd_B_darkest_10 : decode zb_B_darkest 10 = .ok (.ireturn, 1) ∧ 10 + 1 = 11 := ⟨by decide +kernel, rfl⟩
theorem zd_B_darkest_11 : decode zb_B_darkest 11 = .ok (.aload_n 0, 1) ∧ 11 + 1 = 12 := ⟨by decide +kernel, rfl⟩
theorem zd_B_darkest_12 : decode zb_B_darkest 12 = .ok (.getfield 30, 3) ∧ 12 + 3 = 15 := ⟨by decide +kernel, rfl⟩
theorem zd_B_darkest_15 : decode zb_B_darkest 15 = .ok (.aload_n 0, 1) ∧ 15 + 1 = 16 := ⟨by decide +kernel, rfl⟩
theorem zd_B_darkest_16 : decode zb_B_darkest 16 = .ok (.getfield 23, 3) ∧ 16 + 3 = 19 := ⟨by decide +kernel, rfl⟩
theorem zd_B_darkest_19 : decode zb_B_darkest 19 = .ok (.aload_n 0, 1) ∧ 19 + 1 = 20 := ⟨by decide +kernel, rfl⟩
theorem zd_B_darkest_20 : decode zb_B_darkest 20 = .ok (.getfield 70, 3) ∧ 20 + 3 = 23 := ⟨by decide +kernel, rfl⟩
theorem zd_B_darkest_23 : decode zb_B_darkest 23 = .ok (.aload_n 0, 1) ∧ 23 + 1 = 24 := ⟨by decide +kernel, rfl⟩
theorem zd_B_darkest_24 : decode zb_B_darkest 24 = .ok (.getfield 73, 3) ∧ 24 + 3 = 27 := ⟨by decide +kernel, rfl⟩
theorem zd_B_darkest_27 : decode zb_B_darkest 27 = .ok (.invokevirtual 195, 3) ∧ 27 + 3 = 30 := ⟨by decide +kernel, rfl⟩
theorem zd_B_darkest_30 : decode zb_B_darkest 30 = .ok (.istore_n 2, 1) ∧ 30 + 1 = 31 := ⟨by decide +kernel, rfl⟩
theorem zd_B_darkest_31 : decode zb_B_darkest 31 = .ok (.aload_n 0, 1) ∧ 31 + 1 = 32 := ⟨by decide +kernel, rfl⟩
theorem zd_B_darkest_32 : decode zb_B_darkest 32 = .ok (.getfield 30, 3) ∧ 32 + 3 = 35 := ⟨by decide +kernel, rfl⟩
theorem zd_B_darkest_35 : decode zb_B_darkest 35 = .ok (.aload_n 0, 1) ∧ 35 + 1 = 36 := ⟨by decide +kernel, rfl⟩
theorem zd_B_darkest_36 : decode zb_B_darkest 36 = .ok (.getfield 23, 3) ∧ 36 + 3 = 39 := ⟨by decide +kernel, rfl⟩
theorem zd_B_darkest_39 : decode zb_B_darkest 39 = .ok (.aload_n 0, 1) ∧ 39 + 1 = 40 := ⟨by decide +kernel, rfl⟩
theorem zd_B_darkest_40 : decode zb_B_darkest 40 = .ok (.getfield 70, 3) ∧ 40 + 3 = 43 := ⟨by decide +kernel, rfl⟩
theorem zd_B_darkest_43 : decode zb_B_darkest 43 = .ok (.aload_n 0, 1) ∧ 43 + 1 = 44 := ⟨by decide +kernel, rfl⟩
theorem zd_B_darkest_44 : decode zb_B_darkest 44 = .ok (.getfield 73, 3) ∧ 44 + 3 = 47 := ⟨by decide +kernel, rfl⟩
theorem zd_B_darkest_47 : decode zb_B_darkest 47 = .ok (.aload_n 0, 1) ∧ 47 + 1 = 48 := ⟨by decide +kernel, rfl⟩
theorem zd_B_darkest_48 : decode zb_B_darkest 48 = .ok (.getfield 41, 3) ∧ 48 + 3 = 51 := ⟨by decide +kernel, rfl⟩
theorem zd_B_darkest_51 : decode zb_B_darkest 51 = .ok (.invokevirtual 211, 3) ∧ 51 + 3 = 54 := ⟨by decide +kernel, rfl⟩
theorem zd_B_darkest_54 : decode zb_B_darkest 54 = .ok (.iconst (-1), 1) ∧ 54 + 1 = 55 := ⟨by decide +kernel, rfl⟩
theorem zd_B_darkest_55 : decode zb_B_darkest 55 = .ok (.istore_n 3, 1) ∧ 55 + 1 = 56 := ⟨by decide +kernel, rfl⟩
theorem zd_B_darkest_56 : decode zb_B_darkest 56 = .ok (.iconst (-1), 1) ∧ 56 + 1 = 57 := ⟨by decide +kernel, rfl⟩
theorem zd_B_darkest_57 : decode zb_B_darkest 57 = .ok (.istore 4, 2) ∧ 57 + 2 = 59 := ⟨by decide +kernel, rfl⟩
theorem zd_B_darkest_59 : decode zb_B_darkest 59 = .ok (.iconst 0, 1) ∧ 59 + 1 = 60 := ⟨by decide +kernel, rfl⟩
theorem zd_B_darkest_60 : decode zb_B_darkest 60 = .ok (.istore 5, 2) ∧ 60 + 2 = 62 := ⟨by decide +kernel, rfl⟩
theorem zd_B_darkest_62 : decode zb_B_darkest 62 = .ok (.iload 5, 2) ∧ 62 + 2 = 64 := ⟨by decide +kernel, rfl⟩
theorem zd_B_darkest_64 : decode zb_B_darkest 64 = .ok (.aload_n 0, 1) ∧ 64 + 1 = 65 := ⟨by decide +kernel, rfl⟩
theorem zd_B_darkest_65 : decode zb_B_darkest 65 = .ok (.getfield 23, 3) ∧ 65 + 3 = 68 := ⟨by decide +kernel, rfl⟩
theorem zd_B_darkest_68 : decode zb_B_darkest 68 = .ok (.invokevirtual 153, 3) ∧ 68 + 3 = 71 := ⟨by decide +kernel, rfl⟩
theorem zd_B_darkest_71 : decode zb_B_darkest 71 = .ok (.if_icmp .ge 60, 3) ∧ ((71 : Nat) : Int) + (60) = ((131 : Nat) : Int) ∧ 71 + 3 = 74 := ⟨by decide +kernel, by decide, rfl⟩
theorem zd_B_darkest_74 : decode zb_B_darkest 74 = .ok (.aload_n 0, 1) ∧ 74 + 1 = 75 := ⟨by decide +kernel, rfl⟩
theorem zd_B_darkest_75 : decode zb_B_darkest 75 = .ok (.getfield 23, 3) ∧ 75 + 3 = 78 := ⟨by decide +kernel, rfl⟩
theorem zd_B_darkest_78 : decode zb_B_darkest 78 = .ok (.getfield 113, 3) ∧ 78 + 3 = 81 := ⟨by decide +kernel, rfl⟩
theorem zd_B_darkest_81 : decode zb_B_darkest 81 = .ok (.iload 5, 2) ∧ 81 + 2 = 83 := ⟨by decide +kernel, rfl⟩
theorem zd_B_darkest_83 : decode zb_B_darkest 83 = .ok (.iaload, 1) ∧ 83 + 1 = 84 := ⟨by decide +kernel, rfl⟩
theorem zd_B_darkest_84 : decode zb_B_darkest 84 = .ok (.iconst (-1), 1) ∧ 84 + 1 = 85 := ⟨by decide +kernel, rfl⟩
theorem zd_B_darkest_85 : decode zb_B_darkest 85 = .ok (.if_icmp .ne 40, 3) ∧ ((85 : Nat) : Int) + (40) = ((125 : Nat) : Int) ∧ 85 + 3 = 88 := ⟨by decide +kernel, by decide, rfl⟩
theorem zd_B_darkest_88 : decode zb_B_darkest 88 = .ok (.aload_n 0, 1) ∧ 88 + 1 = 89 := ⟨by decide +kernel, rfl⟩
theorem zd_B_darkest_89 : decode zb_B_darkest 89 = .ok (.getfield 41, 3) ∧ 89 + 3 = 92 := ⟨by decide +kernel, rfl⟩
theorem zd_B_darkest_92 : decode zb_B_darkest 92 = .ok (.iload 5, 2) ∧ 92 + 2 = 94 := ⟨by decide +kernel, rfl⟩
theorem zd_B_darkest_94 : decode zb_B_darkest 94 = .ok (.iaload, 1) ∧ 94 + 1 = 95 := ⟨by decide +kernel, rfl⟩
theorem zd_B_darkest_95 : decode zb_B_darkest 95 = .ok (.ifCond .ne 7, 3) ∧ ((95 : Nat) : Int) + (7) = ((102 : Nat) : Int) ∧ 95 + 3 = 98 := ⟨by decide +kernel, by decide, rfl⟩
theorem zd_B_darkest_98 : decode zb_B_darkest 98 = .ok (.iconst 0, 1) ∧ 98 + 1 = 99 := ⟨by decide +kernel, rfl⟩
theorem zd_B_darkest_99 : decode zb_B_darkest 99 = .ok (.goto 10, 3) ∧ ((99 : Nat) : Int) + (10) = ((109 : Nat) : Int) ∧ 99 + 3 = 102 := ⟨by decide +kernel, by decide, rfl⟩
theorem zd_B_darkest_102 : decode zb_B_darkest 102 = .ok (.aload_n 0, 1) ∧ 102 + 1 = 103 := ⟨by decide +kernel, rfl⟩
theorem zd_B_darkest_103 : decode zb_B_darkest 103 = .ok (.iload 5, 2) ∧ 103 + 2 = 105 := ⟨by decide +kernel, rfl⟩
theorem zd_B_darkest_105 : decode zb_B_darkest 105 = .ok (.iload_n 2, 1) ∧ 105 + 1 = 106 := ⟨by decide +kernel, rfl⟩
theorem zd_B_darkest_106 : decode zb_B_darkest 106 = .ok (.invokevirtual 204, 3) ∧ 106 + 3 = 109 := ⟨by decide +kernel, rfl⟩
theorem zd_B_darkest_109 : decode zb_B_darkest 109 = .ok (.istore 6, 2) ∧ 109 + 2 = 111 := ⟨by decide +kernel, rfl⟩
theorem zd_B_darkest_111 : decode zb_B_darkest 111 = .ok (.iload 6, 2) ∧ 111 + 2 = 113 := ⟨by decide +kernel, rfl⟩
theorem zd_B_darkest_113 : decode zb_B_darkest 113 = .ok (.iload 4, 2) ∧ 113 + 2 = 115 := ⟨by decide +kernel, rfl⟩
theorem zd_B_darkest_115 : decode zb_B_darkest 115 = .ok (.if_icmp .le 10, 3) ∧ ((115 : Nat) : Int) + (10) = ((125 : Nat) : Int) ∧ 115 + 3 = 118 := ⟨by decide +kernel, by decide, rfl⟩
theorem zd_B_darkest_118 : decode zb_B_darkest 118 = .ok (.iload 6, 2) ∧ 118 + 2 = 120 := ⟨by decide +kernel, rfl⟩
theorem zd_B_darkest_120 : decode zb_B_darkest 120 = .ok (.istore 4, 2) ∧ 120 + 2 = 122 := ⟨by decide +kernel, rfl⟩
theorem zd_B_darkest_122 : decode zb_B_darkest 122 = .ok (.iload 5, 2) ∧ 122 + 2 = 124 := ⟨by decide +kernel, rfl⟩
theorem zd_B_darkest_124 : decode zb_B_darkest 124 = .ok (.istore_n 3, 1) ∧ 124 + 1 = 125 := ⟨by decide +kernel, rfl⟩
theorem zd_B_darkest_125 : decode zb_B_darkest 125 = .ok (.iinc 5 1, 3) ∧ 125 + 3 = 128 := ⟨by decide +kernel, rfl⟩
theorem zd_B_darkest_128 : decode zb_B_darkest 128 = .ok (.goto (-66), 3) ∧ ((128 : Nat) : Int) + (-66) = ((62 : Nat) : Int) ∧ 128 + 3 = 131 := ⟨by decide +kernel, by decide, rfl⟩
theorem zd_B_darkest_131 : decode zb_B_darkest 131 = .ok (.iload_n 1, 1) ∧ 131 + 1 = 132 := ⟨by decide +kernel, rfl⟩
theorem zd_B_darkest_132 : decode zb_B_darkest 132 = .ok (.iconst 2, 1) ∧ 132 + 1 = 133 := ⟨by decide +kernel, rfl⟩
theorem zd_B_darkest_133 : decode zb_B_darkest 133 = .ok (.if_icmp .ne 6, 3) ∧ ((133 : Nat) : Int) + (6) = ((139 : Nat) : Int) ∧ 133 + 3 = 136 := ⟨by decide +kernel, by decide, rfl⟩
theorem zd_B_darkest_136 : decode zb_B_darkest 136 = .ok (.iload 4, 2) ∧ 136 + 2 = 138 := ⟨by decide +kernel, rfl⟩
theorem zd_B_darkest_138 : decode zb_B_darkest 138 = .ok (.ireturn, 1) ∧ 138 + 1 = 139 := ⟨by decide +kernel, rfl⟩
theorem zd_B_darkest_139 : decode zb_B_darkest 139 = .ok (.iload_n 1, 1) ∧ 139 + 1 = 140 := ⟨by decide +kernel, rfl⟩
theorem zd_B_darkest_140 : decode zb_B_darkest 140 = .ok (.ifCond .ne 14, 3) ∧ ((140 : Nat) : Int) + (14) = ((154 : Nat) : Int) ∧ 140 + 3 = 143 := ⟨by decide +kernel, by decide, rfl⟩
theorem zd_B_darkest_143 : decode zb_B_darkest 143 = .ok (.aload_n 0, 1) ∧ 143 + 1 = 144 := ⟨by decide +kernel, rfl⟩
theorem zd_B_darkest_144 : decode zb_B_darkest 144 = .ok (.getfield 23, 3) ∧ 144 + 3 = 147 := ⟨by decide +kernel, rfl⟩
theorem zd_B_darkest_147 : decode zb_B_darkest 147 = .ok (.iload_n 3, 1) ∧ 147 + 1 = 148 := ⟨by decide +kernel, rfl⟩
theorem zd_B_darkest_148 : decode zb_B_darkest 148 = .ok (.invokevirtual 215, 3) ∧ 148 + 3 = 151 := ⟨by decide +kernel, rfl⟩
theorem zd_B_darkest_151 : decode zb_B_darkest 151 = .ok (.goto 11, 3) ∧ ((151 : Nat) : Int) + (11) = ((162 : Nat) : Int) ∧ 151 + 3 = 154 := ⟨by decide +kernel, by decide, rfl⟩
theorem zd_B_darkest_154 : decode zb_B_darkest 154 = .ok (.aload_n 0, 1) ∧ 154 + 1 = 155 := ⟨by decide +kernel, rfl⟩
theorem zd_B_darkest_155 : decode zb_B_darkest 155 = .ok (.getfield 23, 3) ∧ 155 + 3 = 158 := ⟨by decide +kernel, rfl⟩
theorem zd_B_darkest_158 : decode zb_B_darkest 158 = .ok (.iload_n 3, 1) ∧ 158 + 1 = 159 := ⟨by decide +kernel, rfl⟩
theorem zd_B_darkest_159 : decode zb_B_darkest 159 = .ok (.invokevirtual 218, 3) ∧ 159 + 3 = 162 := ⟨by decide +kernel, rfl⟩
theorem zd_B_darkest_162 : decode zb_B_darkest 162 = .ok (.ireturn, 1) ∧ 162 + 1 = 163 := ⟨by decide +kernel, rfl⟩
theorem zd_B_more_0 : decode zb_B_more 0 = .ok (.iload_n 1, 1) ∧ 0 + 1 = 1 := ⟨by decide +kernel, rfl⟩
theorem zd_B_more_1 : decode zb_B_more 1 = .ok (.ifCond .lt 8, 3) ∧ ((1 : Nat) : Int) + (8) = ((9 : Nat) : Int) ∧ 1 + 3 = 4 := ⟨by decide +kernel, by decide, rfl⟩
theorem zd_B_more_4 : decode zb_B_more 4 = .ok (.iload_n 1, 1) ∧ 4 + 1 = 5 := ⟨by decide +kernel, rfl⟩
theorem zd_B_more_5 : decode zb_B_more 5 = .ok (.iconst 2, 1) ∧ 5 + 1 = 6 := ⟨by decide +kernel, rfl⟩
theorem zd_B_more_6 : decode zb_B_more 6 = .ok (.if_icmp .le 5, 3) ∧ ((6 : Nat) : Int) + (5) = ((11 : Nat) : Int) ∧ 6 + 3 = 9 := ⟨by decide +kernel, by decide, rfl⟩
theorem zd_B_more_9 : decode zb_B_more 9 = .ok (.iconst (-1), 1) ∧ 9 + 1 = 10 := ⟨by decide +kernel, rfl⟩
theorem zd_B_more_10 : decode zb_B_more 10 = .ok (.ireturn, 1) ∧ 10 + 1 = 11 := ⟨by decide +kernel, rfl⟩
theorem zd_B_more_11 : decode zb_B_more 11 = .ok (.aload_n 0, 1) ∧ 11 + 1 = 12 := ⟨by decide +kernel, rfl⟩
theorem zd_B_more_12 : decode zb_B_more 12 = .ok (.aload_n 0, 1) ∧ 12 + 1 = 13 := ⟨by decide +kernel, rfl⟩
theorem zd_B_more_13 : decode zb_B_more 13 = .ok (.getfield 70, 3) ∧ 13 + 3 = 16 := ⟨by decide +kernel, rfl⟩
theorem zd_B_more_16 : decode zb_B_more 16 = .ok (.invokevirtual 192, 3) ∧ 16 + 3 = 19 := ⟨by decide +kernel, rfl⟩
theorem zd_B_more_19 : decode zb_B_more 19 = .ok (.istore_n 2, 1) ∧ 19 + 1 = 20 := ⟨by decide +kernel, rfl⟩
theorem zd_B_more_20 : decode zb_B_more 20 = .ok (.aload_n 0, 1) ∧ 20 + 1 = 21 := ⟨by decide +kernel, rfl⟩
theorem zd_B_more_21 : decode zb_B_more 21 = .ok (.getfield 30, 3) ∧ 21 + 3 = 24 := ⟨by decide +kernel, rfl⟩
theorem zd_B_more_24 : decode zb_B_more 24 = .ok (.aload_n 0, 1) ∧ 24 + 1 = 25 := ⟨by decide +kernel, rfl⟩
theorem zd_B_more_25 : decode zb_B_more 25 = .ok (.getfield 23, 3) ∧ 25 + 3 = 28 := ⟨by decide +kernel, rfl⟩
theorem zd_B_more_28 : decode zb_B_more 28 = .ok (.aload_n 0, 1) ∧ 28 + 1 = 29 := ⟨by decide +kernel, rfl⟩
theorem zd_B_more_29 : decode zb_B_more 29 = .ok (.getfield 70, 3) ∧ 29 + 3 = 32 := ⟨by decide +kernel, rfl⟩
theorem zd_B_more_32 : decode zb_B_more 32 = .ok (.aload_n 0, 1) ∧ 32 + 1 = 33 := ⟨by decide +kernel, rfl⟩
theorem zd_B_more_33 : decode zb_B_more 33 = .ok (.getfield 73, 3) ∧ 33 + 3 = 36 := ⟨by decide +kernel, rfl⟩
theorem zd_B_more_36 : decode zb_B_more 36 = .ok (.aload_n 0, 1) ∧ 36 + 1 = 37 := ⟨by decide +kernel, rfl⟩
theorem zd_B_more_37 : decode zb_B_more 37 = .ok (.getfield 41, 3) ∧ 37 + 3 = 40 := ⟨by decide +kernel, rfl⟩
theorem zd_B_more_40 : decode zb_B_more 40 = .ok (.invokevirtual 211, 3) ∧ 40 + 3 = 43 := ⟨by decide +kernel, rfl⟩
theorem zd_B_more_43 : decode zb_B_more 43 = .ok (.iconst 0, 1) ∧ 43 + 1 = 44 := ⟨by decide +kernel, rfl⟩
theorem zd_B_more_44 : decode zb_B_more 44 = .ok (.istore_n 3, 1) ∧ 44 + 1 = 45 := ⟨by decide +kernel, rfl⟩
theorem zd_B_more_45 : decode zb_B_more 45 = .ok (.iload_n 3, 1) ∧ 45 + 1 = 46 := ⟨by decide +kernel, rfl⟩
theorem zd_B_more_46 : decode zb_B_more 46 = .ok (.aload_n 0, 1) ∧ 46 + 1 = 47 := ⟨by decide +kernel, rfl⟩
theorem zd_B_more_47 : decode zb_B_more 47 = .ok (.getfield 23, 3) ∧ 47 + 3 = 50 := ⟨by decide +kernel, rfl⟩
theorem zd_B_more_50 : decode zb_B_more 50 = .ok (.invokevirtual 153, 3) ∧ 50 + 3 = 53 := ⟨by decide +kernel, rfl⟩
theorem zd_B_more_53 : decode zb_B_more 53 = .ok (.if_icmp .ge 91, 3) ∧ ((53 : Nat) : Int) + (91) = ((144 : Nat) : Int) ∧ 53 + 3 = 56 := ⟨by decide +kernel, by decide, rfl⟩
theorem zd_B_more_56 : decode zb_B_more 56 = .ok (.aload_n 0, 1) ∧ 56 + 1 = 57 := ⟨by decide +kernel, rfl⟩
theorem zd_B_more_57 : decode zb_B_more 57 = .ok (.getfield 23, 3) ∧ 57 + 3 = 60 := ⟨by decide +kernel, rfl⟩
theorem zd_B_more_60 : decode zb_B_more 60 = .ok (.getfield 113, 3) ∧ 60 + 3 = 63 := ⟨by decide +kernel, rfl⟩
theorem zd_B_more_63 : decode zb_B_more 63 = .ok (.iload_n 3, 1) ∧ 63 + 1 = 64 := ⟨by decide +kernel, rfl⟩
theorem zd_B_more_64 : decode zb_B_more 64 = .ok (.iaload, 1) ∧ 64 + 1 = 65 := ⟨by decide +kernel, rfl⟩
theorem zd_B_more_65 : decode zb_B_more 65 = .ok (.iconst (-1), 1) ∧ 65 + 1 = 66 := ⟨by decide +kernel, rfl⟩
theorem zd_B_more_66 : decode zb_B_more 66 = .ok (.if_icmp .ne 72, 3) ∧ ((66 : Nat) : Int) + (72) = ((138 : Nat) : Int) ∧ 66 + 3 = 69 := ⟨by decide +kernel, by decide, rfl⟩
theorem zd_B_more_69 : decode zb_B_more 69 = .ok (.iconst 0, 1) ∧ 69 + 1 = 70 := ⟨by decide +kernel, rfl⟩
theorem zd_B_more_70 : decode zb_B_more 70 = .ok (.istore 4, 2) ∧ 70 + 2 = 72 := ⟨by decide +kernel, rfl⟩
theorem zd_B_more_72 : decode zb_B_more 72 = .ok (.aload_n 0, 1) ∧ 72 + 1 = 73 := ⟨by decide +kernel, rfl⟩
theorem zd_B_more_73 : decode zb_B_more 73 = .ok (.getfield 41, 3) ∧ 73 + 3 = 76 := ⟨by decide +kernel, rfl⟩
theorem zd_B_more_76 : decode zb_B_more 76 = .ok (.iload_n 3, 1) ∧ 76 + 1 = 77 := ⟨by decide +kernel, rfl⟩
theorem zd_B_more_77 : decode zb_B_more 77 = .ok (.iaload, 1) ∧ 77 + 1 = 78 := ⟨by decide +kernel, rfl⟩
theorem zd_B_more_78 : decode zb_B_more 78 = .ok (.ifCond .eq 13, 3) ∧ ((78 : Nat) : Int) + (13) = ((91 : Nat) : Int) ∧ 78 + 3 = 81 := ⟨by decide +kernel, by decide, rfl⟩
theorem zd_B_more_81 : decode zb_B_more 81 = .ok (.aload_n 0, 1) ∧ 81 + 1 = 82 := ⟨by decide +kernel, rfl⟩
theorem zd_B_more_82 : decode zb_B_more 82 = .ok (.iload_n 3, 1) ∧ 82 + 1 = 83 := ⟨by decide +kernel, rfl⟩
theorem zd_B_more_83 : decode zb_B_more 83 = .ok (.invokevirtual 221, 3) ∧ 83 + 3 = 86 := ⟨by decide +kernel, rfl⟩
theorem zd_B_more_86 : decode zb_B_more 86 = .ok (.istore 4, 2) ∧ 86 + 2 = 88 := ⟨by decide +kernel, rfl⟩
theorem zd_B_more_88 : decode zb_B_more 88 = .ok (.goto 10, 3) ∧ ((88 : Nat) : Int) + (10) = ((98 : Nat) : Int) ∧ 88 + 3 = 91 := ⟨by decide +kernel, by decide, rfl⟩
theorem zd_B_more_91 : decode zb_B_more 91 = .ok (.iload_n 2, 1) ∧ 91 + 1 = 92 := ⟨by decide +kernel, rfl⟩
theorem zd_B_more_92 : decode zb_B_more 92 = .ok (.ifCond .ne 6, 3) ∧ ((92 : Nat) : Int) + (6) = ((98 : Nat) : Int) ∧ 92 + 3 = 95 := ⟨by decide +kernel, by decide, rfl⟩
theorem zd_B_more_95 : decode zb_B_more 95 = .ok (.iconst (-1), 1) ∧ 95 + 1 = 96 := ⟨by decide +kernel, rfl⟩
theorem zd_B_more_96 : decode zb_B_more 96 = .ok (.istore 4, 2) ∧ 96 + 2 = 98 := ⟨by decide +kernel, rfl⟩
theorem zd_B_more_98 : decode zb_B_more 98 = .ok (.iload 4, 2) ∧ 98 + 2 = 100 := ⟨by decide +kernel, rfl⟩
theorem zd_B_more_100 : decode zb_B_more 100 = .ok (.iconst (-1), 1) ∧ 100 + 1 = 101 := ⟨by decide +kernel, rfl⟩
theorem zd_B_more_101 : decode zb_B_more 101 = .ok (.if_icmp .eq 37, 3) ∧ ((101 : Nat) : Int) + (37) = ((138 : Nat) : Int) ∧ 101 + 3 = 104 := ⟨by decide +kernel, by decide, rfl⟩
theorem zd_B_more_104 : decode zb_B_more 104 = .ok (.iload_n 1, 1) ∧ 104 + 1 = 105 := ⟨by decide +kernel, rfl⟩
theorem zd_B_more_105 : decode zb_B_more 105 = .ok (.iconst 2, 1) ∧ 105 + 1 = 106 := ⟨by decide +kernel, rfl⟩
theorem zd_B_more_106 : decode zb_B_more 106 = .ok (.if_icmp .ne 8, 3) ∧ ((106 : Nat) : Int) + (8) = ((114 : Nat) : Int) ∧ 106 + 3 = 109 := ⟨by decide +kernel, by decide, rfl⟩
theorem zd_B_more_109 : decode zb_B_more 109 = .ok (.iload 4, 2) ∧ 109 + 2 = 111 := ⟨by decide +kernel, rfl⟩
theorem zd_B_more_111 : decode zb_B_more 111 = .ok (.goto 26, 3) ∧ ((111 : Nat) : Int) + (26) = ((137 : Nat) : Int) ∧ 111 + 3 = 114 := ⟨by decide +kernel, by decide, rfl⟩
theorem zd_B_more_114 : decode zb_B_more 114 = .ok (.iload_n 1, 1) ∧ 114 + 1 = 115 := ⟨by decide +kernel, rfl⟩
theorem zd_B_more_115 : decode zb_B_more 115 = .ok (.ifCond .ne 14, 3) ∧ ((115 : Nat) : Int) + (14) = ((129 : Nat) : Int) ∧ 115 + 3 = 118 := ⟨by decide +kernel, by decide, rfl⟩
theorem zd_B_more_118 : decode zb_B_more 118 = .ok (.aload_n 0, 1) ∧ 118 + 1 = 119 := ⟨by decide +kernel, rfl⟩
theorem zd_B_more_119 : decode zb_B_more 119 = .ok (.getfield 23, 3) ∧ 119 + 3 = 122 := ⟨by decide +kernel, rfl⟩
theorem zd_B_more_122 : decode zb_B_more 122 = .ok (.iload_n 3, 1) ∧ 122 + 1 = 123 := ⟨by decide +kernel, rfl⟩
theorem zd_B_more_123 : decode zb_B_more 123 = .ok (.invokevirtual 215, 3) ∧ 123 + 3 = 126 := ⟨by decide +kernel, rfl⟩
theorem zd_B_more_126 : decode zb_B_more 126 = .ok (.goto 11, 3) ∧ ((126 : Nat) : Int) + (11) = ((137 : Nat) : Int) ∧ 126 + 3 = 129 := ⟨by decide +kernel, by decide, rfl⟩
theorem zd_B_more_129 : decode zb_B_more 129 = .ok (.aload_n 0, 1) ∧ 129 + 1 = 130 := ⟨by decide +kernel, rfl⟩
theorem zd_B_more_130 : decode zb_B_more 130 = .ok (.getfield 23, 3) ∧ 130 + 3 = 133 := ⟨by decide +kernel, rfl⟩
theorem zd_B_more_133 : decode zb_B_more 133 = .ok (.iload_n 3, 1) ∧ 133 + 1 = 134 := ⟨by decide +kernel, rfl⟩
theorem zd_B_more_134 : decode zb_B_more 134 = .ok (.invokevirtual 218, 3) ∧ 134 + 3 = 137 := ⟨by decide +kernel, rfl⟩
theorem zd_B_more_137 : decode zb_B_more 137 = .ok (.ireturn, 1) ∧ 137 + 1 = 138 := ⟨by decide +kernel, rfl⟩
theorem zd_B_more_138 : decode zb_B_more 138 = .ok (.iinc 3 1, 3) ∧ 138 + 3 = 141 := ⟨by decide +kernel, rfl⟩
theorem zd_B_more_141 : decode zb_B_more 141 = .ok (.goto (-96), 3) ∧ ((141 : Nat) : Int) + (-96) = ((45 : Nat) : Int) ∧ 141 + 3 = 144 := ⟨by decide +kernel, by decide, rfl⟩
theorem zd_B_more_144 : decode zb_B_more 144 = .ok (.iconst (-1), 1) ∧ 144 + 1 = 145 := ⟨by decide +kernel, rfl⟩
theorem zd_B_more_145 : decode zb_B_more 145 = .ok (.ireturn, 1) ∧ 145 + 1 = 146 := ⟨by decide +kernel, rfl⟩
theorem zd_B_formMetOn_0 : decode zb_B_formMetOn 0 = .ok (.iconst (-1), 1) ∧ 0 + 1 = 1 := ⟨by decide +kernel, rfl⟩
theorem zd_B_formMetOn_1 : decode zb_B_formMetOn 1 = .ok (.istore_n 2, 1) ∧ 1 + 1 = 2 := ⟨by decide +kernel, rfl⟩
theorem zd_B_formMetOn_2 : decode zb_B_formMetOn 2 = .ok (.iconst 0, 1) ∧ 2 + 1 = 3 := ⟨by decide +kernel, rfl⟩
theorem zd_B_formMetOn_3 : decode zb_B_formMetOn 3 = .ok (.istore_n 3, 1) ∧ 3 + 1 = 4 := ⟨by decide +kernel, rfl⟩
theorem zd_B_formMetOn_4 : decode zb_B_formMetOn 4 = .ok (.iload_n 3, 1) ∧ 4 + 1 = 5 := ⟨by decide +kernel, rfl⟩
theorem zd_B_formMetOn_5 : decode zb_B_formMetOn 5 = .ok (.iconst 1, 1) ∧ 5 + 1 = 6 := ⟨by decide +kernel, rfl⟩
theorem zd_B_formMetOn_6 : decode zb_B_formMetOn 6 = .ok (.if_icmp .gt 52, 3) ∧ ((6 : Nat) : Int) + (52) = ((58 : Nat) : Int) ∧ 6 + 3 = 9 := ⟨by decide +kernel, by decide, rfl⟩
theorem zd_B_formMetOn_9 : decode zb_B_formMetOn 9 = .ok (.iload_n 2, 1) ∧ 9 + 1 = 10 := ⟨by decide +kernel, rfl⟩
theorem zd_B_formMetOn_10 : decode zb_B_formMetOn 10 = .ok (.iconst (-1), 1) ∧ 10 + 1 = 11 := ⟨by decide +kernel, rfl⟩
theorem zd_B_formMetOn_11 : decode zb_B_formMetOn 11 = .ok (.if_icmp .ne 47, 3) ∧ ((11 : Nat) : Int) + (47) = ((58 : Nat) : Int) ∧ 11 + 3 = 14 := ⟨by decide +kernel, by decide, rfl⟩
theorem zd_B_formMetOn_14 : decode zb_B_formMetOn 14 = .ok (.aload_n 0, 1) ∧ 14 + 1 = 15 := ⟨by decide +kernel, rfl⟩
theorem zd_B_formMetOn_15 : decode zb_B_formMetOn 15 = .ok (.getfield 23, 3) ∧ 15 + 3 = 18 := ⟨by decide +kernel, rfl⟩
theorem zd_B_formMetOn_18 : decode zb_B_formMetOn 18 = .ok (.iconst 2, 1) ∧ 18 + 1 = 19 := ⟨by decide +kernel, rfl⟩
theorem zd_B_formMetOn_19 : decode zb_B_formMetOn 19 = .ok (.iload_n 3, 1) ∧ 19 + 1 = 20 := ⟨by decide +kernel, rfl⟩
theorem zd_B_formMetOn_20 : decode zb_B_formMetOn 20 = .ok (.iload_n 1, 1) ∧ 20 + 1 = 21 := ⟨by decide +kernel, rfl⟩
theorem zd_B_formMetOn_21 : decode zb_B_formMetOn 21 = .ok (.invokevirtual 207, 3) ∧ 21 + 3 = 24 := ⟨by decide +kernel, rfl⟩
theorem zd_B_formMetOn_24 : decode zb_B_formMetOn 24 = .ok (.aload_n 0, 1) ∧ 24 + 1 = 25 := ⟨by decide +kernel, rfl⟩
theorem zd_B_formMetOn_25 : decode zb_B_formMetOn 25 = .ok (.aload_n 0, 1) ∧ 25 + 1 = 26 := ⟨by decide +kernel, rfl⟩
theorem zd_B_formMetOn_26 : decode zb_B_formMetOn 26 = .ok (.getfield 30, 3) ∧ 26 + 3 = 29 := ⟨by decide +kernel, rfl⟩
theorem zd_B_formMetOn_29 : decode zb_B_formMetOn 29 = .ok (.aload_n 0, 1) ∧ 29 + 1 = 30 := ⟨by decide +kernel, rfl⟩
theorem zd_B_formMetOn_30 : decode zb_B_formMetOn 30 = .ok (.getfield 23, 3) ∧ 30 + 3 = 33 := ⟨by decide +kernel, rfl⟩
theorem zd_B_formMetOn_33 : decode zb_B_formMetOn 33 = .ok (.aload_n 0, 1) ∧ 33 + 1 = 34 := ⟨by decide +kernel, rfl⟩
theorem zd_B_formMetOn_34 : decode zb_B_formMetOn 34 = .ok (.getfield 70, 3) ∧ 34 + 3 = 37 := ⟨by decide +kernel, rfl⟩
theorem zd_B_formMetOn_37 : decode zb_B_formMetOn 37 = .ok (.aload_n 0, 1) ∧ 37 + 1 = 38 := ⟨by decide +kernel, rfl⟩
theorem zd_B_formMetOn_38 : decode zb_B_formMetOn 38 = .ok (.getfield 73, 3) ∧ 38 + 3 = 41 := ⟨by decide +kernel, rfl⟩
theorem zd_B_formMetOn_41 : decode zb_B_formMetOn 41 = .ok (.invokevirtual 195, 3) ∧ 41 + 3 = 44 := ⟨by decide +kernel, rfl⟩
theorem zd_B_formMetOn_44 : decode zb_B_formMetOn 44 = .ok (.invokevirtual 224, 3) ∧ 44 + 3 = 47 := ⟨by decide +kernel, rfl⟩
theorem zd_B_formMetOn_47 : decode zb_B_formMetOn 47 = .ok (.ifCond .eq 5, 3) ∧ ((47 : Nat) : Int) + (5) = ((52 : Nat) : Int) ∧ 47 + 3 = 50 := ⟨by decide +kernel, by decide, rfl⟩
theorem zd_B_formMetOn_50 : decode zb_B_formMetOn 50 = .ok (.iload_n 3, 1) ∧ 50 + 1 = 51 := ⟨by decide +kernel, rfl⟩
theorem zd_B_formMetOn_51 : decode zb_B_formMetOn 51 = .ok (.istore_n 2, 1) ∧ 51 + 1 = 52 := ⟨by decide +kernel, rfl⟩
theorem zd_B_formMetOn_52 : decode zb_B_formMetOn 52 = .ok (.iinc 3 1, 3) ∧ 52 + 3 = 55 := ⟨by decide +kernel, rfl⟩
theorem zd_B_formMetOn_55 : decode zb_B_formMetOn 55 = .ok (.goto (-51), 3) ∧ ((55 : Nat) : Int) + (-51) = ((4 : Nat) : Int) ∧ 55 + 3 = 58 := ⟨by decide +kernel, by decide, rfl⟩
theorem zd_B_formMetOn_58 : decode zb_B_formMetOn 58 = .ok (.aload_n 0, 1) ∧ 58 + 1 = 59 := ⟨by decide +kernel, rfl⟩
theorem zd_B_formMetOn_59 : decode zb_B_formMetOn 59 = .ok (.getfield 23, 3) ∧ 59 + 3 = 62 := ⟨by decide +kernel, rfl⟩
theorem zd_B_formMetOn_62 : decode zb_B_formMetOn 62 = .ok (.iconst (-1), 1) ∧ 62 + 1 = 63 := ⟨by decide +kernel, rfl⟩
theorem zd_B_formMetOn_63 : decode zb_B_formMetOn 63 = .ok (.iload_n 1, 1) ∧ 63 + 1 = 64 := ⟨by decide +kernel, rfl⟩
theorem zd_B_formMetOn_64 : decode zb_B_formMetOn 64 = .ok (.invokevirtual 198, 3) ∧ 64 + 3 = 67 := ⟨by decide +kernel, rfl⟩
theorem zd_B_formMetOn_67 : decode zb_B_formMetOn 67 = .ok (.iload_n 2, 1) ∧ 67 + 1 = 68 := ⟨by decide +kernel, rfl⟩
theorem zd_B_formMetOn_68 : decode zb_B_formMetOn 68 = .ok (.ireturn, 1) ∧ 68 + 1 = 69 := ⟨by decide +kernel, rfl⟩
theorem zd_B_solutions_0 : decode zb_B_solutions 0 = .ok (.iload_n 1, 1) ∧ 0 + 1 = 1 := ⟨by decide +kernel, rfl⟩
theorem zd_B_solutions_1 : decode zb_B_solutions 1 = .ok (.ifCond .lt 8, 3) ∧ ((1 : Nat) : Int) + (8) = ((9 : Nat) : Int) ∧ 1 + 3 = 4 := ⟨by decide +kernel, by decide, rfl⟩
theorem zd_B_solutions_4 : decode zb_B_solutions 4 = .ok (.iload_n 1, 1) ∧ 4 + 1 = 5 := ⟨by decide +kernel, rfl⟩
theorem zd_B_solutions_5 : decode zb_B_solutions 5 = .ok (.iconst 2, 1) ∧ 5 + 1 = 6 := ⟨by decide +kernel, rfl⟩
theorem zd_B_solutions_6 : decode zb_B_solutions 6 = .ok (.if_icmp .le 5, 3) ∧ ((6 : Nat) : Int) + (5) = ((11 : Nat) : Int) ∧ 6 + 3 = 9 := ⟨by decide +kernel, by decide, rfl⟩
theorem zd_B_solutions_9 : decode zb_B_solutions 9 = .ok (.iconst (-1), 1) ∧ 9 + 1 = 10 := ⟨by decide +kernel, rfl⟩
theorem zd_B_solutions_10 : decode zb_B_solutions 10 = .ok (.ireturn, 1) ∧ 10 + 1 = 11 := ⟨by decide +kernel, rfl⟩
theorem zd_B_solutions_11 : decode zb_B_solutions 11 = .ok (.iconst 0, 1) ∧ 11 + 1 = 12 := ⟨by decide +kernel, rfl⟩
theorem zd_B_solutions_12 : decode zb_B_solutions 12 = .ok (.istore_n 2, 1) ∧ 12 + 1 = 13 := ⟨by decide +kernel, rfl⟩
theorem zd_B_solutions_13 : decode zb_B_solutions 13 = .ok (.aload_n 0, 1) ∧ 13 + 1 = 14 := ⟨by decide +kernel, rfl⟩
theorem zd_B_solutions_14 : decode zb_B_solutions 14 = .ok (.iconst 1, 1) ∧ 14 + 1 = 15 := ⟨by decide +kernel, rfl⟩
theorem zd_B_solutions_15 : decode zb_B_solutions 15 = .ok (.invokevirtual 201, 3) ∧ 15 + 3 = 18 := ⟨by decide +kernel, rfl⟩
theorem zd_B_solutions_18 : decode zb_B_solutions 18 = .ok (.istore_n 3, 1) ∧ 18 + 1 = 19 := ⟨by decide +kernel, rfl⟩
theorem zd_B_solutions_19 : decode zb_B_solutions 19 = .ok (.iload_n 3, 1) ∧ 19 + 1 = 20 := ⟨by decide +kernel, rfl⟩
theorem zd_B_solutions_20 : decode zb_B_solutions 20 = .ok (.istore 4, 2) ∧ 20 + 2 = 22 := ⟨by decide +kernel, rfl⟩
theorem zd_B_solutions_22 : decode zb_B_solutions 22 = .ok (.iconst 0, 1) ∧ 22 + 1 = 23 := ⟨by decide +kernel, rfl⟩
theorem zd_B_solutions_23 : decode zb_B_solutions 23 = .ok (.istore 5, 2) ∧ 23 + 2 = 25 := ⟨by decide +kernel, rfl⟩
theorem zd_B_solutions_25 : decode zb_B_solutions 25 = .ok (.iload 5, 2) ∧ 25 + 2 = 27 := ⟨by decide +kernel, rfl⟩
theorem zd_B_solutions_27 : decode zb_B_solutions 27 = .ok (.aload_n 0, 1) ∧ 27 + 1 = 28 := ⟨by decide +kernel, rfl⟩
theorem zd_B_solutions_28 : decode zb_B_solutions 28 = .ok (.iconst 1, 1) ∧ 28 + 1 = 29 := ⟨by decide +kernel, rfl⟩
theorem zd_B_solutions_29 : decode zb_B_solutions 29 = .ok (.invokevirtual 201, 3) ∧ 29 + 3 = 32 := ⟨by decide +kernel, rfl⟩
theorem zd_B_solutions_32 : decode zb_B_solutions 32 = .ok (.if_icmp .gt 35, 3) ∧ ((32 : Nat) : Int) + (35) = ((67 : Nat) : Int) ∧ 32 + 3 = 35 := ⟨by decide +kernel, by decide, rfl⟩
theorem zd_B_solutions_35 : decode zb_B_solutions 35 = .ok (.aload_n 0, 1) ∧ 35 + 1 = 36 := ⟨by decide +kernel, rfl⟩
theorem zd_B_solutions_36 : decode zb_B_solutions 36 = .ok (.iload 5, 2) ∧ 36 + 2 = 38 := ⟨by decide +kernel, rfl⟩
theorem zd_B_solutions_38 : decode zb_B_solutions 38 = .ok (.invokevirtual 192, 3) ∧ 38 + 3 = 41 := ⟨by decide +kernel, rfl⟩
theorem zd_B_solutions_41 : decode zb_B_solutions 41 = .ok (.ifCond .eq 20, 3) ∧ ((41 : Nat) : Int) + (20) = ((61 : Nat) : Int) ∧ 41 + 3 = 44 := ⟨by decide +kernel, by decide, rfl⟩
theorem zd_B_solutions_44 : decode zb_B_solutions 44 = .ok (.iinc 2 1, 3) ∧ 44 + 3 = 47 := ⟨by decide +kernel, rfl⟩
theorem zd_B_solutions_47 : decode zb_B_solutions 47 = .ok (.iload_n 3, 1) ∧ 47 + 1 = 48 := ⟨by decide +kernel, rfl⟩
theorem zd_B_solutions_48 : decode zb_B_solutions 48 = .ok (.iload 5, 2) ∧ 48 + 2 = 50 := ⟨by decide +kernel, rfl⟩
theorem zd_B_solutions_50 : decode zb_B_solutions 50 = .ok (.iand, 1) ∧ 50 + 1 = 51 := ⟨by decide +kernel, rfl⟩
theorem zd_B_solutions_51 : decode zb_B_solutions 51 = .ok (.istore_n 3, 1) ∧ 51 + 1 = 52 := ⟨by decide +kernel, rfl⟩
theorem zd_B_solutions_52 : decode zb_B_solutions 52 = .ok (.iload 4, 2) ∧ 52 + 2 = 54 := ⟨by decide +kernel, rfl⟩
theorem zd_B_solutions_54 : decode zb_B_solutions 54 = .ok (.iload 5, 2) ∧ 54 + 2 = 56 := ⟨by decide +kernel, rfl⟩
theorem zd_B_solutions_56 : decode zb_B_solutions 56 = .ok (.iconst (-1), 1) ∧ 56 + 1 = 57 := ⟨by decide +kernel, rfl⟩
theorem zd_B_solutions_57 : decode zb_B_solutions 57 = .ok (.ixor, 1) ∧ 57 + 1 = 58 := ⟨by decide +kernel, rfl⟩
theorem zd_B_solutions_58 : decode zb_B_solutions 58 = .ok (.iand, 1) ∧ 58 + 1 = 59 := ⟨by decide +kernel, rfl⟩
theorem zd_B_solutions_59 : decode zb_B_solutions 59 = .ok (.istore 4, 2) ∧ 59 + 2 = 61 := ⟨by decide +kernel, rfl⟩
theorem zd_B_solutions_61 : decode zb_B_solutions 61 = .ok (.iinc 5 1, 3) ∧ 61 + 3 = 64 := ⟨by decide +kernel, rfl⟩
theorem zd_B_solutions_64 : decode zb_B_solutions 64 = .ok (.goto (-39), 3) ∧ ((64 : Nat) : Int) + (-39) = ((25 : Nat) : Int) ∧ 64 + 3 = 67 := ⟨by decide +kernel, by decide, rfl⟩
theorem zd_B_solutions_67 : decode zb_B_solutions 67 = .ok (.iload_n 1, 1) ∧ 67 + 1 = 68 := ⟨by decide +kernel, rfl⟩
theorem zd_B_solutions_68 : decode zb_B_solutions 68 = .ok (.ifCond .ne 5, 3) ∧ ((68 : Nat) : Int) + (5) = ((73 : Nat) : Int) ∧ 68 + 3 = 71 := ⟨by decide +kernel, by decide, rfl⟩
theorem zd_B_solutions_71 : decode zb_B_solutions 71 = .ok (.iload_n 2, 1) ∧ 71 + 1 = 72 := ⟨by decide +kernel, rfl⟩
theorem zd_B_solutions_72 : decode zb_B_solutions 72 = .ok (.ireturn, 1) ∧ 72 + 1 = 73 := ⟨by decide +kernel, rfl⟩
theorem zd_B_solutions_73 : decode zb_B_solutions 73 = .ok (.iload_n 1, 1) ∧ 73 + 1 = 74 := ⟨by decide +kernel, rfl⟩
theorem zd_B_solutions_74 : decode zb_B_solutions 74 = .ok (.iconst 1, 1) ∧ 74 + 1 = 75 := ⟨by decide +kernel, rfl⟩
theorem zd_B_solutions_75 : decode zb_B_solutions 75 = .ok (.if_icmp .ne 7, 3) ∧ ((75 : Nat) : Int) + (7) = ((82 : Nat) : Int) ∧ 75 + 3 = 78 := ⟨by decide +kernel, by decide, rfl⟩
theorem zd_B_solutions_78 : decode zb_B_solutions 78 = .ok (.iload_n 3, 1) ∧ 78 + 1 = 79 := ⟨by decide +kernel, rfl⟩
theorem zd_B_solutions_79 : decode zb_B_solutions 79 = .ok (.goto 5, 3) ∧ ((79 : Nat) : Int) + (5) = ((84 : Nat) : Int) ∧ 79 + 3 = 82 := ⟨by decide +kernel, by decide, rfl⟩
theorem zd_B_solutions_82 : decode zb_B_solutions 82 = .ok (.iload 4, 2) ∧ 82 + 2 = 84 := ⟨by decide +kernel, rfl⟩
theorem zd_B_solutions_84 : decode zb_B_solutions 84 = .ok (.ireturn, 1) ∧ 84 + 1 = 85 := ⟨by decide +kernel, rfl⟩
theorem zd_B_near_0 : decode zb_B_near 0 = .ok (.aload_n 0, 1) ∧ 0 + 1 = 1 := ⟨by decide +kernel, rfl⟩
theorem zd_B_near_1 : decode zb_B_near 1 = .ok (.getfield 30, 3) ∧ 1 + 3 = 4 := ⟨by decide +kernel, rfl⟩
theorem zd_B_near_4 : decode zb_B_near 4 = .ok (.invokevirtual 163, 3) ∧ 4 + 3 = 7 := ⟨by decide +kernel, rfl⟩
theorem zd_B_near_7 : decode zb_B_near 7 = .ok (.iconst (-1), 1) ∧ 7 + 1 = 8 := ⟨by decide +kernel, rfl⟩
theorem zd_B_near_8 : decode zb_B_near 8 = .ok (.istore_n 1, 1) ∧ 8 + 1 = 9 := ⟨by decide +kernel, rfl⟩
theorem zd_B_near_9 : decode zb_B_near 9 = .ok (.bipush 7, 2) ∧ 9 + 2 = 11 := ⟨by decide +kernel, rfl⟩
theorem zd_B_near_11 : decode zb_B_near 11 = .ok (.istore_n 2, 1) ∧ 11 + 1 = 12 := ⟨by decide +kernel, rfl⟩
theorem zd_B_near_12 : decode zb_B_near 12 = .ok (.iconst 0, 1) ∧ 12 + 1 = 13 := ⟨by decide +kernel, rfl⟩
theorem zd_B_near_13 : decode zb_B_near 13 = .ok (.istore_n 3, 1) ∧ 13 + 1 = 14 := ⟨by decide +kernel, rfl⟩
theorem zd_B_near_14 : decode zb_B_near 14 = .ok (.iload_n 3, 1) ∧ 14 + 1 = 15 := ⟨by decide +kernel, rfl⟩
theorem zd_B_near_15 : decode zb_B_near 15 = .ok (.aload_n 0, 1) ∧ 15 + 1 = 16 := ⟨by decide +kernel, rfl⟩
theorem zd_B_near_16 : decode zb_B_near 16 = .ok (.invokevirtual 186, 3) ∧ 16 + 3 = 19 := ⟨by decide +kernel, rfl⟩
theorem zd_B_near_19 : decode zb_B_near 19 = .ok (.if_icmp .ge 73, 3) ∧ ((19 : Nat) : Int) + (73) = ((92 : Nat) : Int) ∧ 19 + 3 = 22 := ⟨by decide +kernel, by decide, rfl⟩
theorem zd_B_near_22 : decode zb_B_near 22 = .ok (.iload_n 3, 1) ∧ 22 + 1 = 23 := ⟨by decide +kernel, rfl⟩
theorem zd_B_near_23 : decode zb_B_near 23 = .ok (.aload_n 0, 1) ∧ 23 + 1 = 24 := ⟨by decide +kernel, rfl⟩
theorem zd_B_near_24 : decode zb_B_near 24 = .ok (.getfield 73, 3) ∧ 24 + 3 = 27 := ⟨by decide +kernel, rfl⟩
theorem zd_B_near_27 : decode zb_B_near 27 = .ok (.ixor, 1) ∧ 27 + 1 = 28 := ⟨by decide +kernel, rfl⟩
theorem zd_B_near_28 : decode zb_B_near 28 = .ok (.invokestatic 130, 3) ∧ 28 + 3 = 31 := ⟨by decide +kernel, rfl⟩
theorem zd_B_near_31 : decode zb_B_near 31 = .ok (.istore 4, 2) ∧ 31 + 2 = 33 := ⟨by decide +kernel, rfl⟩
theorem zd_B_near_33 : decode zb_B_near 33 = .ok (.iload 4, 2) ∧ 33 + 2 = 35 := ⟨by decide +kernel, rfl⟩
theorem zd_B_near_35 : decode zb_B_near 35 = .ok (.iload_n 2, 1) ∧ 35 + 1 = 36 := ⟨by decide +kernel, rfl⟩
theorem zd_B_near_36 : decode zb_B_near 36 = .ok (.if_icmp .ge 50, 3) ∧ ((36 : Nat) : Int) + (50) = ((86 : Nat) : Int) ∧ 36 + 3 = 39 := ⟨by decide +kernel, by decide, rfl⟩
theorem zd_B_near_39 : decode zb_B_near 39 = .ok (.aload_n 0, 1) ∧ 39 + 1 = 40 := ⟨by decide +kernel, rfl⟩
theorem zd_B_near_40 : decode zb_B_near 40 = .ok (.getfield 30, 3) ∧ 40 + 3 = 43 := ⟨by decide +kernel, rfl⟩
theorem zd_B_near_43 : decode zb_B_near 43 = .ok (.aload_n 0, 1) ∧ 43 + 1 = 44 := ⟨by decide +kernel, rfl⟩
theorem zd_B_near_44 : decode zb_B_near 44 = .ok (.getfield 23, 3) ∧ 44 + 3 = 47 := ⟨by decide +kernel, rfl⟩
theorem zd_B_near_47 : decode zb_B_near 47 = .ok (.aload_n 0, 1) ∧ 47 + 1 = 48 := ⟨by decide +kernel, rfl⟩
theorem zd_B_near_48 : decode zb_B_near 48 = .ok (.getfield 70, 3) ∧ 48 + 3 = 51 := ⟨by decide +kernel, rfl⟩
theorem zd_B_near_51 : decode zb_B_near 51 = .ok (.iload_n 3, 1) ∧ 51 + 1 = 52 := ⟨by decide +kernel, rfl⟩
theorem zd_B_near_52 : decode zb_B_near 52 = .ok (.invokevirtual 170, 3) ∧ 52 + 3 = 55 := ⟨by decide +kernel, rfl⟩
theorem zd_B_near_55 : decode zb_B_near 55 = .ok (.aload_n 0, 1) ∧ 55 + 1 = 56 := ⟨by decide +kernel, rfl⟩
theorem zd_B_near_56 : decode zb_B_near 56 = .ok (.getfield 30, 3) ∧ 56 + 3 = 59 := ⟨by decide +kernel, rfl⟩
theorem zd_B_near_59 : decode zb_B_near 59 = .ok (.invokevirtual 177, 3) ∧ 59 + 3 = 62 := ⟨by decide +kernel, rfl⟩
theorem zd_B_near_62 : decode zb_B_near 62 = .ok (.iconst 1, 1) ∧ 62 + 1 = 63 := ⟨by decide +kernel, rfl⟩
theorem zd_B_near_63 : decode zb_B_near 63 = .ok (.if_icmp .ne 23, 3) ∧ ((63 : Nat) : Int) + (23) = ((86 : Nat) : Int) ∧ 63 + 3 = 66 := ⟨by decide +kernel, by decide, rfl⟩
theorem zd_B_near_66 : decode zb_B_near 66 = .ok (.aload_n 0, 1) ∧ 66 + 1 = 67 := ⟨by decide +kernel, rfl⟩
theorem zd_B_near_67 : decode zb_B_near 67 = .ok (.aload_n 0, 1) ∧ 67 + 1 = 68 := ⟨by decide +kernel, rfl⟩
theorem zd_B_near_68 : decode zb_B_near 68 = .ok (.getfield 30, 3) ∧ 68 + 3 = 71 := ⟨by decide +kernel, rfl⟩
theorem zd_B_near_71 : decode zb_B_near 71 = .ok (.iconst 1, 1) ∧ 71 + 1 = 72 := ⟨by decide +kernel, rfl⟩
theorem zd_B_near_72 : decode zb_B_near 72 = .ok (.invokevirtual 227, 3) ∧ 72 + 3 = 75 := ⟨by decide +kernel, rfl⟩
theorem zd_B_near_75 : decode zb_B_near 75 = .ok (.invokevirtual 224, 3) ∧ 75 + 3 = 78 := ⟨by decide +kernel, rfl⟩
theorem zd_B_near_78 : decode zb_B_near 78 = .ok (.ifCond .eq 8, 3) ∧ ((78 : Nat) : Int) + (8) = ((86 : Nat) : Int) ∧ 78 + 3 = 81 := ⟨by decide +kernel, by decide, rfl⟩
theorem zd_B_near_81 : decode zb_B_near 81 = .ok (.iload_n 3, 1) ∧ 81 + 1 = 82 := ⟨by decide +kernel, rfl⟩
theorem zd_B_near_82 : decode zb_B_near 82 = .ok (.istore_n 1, 1) ∧ 82 + 1 = 83 := ⟨by decide +kernel, rfl⟩
theorem zd_B_near_83 : decode zb_B_near 83 = .ok (.iload 4, 2) ∧ 83 + 2 = 85 := ⟨by decide +kernel, rfl⟩
theorem zd_B_near_85 : decode zb_B_near 85 = .ok (.istore_n 2, 1) ∧ 85 + 1 = 86 := ⟨by decide +kernel, rfl⟩
theorem zd_B_near_86 : decode zb_B_near 86 = .ok (.iinc 3 1, 3) ∧ 86 + 3 = 89 := ⟨by decide +kernel, rfl⟩
theorem zd_B_near_89 : decode zb_B_near 89 = .ok (.goto (-75), 3) ∧ ((89 : Nat) : Int) + (-75) = ((14 : Nat) : Int) ∧ 89 + 3 = 92 := ⟨by decide +kernel, by decide, rfl⟩
theorem zd_B_near_92 : decode zb_B_near 92 = .ok (.iload_n 1, 1) ∧ 92 + 1 = 93 := ⟨by decide +kernel, rfl⟩
theorem zd_B_near_93 : decode zb_B_near 93 = .ok (.ireturn, 1) ∧ 93 + 1 = 94 := ⟨by decide +kernel, rfl⟩
theorem zd_B_tint_0 : decode zb_B_tint 0 = .ok (.aload_n 0, 1) ∧ 0 + 1 = 1 := ⟨by decide +kernel, rfl⟩
theorem zd_B_tint_1 : decode zb_B_tint 1 = .ok (.getfield 23, 3) ∧ 1 + 3 = 4 := ⟨by decide +kernel, rfl⟩
theorem zd_B_tint_4 : decode zb_B_tint 4 = .ok (.iload_n 1, 1) ∧ 4 + 1 = 5 := ⟨by decide +kernel, rfl⟩
theorem zd_B_tint_5 : decode zb_B_tint 5 = .ok (.iload_n 2, 1) ∧ 5 + 1 = 6 := ⟨by decide +kernel, rfl⟩
theorem zd_B_tint_6 : decode zb_B_tint 6 = .ok (.invokevirtual 110, 3) ∧ 6 + 3 = 9 := ⟨by decide +kernel, rfl⟩
theorem zd_B_tint_9 : decode zb_B_tint 9 = .ok (.istore_n 3, 1) ∧ 9 + 1 = 10 := ⟨by decide +kernel, rfl⟩
theorem zd_B_tint_10 : decode zb_B_tint 10 = .ok (.iload_n 3, 1) ∧ 10 + 1 = 11 := ⟨by decide +kernel, rfl⟩
theorem zd_B_tint_11 : decode zb_B_tint 11 = .ok (.iconst (-1), 1) ∧ 11 + 1 = 12 := ⟨by decide +kernel, rfl⟩
theorem zd_B_tint_12 : decode zb_B_tint 12 = .ok (.if_icmp .ne 7, 3) ∧ ((12 : Nat) : Int) + (7) = ((19 : Nat) : Int) ∧ 12 + 3 = 15 := ⟨by decide +kernel, by decide, rfl⟩
theorem zd_B_tint_15 : decode zb_B_tint 15 = .ok (.iconst (-1), 1) ∧ 15 + 1 = 16 := ⟨by decide +kernel, rfl⟩
theorem zd_B_tint_16 : decode zb_B_tint 16 = .ok (.goto 12, 3) ∧ ((16 : Nat) : Int) + (12) = ((28 : Nat) : Int) ∧ 16 + 3 = 19 := ⟨by decide +kernel, by decide, rfl⟩
theorem zd_B_tint_19 : decode zb_B_tint 19 = .ok (.aload_n 0, 1) ∧ 19 + 1 = 20 := ⟨by decide +kernel, rfl⟩
theorem zd_B_tint_20 : decode zb_B_tint 20 = .ok (.getfield 23, 3) ∧ 20 + 3 = 23 := ⟨by decide +kernel, rfl⟩
theorem zd_B_tint_23 : decode zb_B_tint 23 = .ok (.getfield 113, 3) ∧ 23 + 3 = 26 := ⟨by decide +kernel, rfl⟩
theorem zd_B_tint_26 : decode zb_B_tint 26 = .ok (.iload_n 3, 1) ∧ 26 + 1 = 27 := ⟨by decide +kernel, rfl⟩
theorem zd_B_tint_27 : decode zb_B_tint 27 = .ok (.iaload, 1) ∧ 27 + 1 = 28 := ⟨by decide +kernel, rfl⟩
theorem zd_B_tint_28 : decode zb_B_tint 28 = .ok (.istore 4, 2) ∧ 28 + 2 = 30 := ⟨by decide +kernel, rfl⟩
theorem zd_B_tint_30 : decode zb_B_tint 30 = .ok (.iload 4, 2) ∧ 30 + 2 = 32 := ⟨by decide +kernel, rfl⟩
theorem zd_B_tint_32 : decode zb_B_tint 32 = .ok (.iconst (-1), 1) ∧ 32 + 1 = 33 := ⟨by decide +kernel, rfl⟩
theorem zd_B_tint_33 : decode zb_B_tint 33 = .ok (.if_icmp .eq 17, 3) ∧ ((33 : Nat) : Int) + (17) = ((50 : Nat) : Int) ∧ 33 + 3 = 36 := ⟨by decide +kernel, by decide, rfl⟩
theorem zd_B_tint_36 : decode zb_B_tint 36 = .ok (.aload_n 0, 1) ∧ 36 + 1 = 37 := ⟨by decide +kernel, rfl⟩
theorem zd_B_tint_37 : decode zb_B_tint 37 = .ok (.getfield 23, 3) ∧ 37 + 3 = 40 := ⟨by decide +kernel, rfl⟩
theorem zd_B_tint_40 : decode zb_B_tint 40 = .ok (.getfield 116, 3) ∧ 40 + 3 = 43 := ⟨by decide +kernel, rfl⟩
theorem zd_B_tint_43 : decode zb_B_tint 43 = .ok (.iload 4, 2) ∧ 43 + 2 = 45 := ⟨by decide +kernel, rfl⟩
theorem zd_B_tint_45 : decode zb_B_tint 45 = .ok (.iaload, 1) ∧ 45 + 1 = 46 := ⟨by decide +kernel, rfl⟩
theorem zd_B_tint_46 : decode zb_B_tint 46 = .ok (.iconst 4, 1) ∧ 46 + 1 = 47 := ⟨by decide +kernel, rfl⟩
theorem zd_B_tint_47 : decode zb_B_tint 47 = .ok (.if_icmp .eq 5, 3) ∧ ((47 : Nat) : Int) + (5) = ((52 : Nat) : Int) ∧ 47 + 3 = 50 := ⟨by decide +kernel, by decide, rfl⟩
theorem zd_B_tint_50 : decode zb_B_tint 50 = .ok (.iconst (-1), 1) ∧ 50 + 1 = 51 := ⟨by decide +kernel, rfl⟩
theorem zd_B_tint_51 : decode zb_B_tint 51 = .ok (.ireturn, 1) ∧ 51 + 1 = 52 := ⟨by decide +kernel, rfl⟩
theorem zd_B_tint_52 : decode zb_B_tint 52 = .ok (.aload_n 0, 1) ∧ 52 + 1 = 53 := ⟨by decide +kernel, rfl⟩
theorem zd_B_tint_53 : decode zb_B_tint 53 = .ok (.getfield 23, 3) ∧ 53 + 3 = 56 := ⟨by decide +kernel, rfl⟩
theorem zd_B_tint_56 : decode zb_B_tint 56 = .ok (.getfield 231, 3) ∧ 56 + 3 = 59 := ⟨by decide +kernel, rfl⟩
theorem zd_B_tint_59 : decode zb_B_tint 59 = .ok (.iload 4, 2) ∧ 59 + 2 = 61 := ⟨by decide +kernel, rfl⟩
theorem zd_B_tint_61 : decode zb_B_tint 61 = .ok (.iaload, 1) ∧ 61 + 1 = 62 := ⟨by decide +kernel, rfl⟩
theorem zd_B_tint_62 : decode zb_B_tint 62 = .ok (.istore 5, 2) ∧ 62 + 2 = 64 := ⟨by decide +kernel, rfl⟩
theorem zd_B_tint_64 : decode zb_B_tint 64 = .ok (.iconst (-1), 1) ∧ 64 + 1 = 65 := ⟨by decide +kernel, rfl⟩
theorem zd_B_tint_65 : decode zb_B_tint 65 = .ok (.istore 6, 2) ∧ 65 + 2 = 67 := ⟨by decide +kernel, rfl⟩
theorem zd_B_tint_67 : decode zb_B_tint 67 = .ok (.iconst 0, 1) ∧ 67 + 1 = 68 := ⟨by decide +kernel, rfl⟩
theorem zd_B_tint_68 : decode zb_B_tint 68 = .ok (.istore 7, 2) ∧ 68 + 2 = 70 := ⟨by decide +kernel, rfl⟩
theorem zd_B_tint_70 : decode zb_B_tint 70 = .ok (.iload 7, 2) ∧ 70 + 2 = 72 := ⟨by decide +kernel, rfl⟩
theorem zd_B_tint_72 : decode zb_B_tint 72 = .ok (.bipush 7, 2) ∧ 72 + 2 = 74 := ⟨by decide +kernel, rfl⟩
theorem zd_B_tint_74 : decode zb_B_tint 74 = .ok (.if_icmp .gt 42, 3) ∧ ((74 : Nat) : Int) + (42) = ((116 : Nat) : Int) ∧ 74 + 3 = 77 := ⟨by decide +kernel, by decide, rfl⟩
theorem zd_B_tint_77 : decode zb_B_tint 77 = .ok (.iload 6, 2) ∧ 77 + 2 = 79 := ⟨by decide +kernel, rfl⟩
theorem zd_B_tint_79 : decode zb_B_tint 79 = .ok (.iconst (-1), 1) ∧ 79 + 1 = 80 := ⟨by decide +kernel, rfl⟩
theorem zd_B_tint_80 : decode zb_B_tint 80 = .ok (.if_icmp .ne 36, 3) ∧ ((80 : Nat) : Int) + (36) = ((116 : Nat) : Int) ∧ 80 + 3 = 83 := ⟨by decide +kernel, by decide, rfl⟩
theorem zd_B_tint_83 : decode zb_B_tint 83 = .ok (.aload_n 0, 1) ∧ 83 + 1 = 84 := ⟨by decide +kernel, rfl⟩
theorem zd_B_tint_84 : decode zb_B_tint 84 = .ok (.getfield 23, 3) ∧ 84 + 3 = 87 := ⟨by decide +kernel, rfl⟩
theorem zd_B_tint_87 : decode zb_B_tint 87 = .ok (.getfield 231, 3) ∧ 87 + 3 = 90 := ⟨by decide +kernel, rfl⟩
theorem zd_B_tint_90 : decode zb_B_tint 90 = .ok (.iload 4, 2) ∧ 90 + 2 = 92 := ⟨by decide +kernel, rfl⟩
theorem zd_B_tint_92 : decode zb_B_tint 92 = .ok (.iload 7, 2) ∧ 92 + 2 = 94 := ⟨by decide +kernel, rfl⟩
theorem zd_B_tint_94 : decode zb_B_tint 94 = .ok (.iastore, 1) ∧ 94 + 1 = 95 := ⟨by decide +kernel, rfl⟩
theorem zd_B_tint_95 : decode zb_B_tint 95 = .ok (.aload_n 0, 1) ∧ 95 + 1 = 96 := ⟨by decide +kernel, rfl⟩
theorem zd_B_tint_96 : decode zb_B_tint 96 = .ok (.aload_n 0, 1) ∧ 96 + 1 = 97 := ⟨by decide +kernel, rfl⟩
theorem zd_B_tint_97 : decode zb_B_tint 97 = .ok (.getfield 70, 3) ∧ 97 + 3 = 100 := ⟨by decide +kernel, rfl⟩
theorem zd_B_tint_100 : decode zb_B_tint 100 = .ok (.invokevirtual 192, 3) ∧ 100 + 3 = 103 := ⟨by decide +kernel, rfl⟩
theorem zd_B_tint_103 : decode zb_B_tint 103 = .ok (.ifCond .eq 7, 3) ∧ ((103 : Nat) : Int) + (7) = ((110 : Nat) : Int) ∧ 103 + 3 = 106 := ⟨by decide +kernel, by decide, rfl⟩
theorem zd_B_tint_106 : decode zb_B_tint 106 = .ok (.iload 7, 2) ∧ 106 + 2 = 108 := ⟨by decide +kernel, rfl⟩
theorem zd_B_tint_108 : decode zb_B_tint 108 = .ok (.istore 6, 2) ∧ 108 + 2 = 110 := ⟨by decide +kernel, rfl⟩
theorem zd_B_tint_110 : decode zb_B_tint 110 = .ok (.iinc 7 1, 3) ∧ 110 + 3 = 113 := ⟨by decide +kernel, rfl⟩
theorem zd_B_tint_113 : decode zb_B_tint 113 = .ok (.goto (-43), 3) ∧ ((113 : Nat) : Int) + (-43) = ((70 : Nat) : Int) ∧ 113 + 3 = 116 := ⟨by decide +kernel, by decide, rfl⟩
theorem zd_B_tint_116 : decode zb_B_tint 116 = .ok (.aload_n 0, 1) ∧ 116 + 1 = 117 := ⟨by decide +kernel, rfl⟩
theorem zd_B_tint_117 : decode zb_B_tint 117 = .ok (.getfield 23, 3) ∧ 117 + 3 = 120 := ⟨by decide +kernel, rfl⟩
theorem zd_B_tint_120 : decode zb_B_tint 120 = .ok (.getfield 231, 3) ∧ 120 + 3 = 123 := ⟨by decide +kernel, rfl⟩
theorem zd_B_tint_123 : decode zb_B_tint 123 = .ok (.iload 4, 2) ∧ 123 + 2 = 125 := ⟨by decide +kernel, rfl⟩
theorem zd_B_tint_125 : decode zb_B_tint 125 = .ok (.iload 5, 2) ∧ 125 + 2 = 127 := ⟨by decide +kernel, rfl⟩
theorem zd_B_tint_127 : decode zb_B_tint 127 = .ok (.iastore, 1) ∧ 127 + 1 = 128 := ⟨by decide +kernel, rfl⟩
theorem zd_B_tint_128 : decode zb_B_tint 128 = .ok (.iload 6, 2) ∧ 128 + 2 = 130 := ⟨by decide +kernel, rfl⟩
theorem zd_B_tint_130 : decode zb_B_tint 130 = .ok (.ireturn, 1) ∧ 130 + 1 = 131 := ⟨by decide +kernel, rfl⟩
theorem zd_B_swapped_0 : decode zb_B_swapped 0 = .ok (.aload_n 0, 1) ∧ 0 + 1 = 1 := ⟨by decide +kernel, rfl⟩
theorem zd_B_swapped_1 : decode zb_B_swapped 1 = .ok (.getfield 23, 3) ∧ 1 + 3 = 4 := ⟨by decide +kernel, rfl⟩
theorem zd_B_swapped_4 : decode zb_B_swapped 4 = .ok (.iload_n 1, 1) ∧ 4 + 1 = 5 := ⟨by decide +kernel, rfl⟩
theorem zd_B_swapped_5 : decode zb_B_swapped 5 = .ok (.iload_n 2, 1) ∧ 5 + 1 = 6 := ⟨by decide +kernel, rfl⟩
theorem zd_B_swapped_6 : decode zb_B_swapped 6 = .ok (.invokevirtual 110, 3) ∧ 6 + 3 = 9 := ⟨by decide +kernel, rfl⟩
theorem zd_B_swapped_9 : decode zb_B_swapped 9 = .ok (.istore 5, 2) ∧ 9 + 2 = 11 := ⟨by decide +kernel, rfl⟩
theorem zd_B_swapped_11 : decode zb_B_swapped 11 = .ok (.aload_n 0, 1) ∧ 11 + 1 = 12 := ⟨by decide +kernel, rfl⟩
theorem zd_B_swapped_12 : decode zb_B_swapped 12 = .ok (.getfield 23, 3) ∧ 12 + 3 = 15 := ⟨by decide +kernel, rfl⟩
theorem zd_B_swapped_15 : decode zb_B_swapped 15 = .ok (.iload_n 3, 1) ∧ 15 + 1 = 16 := ⟨by decide +kernel, rfl⟩
theorem zd_B_swapped_16 : decode zb_B_swapped 16 = .ok (.iload 4, 2) ∧ 16 + 2 = 18 := ⟨by decide +kernel, rfl⟩
theorem zd_B_swapped_18 : decode zb_B_swapped 18 = .ok (.invokevirtual 110, 3) ∧ 18 + 3 = 21 := ⟨by decide +kernel, rfl⟩
theorem zd_B_swapped_21 : decode zb_B_swapped 21 = .ok (.istore 6, 2) ∧ 21 + 2 = 23 := ⟨by decide +kernel, rfl⟩
theorem zd_B_swapped_23 : decode zb_B_swapped 23 = .ok (.iload 5, 2) ∧ 23 + 2 = 25 := ⟨by decide +kernel, rfl⟩
theorem zd_B_swapped_25 : decode zb_B_swapped 25 = .ok (.iconst (-1), 1) ∧ 25 + 1 = 26 := ⟨by decide +kernel, rfl⟩
theorem zd_B_swapped_26 : decode zb_B_swapped 26 = .ok (.if_icmp .eq 16, 3) ∧ ((26 : Nat) : Int) + (16) = ((42 : Nat) : Int) ∧ 26 + 3 = 29 := ⟨by decide +kernel, by decide, rfl⟩
theorem zd_B_swapped_29 : decode zb_B_swapped 29 = .ok (.iload 6, 2) ∧ 29 + 2 = 31 := ⟨by decide +kernel, rfl⟩
theorem zd_B_swapped_31 : decode zb_B_swapped 31 = .ok (.iconst (-1), 1) ∧ 31 + 1 = 32 := ⟨by decide +kernel, rfl⟩
theorem zd_B_swapped_32 : decode zb_B_swapped 32 = .ok (.if_icmp .eq 10, 3) ∧ ((32 : Nat) : Int) + (10) = ((42 : Nat) : Int) ∧ 32 + 3 = 35 := ⟨by decide +kernel, by decide, rfl⟩
theorem zd_B_swapped_35 : decode zb_B_swapped 35 = .ok (.iload 5, 2) ∧ 35 + 2 = 37 := ⟨by decide +kernel, rfl⟩
theorem zd_B_swapped_37 : decode zb_B_swapped 37 = .ok (.iload 6, 2) ∧ 37 + 2 = 39 := ⟨by decide +kernel, rfl⟩
theorem zd_B_swapped_39 : decode zb_B_swapped 39 = .ok (.if_icmp .ne 5, 3) ∧ ((39 : Nat) : Int) + (5) = ((44 : Nat) : Int) ∧ 39 + 3 = 42 := ⟨by decide +kernel, by decide, rfl⟩
theorem zd_B_swapped_42 : decode zb_B_swapped 42 = .ok (.iconst (-1), 1) ∧ 42 + 1 = 43 := ⟨by decide +kernel, rfl⟩
theorem zd_B_swapped_43 : decode zb_B_swapped 43 = .ok (.ireturn, 1) ∧ 43 + 1 = 44 := ⟨by decide +kernel, rfl⟩
theorem zd_B_swapped_44 : decode zb_B_swapped 44 = .ok (.aload_n 0, 1) ∧ 44 + 1 = 45 := ⟨by decide +kernel, rfl⟩
theorem zd_B_swapped_45 : decode zb_B_swapped 45 = .ok (.getfield 23, 3) ∧ 45 + 3 = 48 := ⟨by decide +kernel, rfl⟩
theorem zd_B_swapped_48 : decode zb_B_swapped 48 = .ok (.getfield 113, 3) ∧ 48 + 3 = 51 := ⟨by decide +kernel, rfl⟩
theorem zd_B_swapped_51 : decode zb_B_swapped 51 = .ok (.iload 5, 2) ∧ 51 + 2 = 53 := ⟨by decide +kernel, rfl⟩
theorem zd_B_swapped_53 : decode zb_B_swapped 53 = .ok (.iaload, 1) ∧ 53 + 1 = 54 := ⟨by decide +kernel, rfl⟩
theorem zd_B_swapped_54 : decode zb_B_swapped 54 = .ok (.istore 7, 2) ∧ 54 + 2 = 56 := ⟨by decide +kernel, rfl⟩
theorem zd_B_swapped_56 : decode zb_B_swapped 56 = .ok (.aload_n 0, 1) ∧ 56 + 1 = 57 := ⟨by decide +kernel, rfl⟩
theorem zd_B_swapped_57 : decode zb_B_swapped 57 = .ok (.getfield 23, 3) ∧ 57 + 3 = 60 := ⟨by decide +kernel, rfl⟩
theorem zd_B_swapped_60 : decode zb_B_swapped 60 = .ok (.getfield 113, 3) ∧ 60 + 3 = 63 := ⟨by decide +kernel, rfl⟩
theorem zd_B_swapped_63 : decode zb_B_swapped 63 = .ok (.iload 6, 2) ∧ 63 + 2 = 65 := ⟨by decide +kernel, rfl⟩
theorem zd_B_swapped_65 : decode zb_B_swapped 65 = .ok (.iaload, 1) ∧ 65 + 1 = 66 := ⟨by decide +kernel, rfl⟩
theorem zd_B_swapped_66 : decode zb_B_swapped 66 = .ok (.istore 8, 2) ∧ 66 + 2 = 68 := ⟨by decide +kernel, rfl⟩
theorem zd_B_swapped_68 : decode zb_B_swapped 68 = .ok (.aload_n 0, 1) ∧ 68 + 1 = 69 := ⟨by decide +kernel, rfl⟩
theorem zd_B_swapped_69 : decode zb_B_swapped 69 = .ok (.getfield 23, 3) ∧ 69 + 3 = 72 := ⟨by decide +kernel, rfl⟩
theorem zd_B_swapped_72 : decode zb_B_swapped 72 = .ok (.iload 8, 2) ∧ 72 + 2 = 74 := ⟨by decide +kernel, rfl⟩
theorem zd_B_swapped_74 : decode zb_B_swapped 74 = .ok (.iload 5, 2) ∧ 74 + 2 = 76 := ⟨by decide +kernel, rfl⟩
theorem zd_B_swapped_76 : decode zb_B_swapped 76 = .ok (.invokevirtual 198, 3) ∧ 76 + 3 = 79 := ⟨by decide +kernel, rfl⟩
theorem zd_B_swapped_79 : decode zb_B_swapped 79 = .ok (.aload_n 0, 1) ∧ 79 + 1 = 80 := ⟨by decide +kernel, rfl⟩
theorem zd_B_swapped_80 : decode zb_B_swapped 80 = .ok (.getfield 23, 3) ∧ 80 + 3 = 83 := ⟨by decide +kernel, rfl⟩
theorem zd_B_swapped_83 : decode zb_B_swapped 83 = .ok (.iload 7, 2) ∧ 83 + 2 = 85 := ⟨by decide +kernel, rfl⟩
theorem zd_B_swapped_85 : decode zb_B_swapped 85 = .ok (.iload 6, 2) ∧ 85 + 2 = 87 := ⟨by decide +kernel, rfl⟩
theorem zd_B_swapped_87 : decode zb_B_swapped 87 = .ok (.invokevirtual 198, 3) ∧ 87 + 3 = 90 := ⟨by decide +kernel, rfl⟩
theorem zd_B_swapped_90 : decode zb_B_swapped 90 = .ok (.aload_n 0, 1) ∧ 90 + 1 = 91 := ⟨by decide +kernel, rfl⟩
theorem zd_B_swapped_91 : decode zb_B_swapped 91 = .ok (.aload_n 0, 1) ∧ 91 + 1 = 92 := ⟨by decide +kernel, rfl⟩
theorem zd_B_swapped_92 : decode zb_B_swapped 92 = .ok (.getfield 70, 3) ∧ 92 + 3 = 95 := ⟨by decide +kernel, rfl⟩
theorem zd_B_swapped_95 : decode zb_B_swapped 95 = .ok (.invokevirtual 192, 3) ∧ 95 + 3 = 98 := ⟨by decide +kernel, rfl⟩
theorem zd_B_swapped_98 : decode zb_B_swapped 98 = .ok (.istore 9, 2) ∧ 98 + 2 = 100 := ⟨by decide +kernel, rfl⟩
theorem zd_B_swapped_100 : decode zb_B_swapped 100 = .ok (.aload_n 0, 1) ∧ 100 + 1 = 101 := ⟨by decide +kernel, rfl⟩
theorem zd_B_swapped_101 : decode zb_B_swapped 101 = .ok (.getfield 23, 3) ∧ 101 + 3 = 104 := ⟨by decide +kernel, rfl⟩
theorem zd_B_swapped_104 : decode zb_B_swapped 104 = .ok (.iload 7, 2) ∧ 104 + 2 = 106 := ⟨by decide +kernel, rfl⟩
theorem zd_B_swapped_106 : decode zb_B_swapped 106 = .ok (.iload 5, 2) ∧ 106 + 2 = 108 := ⟨by decide +kernel, rfl⟩
theorem zd_B_swapped_108 : decode zb_B_swapped 108 = .ok (.invokevirtual 198, 3) ∧ 108 + 3 = 111 := ⟨by decide +kernel, rfl⟩
theorem zd_B_swapped_111 : decode zb_B_swapped 111 = .ok (.aload_n 0, 1) ∧ 111 + 1 = 112 := ⟨by decide +kernel, rfl⟩
theorem zd_B_swapped_112 : decode zb_B_swapped 112 = .ok (.getfield 23, 3) ∧ 112 + 3 = 115 := ⟨by decide +kernel, rfl⟩
theorem zd_B_swapped_115 : decode zb_B_swapped 115 = .ok (.iload 8, 2) ∧ 115 + 2 = 117 := ⟨by decide +kernel, rfl⟩
theorem zd_B_swapped_117 : decode zb_B_swapped 117 = .ok (.iload 6, 2) ∧ 117 + 2 = 119 := ⟨by decide +kernel, rfl⟩
theorem zd_B_swapped_119 : decode zb_B_swapped 119 = .ok (.invokevirtual 198, 3) ∧ 119 + 3 = 122 := ⟨by decide +kernel, rfl⟩
theorem zd_B_swapped_122 : decode zb_B_swapped 122 = .ok (.iload 9, 2) ∧ 122 + 2 = 124 := ⟨by decide +kernel, rfl⟩
theorem zd_B_swapped_124 : decode zb_B_swapped 124 = .ok (.ifCond .eq 7, 3) ∧ ((124 : Nat) : Int) + (7) = ((131 : Nat) : Int) ∧ 124 + 3 = 127 := ⟨by decide +kernel, by decide, rfl⟩
theorem zd_B_swapped_127 : decode zb_B_swapped 127 = .ok (.iconst 1, 1) ∧ 127 + 1 = 128 := ⟨by decide +kernel, rfl⟩
theorem zd_B_swapped_128 : decode zb_B_swapped 128 = .ok (.goto 4, 3) ∧ ((128 : Nat) : Int) + (4) = ((132 : Nat) : Int) ∧ 128 + 3 = 131 := ⟨by decide +kernel, by decide, rfl⟩
theorem zd_B_swapped_131 : decode zb_B_swapped 131 = .ok (.iconst 0, 1) ∧ 131 + 1 = 132 := ⟨by decide +kernel, rfl⟩
theorem zd_B_swapped_132 : decode zb_B_swapped 132 = .ok (.ireturn, 1) ∧ 132 + 1 = 133 := ⟨by decide +kernel, rfl⟩
theorem zd_B_reach_0 : decode zb_B_reach 0 = .ok (.aload_n 0, 1) ∧ 0 + 1 = 1 := ⟨by decide +kernel, rfl⟩
theorem zd_B_reach_1 : decode zb_B_reach 1 = .ok (.iload_n 1, 1) ∧ 1 + 1 = 2 := ⟨by decide +kernel, rfl⟩
theorem zd_B_reach_2 : decode zb_B_reach 2 = .ok (.iconst 0, 1) ∧ 2 + 1 = 3 := ⟨by decide +kernel, rfl⟩
theorem zd_B_reach_3 : decode zb_B_reach 3 = .ok (.invokevirtual 102, 3) ∧ 3 + 3 = 6 := ⟨by decide +kernel, rfl⟩
theorem zd_B_reach_6 : decode zb_B_reach 6 = .ok (.ifCond .eq 19, 3) ∧ ((6 : Nat) : Int) + (19) = ((25 : Nat) : Int) ∧ 6 + 3 = 9 := ⟨by decide +kernel, by decide, rfl⟩
theorem zd_B_reach_9 : decode zb_B_reach 9 = .ok (.aload_n 0, 1) ∧ 9 + 1 = 10 := ⟨by decide +kernel, rfl⟩
theorem zd_B_reach_10 : decode zb_B_reach 10 = .ok (.iload_n 2, 1) ∧ 10 + 1 = 11 := ⟨by decide +kernel, rfl⟩
theorem zd_B_reach_11 : decode zb_B_reach 11 = .ok (.iconst 3, 1) ∧ 11 + 1 = 12 := ⟨by decide +kernel, rfl⟩
theorem zd_B_reach_12 : decode zb_B_reach 12 = .ok (.invokevirtual 102, 3) ∧ 12 + 3 = 15 := ⟨by decide +kernel, rfl⟩
theorem zd_B_reach_15 : decode zb_B_reach 15 = .ok (.ifCond .eq 10, 3) ∧ ((15 : Nat) : Int) + (10) = ((25 : Nat) : Int) ∧ 15 + 3 = 18 := ⟨by decide +kernel, by decide, rfl⟩
theorem zd_B_reach_18 : decode zb_B_reach 18 = .ok (.iload_n 3, 1) ∧ 18 + 1 = 19 := ⟨by decide +kernel, rfl⟩
theorem zd_B_reach_19 : decode zb_B_reach 19 = .ok (.invokestatic 150, 3) ∧ 19 + 3 = 22 := ⟨by decide +kernel, rfl⟩
theorem zd_B_reach_22 : decode zb_B_reach 22 = .ok (.ifCond .ne 5, 3) ∧ ((22 : Nat) : Int) + (5) = ((27 : Nat) : Int) ∧ 22 + 3 = 25 := ⟨by decide +kernel, by decide, rfl⟩
theorem zd_B_reach_25 : decode zb_B_reach 25 = .ok (.iconst (-1), 1) ∧ 25 + 1 = 26 := ⟨by decide +kernel, rfl⟩
theorem zd_B_reach_26 : decode zb_B_reach 26 = .ok (.ireturn, 1) ∧ 26 + 1 = 27 := ⟨by decide +kernel, rfl⟩
theorem zd_B_reach_27 : decode zb_B_reach 27 = .ok (.aload_n 0, 1) ∧ 27 + 1 = 28 := ⟨by decide +kernel, rfl⟩
theorem zd_B_reach_28 : decode zb_B_reach 28 = .ok (.iconst 1, 1) ∧ 28 + 1 = 29 := ⟨by decide +kernel, rfl⟩
theorem zd_B_reach_29 : decode zb_B_reach 29 = .ok (.iload_n 1, 1) ∧ 29 + 1 = 30 := ⟨by decide +kernel, rfl⟩
theorem zd_B_reach_30 : decode zb_B_reach 30 = .ok (.ishl, 1) ∧ 30 + 1 = 31 := ⟨by decide +kernel, rfl⟩
theorem zd_B_reach_31 : decode zb_B_reach 31 = .ok (.iload_n 3, 1) ∧ 31 + 1 = 32 := ⟨by decide +kernel, rfl⟩
theorem zd_B_reach_32 : decode zb_B_reach 32 = .ok (.invokevirtual 234, 3) ∧ 32 + 3 = 35 := ⟨by decide +kernel, rfl⟩
theorem zd_B_reach_35 : decode zb_B_reach 35 = .ok (.aload_n 0, 1) ∧ 35 + 1 = 36 := ⟨by decide +kernel, rfl⟩
theorem zd_B_reach_36 : decode zb_B_reach 36 = .ok (.getfield 23, 3) ∧ 36 + 3 = 39 := ⟨by decide +kernel, rfl⟩
theorem zd_B_reach_39 : decode zb_B_reach 39 = .ok (.iconst 3, 1) ∧ 39 + 1 = 40 := ⟨by decide +kernel, rfl⟩
theorem zd_B_reach_40 : decode zb_B_reach 40 = .ok (.iload_n 2, 1) ∧ 40 + 1 = 41 := ⟨by decide +kernel, rfl⟩
theorem zd_B_reach_41 : decode zb_B_reach 41 = .ok (.invokevirtual 238, 3) ∧ 41 + 3 = 44 := ⟨by decide +kernel, rfl⟩
theorem zd_B_reach_44 : decode zb_B_reach 44 = .ok (.invokevirtual 241, 3) ∧ 44 + 3 = 47 := ⟨by decide +kernel, rfl⟩
theorem zd_B_reach_47 : decode zb_B_reach 47 = .ok (.ireturn, 1) ∧ 47 + 1 = 48 := ⟨by decide +kernel, rfl⟩
theorem zd_B_behind_0 : decode zb_B_behind 0 = .ok (.aload_n 0, 1) ∧ 0 + 1 = 1 := ⟨by decide +kernel, rfl⟩
theorem zd_B_behind_1 : decode zb_B_behind 1 = .ok (.iload_n 1, 1) ∧ 1 + 1 = 2 := ⟨by decide +kernel, rfl⟩
theorem zd_B_behind_2 : decode zb_B_behind 2 = .ok (.iconst 3, 1) ∧ 2 + 1 = 3 := ⟨by decide +kernel, rfl⟩
theorem zd_B_behind_3 : decode zb_B_behind 3 = .ok (.invokevirtual 102, 3) ∧ 3 + 3 = 6 := ⟨by decide +kernel, rfl⟩
theorem zd_B_behind_6 : decode zb_B_behind 6 = .ok (.ifCond .ne 5, 3) ∧ ((6 : Nat) : Int) + (5) = ((11 : Nat) : Int) ∧ 6 + 3 = 9 := ⟨by decide +kernel, by decide, rfl⟩
theorem zd_B_behind_9 : decode zb_B_behind 9 = .ok (.iconst (-1), 1) ∧ 9 + 1 = 10 := ⟨by decide +kernel, rfl⟩
theorem zd_B_behind_10 : decode zb_B_behind 10 = .ok (.ireturn, 1) ∧ 10 + 1 = 11 := ⟨by decide +kernel, rfl⟩
theorem zd_B_behind_11 : decode zb_B_behind 11 = .ok (.iconst 0, 1) ∧ 11 + 1 = 12 := ⟨by decide +kernel, rfl⟩
theorem zd_B_behind_12 : decode zb_B_behind 12 = .ok (.istore_n 2, 1) ∧ 12 + 1 = 13 := ⟨by decide +kernel, rfl⟩
theorem zd_B_behind_13 : decode zb_B_behind 13 = .ok (.iconst 0, 1) ∧ 13 + 1 = 14 := ⟨by decide +kernel, rfl⟩
theorem zd_B_behind_14 : decode zb_B_behind 14 = .ok (.istore_n 3, 1) ∧ 14 + 1 = 15 := ⟨by decide +kernel, rfl⟩
theorem zd_B_behind_15 : decode zb_B_behind 15 = .ok (.iload_n 3, 1) ∧ 15 + 1 = 16 := ⟨by decide +kernel, rfl⟩
theorem zd_B_behind_16 : decode zb_B_behind 16 = .ok (.aload_n 0, 1) ∧ 16 + 1 = 17 := ⟨by decide +kernel, rfl⟩
theorem zd_B_behind_17 : decode zb_B_behind 17 = .ok (.getfield 23, 3) ∧ 17 + 3 = 20 := ⟨by decide +kernel, rfl⟩
theorem zd_B_behind_20 : decode zb_B_behind 20 = .ok (.getfield 97, 3) ∧ 20 + 3 = 23 := ⟨by decide +kernel, rfl⟩
theorem zd_B_behind_23 : decode zb_B_behind 23 = .ok (.iconst 0, 1) ∧ 23 + 1 = 24 := ⟨by decide +kernel, rfl⟩
theorem zd_B_behind_24 : decode zb_B_behind 24 = .ok (.iaload, 1) ∧ 24 + 1 = 25 := ⟨by decide +kernel, rfl⟩
theorem zd_B_behind_25 : decode zb_B_behind 25 = .ok (.if_icmp .ge 32, 3) ∧ ((25 : Nat) : Int) + (32) = ((57 : Nat) : Int) ∧ 25 + 3 = 28 := ⟨by decide +kernel, by decide, rfl⟩
theorem zd_B_behind_28 : decode zb_B_behind 28 = .ok (.aload_n 0, 1) ∧ 28 + 1 = 29 := ⟨by decide +kernel, rfl⟩
theorem zd_B_behind_29 : decode zb_B_behind 29 = .ok (.iconst 1, 1) ∧ 29 + 1 = 30 := ⟨by decide +kernel, rfl⟩
theorem zd_B_behind_30 : decode zb_B_behind 30 = .ok (.iload_n 3, 1) ∧ 30 + 1 = 31 := ⟨by decide +kernel, rfl⟩
theorem zd_B_behind_31 : decode zb_B_behind 31 = .ok (.ishl, 1) ∧ 31 + 1 = 32 := ⟨by decide +kernel, rfl⟩
theorem zd_B_behind_32 : decode zb_B_behind 32 = .ok (.bipush 7, 2) ∧ 32 + 2 = 34 := ⟨by decide +kernel, rfl⟩
theorem zd_B_behind_34 : decode zb_B_behind 34 = .ok (.invokevirtual 234, 3) ∧ 34 + 3 = 37 := ⟨by decide +kernel, rfl⟩
theorem zd_B_behind_37 : decode zb_B_behind 37 = .ok (.getfield 160, 3) ∧ 37 + 3 = 40 := ⟨by decide +kernel, rfl⟩
theorem zd_B_behind_40 : decode zb_B_behind 40 = .ok (.iload_n 1, 1) ∧ 40 + 1 = 41 := ⟨by decide +kernel, rfl⟩
theorem zd_B_behind_41 : decode zb_B_behind 41 = .ok (.iaload, 1) ∧ 41 + 1 = 42 := ⟨by decide +kernel, rfl⟩
theorem zd_B_behind_42 : decode zb_B_behind 42 = .ok (.ifCond .eq 9, 3) ∧ ((42 : Nat) : Int) + (9) = ((51 : Nat) : Int) ∧ 42 + 3 = 45 := ⟨by decide +kernel, by decide, rfl⟩
theorem zd_B_behind_45 : decode zb_B_behind 45 = .ok (.iload_n 2, 1) ∧ 45 + 1 = 46 := ⟨by decide +kernel, rfl⟩
theorem zd_B_behind_46 : decode zb_B_behind 46 = .ok (.iconst 1, 1) ∧ 46 + 1 = 47 := ⟨by decide +kernel, rfl⟩
theorem zd_B_behind_47 : decode zb_B_behind 47 = .ok (.iload_n 3, 1) ∧ 47 + 1 = 48 := ⟨by decide +kernel, rfl⟩
theorem zd_B_behind_48 : decode zb_B_behind 48 = .ok (.ishl, 1) ∧ 48 + 1 = 49 := ⟨by decide +kernel, rfl⟩
theorem zd_B_behind_49 : decode zb_B_behind 49 = .ok (.ior, 1) ∧ 49 + 1 = 50 := ⟨by decide +kernel, rfl⟩
theorem zd_B_behind_50 : decode zb_B_behind 50 = .ok (.istore_n 2, 1) ∧ 50 + 1 = 51 := ⟨by decide +kernel, rfl⟩
theorem zd_B_behind_51 : decode zb_B_behind 51 = .ok (.iinc 3 1, 3) ∧ 51 + 3 = 54 := ⟨by decide +kernel, rfl⟩
theorem zd_B_behind_54 : decode zb_B_behind 54 = .ok (.goto (-39), 3) ∧ ((54 : Nat) : Int) + (-39) = ((15 : Nat) : Int) ∧ 54 + 3 = 57 := ⟨by decide +kernel, by decide, rfl⟩
theorem zd_B_behind_57 : decode zb_B_behind 57 = .ok (.iload_n 2, 1) ∧ 57 + 1 = 58 := ⟨by decide +kernel, rfl⟩
theorem zd_B_behind_58 : decode zb_B_behind 58 = .ok (.ireturn, 1) ∧ 58 + 1 = 59 := ⟨by decide +kernel, rfl⟩
theorem zd_B_rings_0 : decode zb_B_rings 0 = .ok (.iload_n 1, 1) ∧ 0 + 1 = 1 := ⟨by decide +kernel, rfl⟩
theorem zd_B_rings_1 : decode zb_B_rings 1 = .ok (.invokestatic 150, 3) ∧ 1 + 3 = 4 := ⟨by decide +kernel, rfl⟩
theorem zd_B_rings_4 : decode zb_B_rings 4 = .ok (.ifCond .ne 5, 3) ∧ ((4 : Nat) : Int) + (5) = ((9 : Nat) : Int) ∧ 4 + 3 = 7 := ⟨by decide +kernel, by decide, rfl⟩
theorem zd_B_rings_7 : decode zb_B_rings 7 = .ok (.iconst (-1), 1) ∧ 7 + 1 = 8 := ⟨by decide +kernel, rfl⟩
theorem zd_B_rings_8 : decode zb_B_rings 8 = .ok (.ireturn, 1) ∧ 8 + 1 = 9 := ⟨by decide +kernel, rfl⟩
theorem zd_B_rings_9 : decode zb_B_rings 9 = .ok (.aload_n 0, 1) ∧ 9 + 1 = 10 := ⟨by decide +kernel, rfl⟩
theorem zd_B_rings_10 : decode zb_B_rings 10 = .ok (.sipush 255, 3) ∧ 10 + 3 = 13 := ⟨by decide +kernel, rfl⟩
theorem zd_B_rings_13 : decode zb_B_rings 13 = .ok (.iload_n 1, 1) ∧ 13 + 1 = 14 := ⟨by decide +kernel, rfl⟩
theorem zd_B_rings_14 : decode zb_B_rings 14 = .ok (.invokevirtual 234, 3) ∧ 14 + 3 = 17 := ⟨by decide +kernel, rfl⟩
theorem zd_B_rings_17 : decode zb_B_rings 17 = .ok (.astore_n 2, 1) ∧ 17 + 1 = 18 := ⟨by decide +kernel, rfl⟩
theorem zd_B_rings_18 : decode zb_B_rings 18 = .ok (.aload_n 0, 1) ∧ 18 + 1 = 19 := ⟨by decide +kernel, rfl⟩
theorem zd_B_rings_19 : decode zb_B_rings 19 = .ok (.getfield 41, 3) ∧ 19 + 3 = 22 := ⟨by decide +kernel, rfl⟩
theorem zd_B_rings_22 : decode zb_B_rings 22 = .ok (.iconst 0, 1) ∧ 22 + 1 = 23 := ⟨by decide +kernel, rfl⟩
theorem zd_B_rings_23 : decode zb_B_rings 23 = .ok (.invokestatic 244, 3) ∧ 23 + 3 = 26 := ⟨by decide +kernel, rfl⟩
theorem zd_B_rings_26 : decode zb_B_rings 26 = .ok (.iconst 0, 1) ∧ 26 + 1 = 27 := ⟨by decide +kernel, rfl⟩
theorem zd_B_rings_27 : decode zb_B_rings 27 = .ok (.istore_n 3, 1) ∧ 27 + 1 = 28 := ⟨by decide +kernel, rfl⟩
theorem zd_B_rings_28 : decode zb_B_rings 28 = .ok (.iconst 0, 1) ∧ 28 + 1 = 29 := ⟨by decide +kernel, rfl⟩
theorem zd_B_rings_29 : decode zb_B_rings 29 = .ok (.istore 4, 2) ∧ 29 + 2 = 31 := ⟨by decide +kernel, rfl⟩
theorem zd_B_rings_31 : decode zb_B_rings 31 = .ok (.iload 4, 2) ∧ 31 + 2 = 33 := ⟨by decide +kernel, rfl⟩
theorem zd_B_rings_33 : decode zb_B_rings 33 = .ok (.aload_n 2, 1) ∧ 33 + 1 = 34 := ⟨by decide +kernel, rfl⟩
theorem zd_B_rings_34 : decode zb_B_rings 34 = .ok (.getfield 250, 3) ∧ 34 + 3 = 37 := ⟨by decide +kernel, rfl⟩
theorem zd_B_rings_37 : decode zb_B_rings 37 = .ok (.if_icmp .ge 69, 3) ∧ ((37 : Nat) : Int) + (69) = ((106 : Nat) : Int) ∧ 37 + 3 = 40 := ⟨by decide +kernel, by decide, rfl⟩
theorem zd_B_rings_40 : decode zb_B_rings 40 = .ok (.aload_n 2, 1) ∧ 40 + 1 = 41 := ⟨by decide +kernel, rfl⟩
theorem zd_B_rings_41 : decode zb_B_rings 41 = .ok (.iload 4, 2) ∧ 41 + 2 = 43 := ⟨by decide +kernel, rfl⟩
theorem zd_B_rings_43 : decode zb_B_rings 43 = .ok (.invokevirtual 253, 3) ∧ 43 + 3 = 46 := ⟨by decide +kernel, rfl⟩
theorem zd_B_rings_46 : decode zb_B_rings 46 = .ok (.istore 5, 2) ∧ 46 + 2 = 48 := ⟨by decide +kernel, rfl⟩
theorem zd_B_rings_48 : decode zb_B_rings 48 = .ok (.iload 5, 2) ∧ 48 + 2 = 50 := ⟨by decide +kernel, rfl⟩
theorem zd_B_rings_50 : decode zb_B_rings 50 = .ok (.iconst 4, 1) ∧ 50 + 1 = 51 := ⟨by decide +kernel, rfl⟩
theorem zd_B_rings_51 : decode zb_B_rings 51 = .ok (.idiv, 1) ∧ 51 + 1 = 52 := ⟨by decide +kernel, rfl⟩
theorem zd_B_rings_52 : decode zb_B_rings 52 = .ok (.istore 6, 2) ∧ 52 + 2 = 54 := ⟨by decide +kernel, rfl⟩
theorem zd_B_rings_54 : decode zb_B_rings 54 = .ok (.aload_n 0, 1) ∧ 54 + 1 = 55 := ⟨by decide +kernel, rfl⟩
theorem zd_B_rings_55 : decode zb_B_rings 55 = .ok (.getfield 41, 3) ∧ 55 + 3 = 58 := ⟨by decide +kernel, rfl⟩
theorem zd_B_rings_58 : decode zb_B_rings 58 = .ok (.iload 6, 2) ∧ 58 + 2 = 60 := ⟨by decide +kernel, rfl⟩
theorem zd_B_rings_60 : decode zb_B_rings 60 = .ok (.iaload, 1) ∧ 60 + 1 = 61 := ⟨by decide +kernel, rfl⟩
theorem zd_B_rings_61 : decode zb_B_rings 61 = .ok (.ifCond .ne 39, 3) ∧ ((61 : Nat) : Int) + (39) = ((100 : Nat) : Int) ∧ 61 + 3 = 64 := ⟨by decide +kernel, by decide, rfl⟩
theorem zd_B_rings_64 : decode zb_B_rings 64 = .ok (.aload_n 0, 1) ∧ 64 + 1 = 65 := ⟨by decide +kernel, rfl⟩
theorem zd_B_rings_65 : decode zb_B_rings 65 = .ok (.getfield 37, 3) ∧ 65 + 3 = 68 := ⟨by decide +kernel, rfl⟩
theorem zd_B_rings_68 : decode zb_B_rings 68 = .ok (.aload_n 0, 1) ∧ 68 + 1 = 69 := ⟨by decide +kernel, rfl⟩
theorem zd_B_rings_69 : decode zb_B_rings 69 = .ok (.getfield 23, 3) ∧ 69 + 3 = 72 := ⟨by decide +kernel, rfl⟩
theorem zd_B_rings_72 : decode zb_B_rings 72 = .ok (.aload_n 0, 1) ∧ 72 + 1 = 73 := ⟨by decide +kernel, rfl⟩
theorem zd_B_rings_73 : decode zb_B_rings 73 = .ok (.getfield 70, 3) ∧ 73 + 3 = 76 := ⟨by decide +kernel, rfl⟩
theorem zd_B_rings_76 : decode zb_B_rings 76 = .ok (.aload_n 0, 1) ∧ 76 + 1 = 77 := ⟨by decide +kernel, rfl⟩
theorem zd_B_rings_77 : decode zb_B_rings 77 = .ok (.getfield 73, 3) ∧ 77 + 3 = 80 := ⟨by decide +kernel, rfl⟩
theorem zd_B_rings_80 : decode zb_B_rings 80 = .ok (.iload 5, 2) ∧ 80 + 2 = 82 := ⟨by decide +kernel, rfl⟩
theorem zd_B_rings_82 : decode zb_B_rings 82 = .ok (.iload_n 1, 1) ∧ 82 + 1 = 83 := ⟨by decide +kernel, rfl⟩
theorem zd_B_rings_83 : decode zb_B_rings 83 = .ok (.invokevirtual 256, 3) ∧ 83 + 3 = 86 := ⟨by decide +kernel, rfl⟩
theorem zd_B_rings_86 : decode zb_B_rings 86 = .ok (.ifCond .eq 14, 3) ∧ ((86 : Nat) : Int) + (14) = ((100 : Nat) : Int) ∧ 86 + 3 = 89 := ⟨by decide +kernel, by decide, rfl⟩
theorem zd_B_rings_89 : decode zb_B_rings 89 = .ok (.aload_n 0, 1) ∧ 89 + 1 = 90 := ⟨by decide +kernel, rfl⟩
theorem zd_B_rings_90 : decode zb_B_rings 90 = .ok (.getfield 41, 3) ∧ 90 + 3 = 93 := ⟨by decide +kernel, rfl⟩
theorem zd_B_rings_93 : decode zb_B_rings 93 = .ok (.iload 6, 2) ∧ 93 + 2 = 95 := ⟨by decide +kernel, rfl⟩
theorem zd_B_rings_95 : decode zb_B_rings 95 = .ok (.iconst 1, 1) ∧ 95 + 1 = 96 := ⟨by decide +kernel, rfl⟩
theorem zd_B_rings_96 : decode zb_B_rings 96 = .ok (.iastore, 1) ∧ 96 + 1 = 97 := ⟨by decide +kernel, rfl⟩
theorem zd_B_rings_97 : decode zb_B_rings 97 = .ok (.iinc 3 1, 3) ∧ 97 + 3 = 100 := ⟨by decide +kernel, rfl⟩
theorem zd_B_rings_100 : decode zb_B_rings 100 = .ok (.iinc 4 1, 3) ∧ 100 + 3 = 103 := ⟨by decide +kernel, rfl⟩
theorem zd_B_rings_103 : decode zb_B_rings 103 = .ok (.goto (-72), 3) ∧ ((103 : Nat) : Int) + (-72) = ((31 : Nat) : Int) ∧ 103 + 3 = 106 := ⟨by decide +kernel, by decide, rfl⟩
theorem zd_B_rings_106 : decode zb_B_rings 106 = .ok (.iload_n 3, 1) ∧ 106 + 1 = 107 := ⟨by decide +kernel, rfl⟩
theorem zd_B_rings_107 : decode zb_B_rings 107 = .ok (.ireturn, 1) ∧ 107 + 1 = 108 := ⟨by decide +kernel, rfl⟩
theorem zd_B_steady_0 : decode zb_B_steady 0 = .ok (.aload_n 0, 1) ∧ 0 + 1 = 1 := ⟨by decide +kernel, rfl⟩
theorem zd_B_steady_1 : decode zb_B_steady 1 = .ok (.getfield 30, 3) ∧ 1 + 3 = 4 := ⟨by decide +kernel, rfl⟩
theorem zd_B_steady_4 : decode zb_B_steady 4 = .ok (.invokevirtual 163, 3) ∧ 4 + 3 = 7 := ⟨by decide +kernel, rfl⟩
theorem zd_B_steady_7 : decode zb_B_steady 7 = .ok (.aload_n 0, 1) ∧ 7 + 1 = 8 := ⟨by decide +kernel, rfl⟩
theorem zd_B_steady_8 : decode zb_B_steady 8 = .ok (.getfield 30, 3) ∧ 8 + 3 = 11 := ⟨by decide +kernel, rfl⟩
theorem zd_B_steady_11 : decode zb_B_steady 11 = .ok (.aload_n 0, 1) ∧ 11 + 1 = 12 := ⟨by decide +kernel, rfl⟩
theorem zd_B_steady_12 : decode zb_B_steady 12 = .ok (.getfield 23, 3) ∧ 12 + 3 = 15 := ⟨by decide +kernel, rfl⟩
theorem zd_B_steady_15 : decode zb_B_steady 15 = .ok (.aload_n 0, 1) ∧ 15 + 1 = 16 := ⟨by decide +kernel, rfl⟩
theorem zd_B_steady_16 : decode zb_B_steady 16 = .ok (.getfield 70, 3) ∧ 16 + 3 = 19 := ⟨by decide +kernel, rfl⟩
theorem zd_B_steady_19 : decode zb_B_steady 19 = .ok (.aload_n 0, 1) ∧ 19 + 1 = 20 := ⟨by decide +kernel, rfl⟩
theorem zd_B_steady_20 : decode zb_B_steady 20 = .ok (.getfield 73, 3) ∧ 20 + 3 = 23 := ⟨by decide +kernel, rfl⟩
theorem zd_B_steady_23 : decode zb_B_steady 23 = .ok (.invokevirtual 170, 3) ∧ 23 + 3 = 26 := ⟨by decide +kernel, rfl⟩
theorem zd_B_steady_26 : decode zb_B_steady 26 = .ok (.aload_n 0, 1) ∧ 26 + 1 = 27 := ⟨by decide +kernel, rfl⟩
theorem zd_B_steady_27 : decode zb_B_steady 27 = .ok (.getfield 30, 3) ∧ 27 + 3 = 30 := ⟨by decide +kernel, rfl⟩
theorem zd_B_steady_30 : decode zb_B_steady 30 = .ok (.iload_n 1, 1) ∧ 30 + 1 = 31 := ⟨by decide +kernel, rfl⟩
theorem zd_B_steady_31 : decode zb_B_steady 31 = .ok (.invokevirtual 227, 3) ∧ 31 + 3 = 34 := ⟨by decide +kernel, rfl⟩
theorem zd_B_steady_34 : decode zb_B_steady 34 = .ok (.ireturn, 1) ∧ 34 + 1 = 35 := ⟨by decide +kernel, rfl⟩
theorem zd_B_slow_0 : decode zb_B_slow 0 = .ok (.iload_n 1, 1) ∧ 0 + 1 = 1 := ⟨by decide +kernel, rfl⟩
theorem zd_B_slow_1 : decode zb_B_slow 1 = .ok (.ifCond .eq 10, 3) ∧ ((1 : Nat) : Int) + (10) = ((11 : Nat) : Int) ∧ 1 + 3 = 4 := ⟨by decide +kernel, by decide, rfl⟩
theorem zd_B_slow_4 : decode zb_B_slow 4 = .ok (.iload_n 1, 1) ∧ 4 + 1 = 5 := ⟨by decide +kernel, rfl⟩
theorem zd_B_slow_5 : decode zb_B_slow 5 = .ok (.iconst 1, 1) ∧ 5 + 1 = 6 := ⟨by decide +kernel, rfl⟩
theorem zd_B_slow_6 : decode zb_B_slow 6 = .ok (.if_icmp .eq 5, 3) ∧ ((6 : Nat) : Int) + (5) = ((11 : Nat) : Int) ∧ 6 + 3 = 9 := ⟨by decide +kernel, by decide, rfl⟩
theorem zd_B_slow_9 : decode zb_B_slow 9 = .ok (.iconst (-1), 1) ∧ 9 + 1 = 10 := ⟨by decide +kernel, rfl⟩
theorem zd_B_slow_10 : decode zb_B_slow 10 = .ok (.ireturn, 1) ∧ 10 + 1 = 11 := ⟨by decide +kernel, rfl⟩
theorem zd_B_slow_11 : decode zb_B_slow 11 = .ok (.aload_n 0, 1) ∧ 11 + 1 = 12 := ⟨by decide +kernel, rfl⟩
theorem zd_B_slow_12 : decode zb_B_slow 12 = .ok (.getfield 30, 3) ∧ 12 + 3 = 15 := ⟨by decide +kernel, rfl⟩
theorem zd_B_slow_15 : decode zb_B_slow 15 = .ok (.invokevirtual 163, 3) ∧ 15 + 3 = 18 := ⟨by decide +kernel, rfl⟩
theorem zd_B_slow_18 : decode zb_B_slow 18 = .ok (.iconst 0, 1) ∧ 18 + 1 = 19 := ⟨by decide +kernel, rfl⟩
theorem zd_B_slow_19 : decode zb_B_slow 19 = .ok (.istore_n 2, 1) ∧ 19 + 1 = 20 := ⟨by decide +kernel, rfl⟩
theorem zd_B_slow_20 : decode zb_B_slow 20 = .ok (.iconst (-1), 1) ∧ 20 + 1 = 21 := ⟨by decide +kernel, rfl⟩
theorem zd_B_slow_21 : decode zb_B_slow 21 = .ok (.istore_n 3, 1) ∧ 21 + 1 = 22 := ⟨by decide +kernel, rfl⟩
theorem zd_B_slow_22 : decode zb_B_slow 22 = .ok (.iconst 0, 1) ∧ 22 + 1 = 23 := ⟨by decide +kernel, rfl⟩
theorem zd_B_slow_23 : decode zb_B_slow 23 = .ok (.istore 4, 2) ∧ 23 + 2 = 25 := ⟨by decide +kernel, rfl⟩
theorem zd_B_slow_25 : decode zb_B_slow 25 = .ok (.iload 4, 2) ∧ 25 + 2 = 27 := ⟨by decide +kernel, rfl⟩
theorem zd_B_slow_27 : decode zb_B_slow 27 = .ok (.aload_n 0, 1) ∧ 27 + 1 = 28 := ⟨by decide +kernel, rfl⟩
theorem zd_B_slow_28 : decode zb_B_slow 28 = .ok (.invokevirtual 186, 3) ∧ 28 + 3 = 31 := ⟨by decide +kernel, rfl⟩
theorem zd_B_slow_31 : decode zb_B_slow 31 = .ok (.if_icmp .ge 48, 3) ∧ ((31 : Nat) : Int) + (48) = ((79 : Nat) : Int) ∧ 31 + 3 = 34 := ⟨by decide +kernel, by decide, rfl⟩
theorem zd_B_slow_34 : decode zb_B_slow 34 = .ok (.aload_n 0, 1) ∧ 34 + 1 = 35 := ⟨by decide +kernel, rfl⟩
theorem zd_B_slow_35 : decode zb_B_slow 35 = .ok (.getfield 30, 3) ∧ 35 + 3 = 38 := ⟨by decide +kernel, rfl⟩
theorem zd_B_slow_38 : decode zb_B_slow 38 = .ok (.aload_n 0, 1) ∧ 38 + 1 = 39 := ⟨by decide +kernel, rfl⟩
theorem zd_B_slow_39 : decode zb_B_slow 39 = .ok (.getfield 23, 3) ∧ 39 + 3 = 42 := ⟨by decide +kernel, rfl⟩
theorem zd_B_slow_42 : decode zb_B_slow 42 = .ok (.aload_n 0, 1) ∧ 42 + 1 = 43 := ⟨by decide +kernel, rfl⟩
theorem zd_B_slow_43 : decode zb_B_slow 43 = .ok (.getfield 70, 3) ∧ 43 + 3 = 46 := ⟨by decide +kernel, rfl⟩
theorem zd_B_slow_46 : decode zb_B_slow 46 = .ok (.iload 4, 2) ∧ 46 + 2 = 48 := ⟨by decide +kernel, rfl⟩
theorem zd_B_slow_48 : decode zb_B_slow 48 = .ok (.invokevirtual 170, 3) ∧ 48 + 3 = 51 := ⟨by decide +kernel, rfl⟩
theorem zd_B_slow_51 : decode zb_B_slow 51 = .ok (.aload_n 0, 1) ∧ 51 + 1 = 52 := ⟨by decide +kernel, rfl⟩
theorem zd_B_slow_52 : decode zb_B_slow 52 = .ok (.getfield 30, 3) ∧ 52 + 3 = 55 := ⟨by decide +kernel, rfl⟩
theorem zd_B_slow_55 : decode zb_B_slow 55 = .ok (.getfield 174, 3) ∧ 55 + 3 = 58 := ⟨by decide +kernel, rfl⟩
theorem zd_B_slow_58 : decode zb_B_slow 58 = .ok (.iload_n 3, 1) ∧ 58 + 1 = 59 := ⟨by decide +kernel, rfl⟩
theorem zd_B_slow_59 : decode zb_B_slow 59 = .ok (.if_icmp .le 14, 3) ∧ ((59 : Nat) : Int) + (14) = ((73 : Nat) : Int) ∧ 59 + 3 = 62 := ⟨by decide +kernel, by decide, rfl⟩
theorem zd_B_slow_62 : decode zb_B_slow 62 = .ok (.aload_n 0, 1) ∧ 62 + 1 = 63 := ⟨by decide +kernel, rfl⟩
theorem zd_B_slow_63 : decode zb_B_slow 63 = .ok (.getfield 30, 3) ∧ 63 + 3 = 66 := ⟨by decide +kernel, rfl⟩
theorem zd_B_slow_66 : decode zb_B_slow 66 = .ok (.getfield 174, 3) ∧ 66 + 3 = 69 := ⟨by decide +kernel, rfl⟩
theorem zd_B_slow_69 : decode zb_B_slow 69 = .ok (.istore_n 3, 1) ∧ 69 + 1 = 70 := ⟨by decide +kernel, rfl⟩
theorem zd_B_slow_70 : decode zb_B_slow 70 = .ok (.iload 4, 2) ∧ 70 + 2 = 72 := ⟨by decide +kernel, rfl⟩
theorem zd_B_slow_72 : decode zb_B_slow 72 = .ok (.istore_n 2, 1) ∧ 72 + 1 = 73 := ⟨by decide +kernel, rfl⟩
theorem zd_B_slow_73 : decode zb_B_slow 73 = .ok (.iinc 4 1, 3) ∧ 73 + 3 = 76 := ⟨by decide +kernel, rfl⟩
theorem zd_B_slow_76 : decode zb_B_slow 76 = .ok (.goto (-51), 3) ∧ ((76 : Nat) : Int) + (-51) = ((25 : Nat) : Int) ∧ 76 + 3 = 79 := ⟨by decide +kernel, by decide, rfl⟩
theorem zd_B_slow_79 : decode zb_B_slow 79 = .ok (.iload_n 1, 1) ∧ 79 + 1 = 80 := ⟨by decide +kernel, rfl⟩
theorem zd_B_slow_80 : decode zb_B_slow 80 = .ok (.ifCond .ne 7, 3) ∧ ((80 : Nat) : Int) + (7) = ((87 : Nat) : Int) ∧ 80 + 3 = 83 := ⟨by decide +kernel, by decide, rfl⟩
theorem zd_B_slow_83 : decode zb_B_slow 83 = .ok (.iload_n 2, 1) ∧ 83 + 1 = 84 := ⟨by decide +kernel, rfl⟩
theorem zd_B_slow_84 : decode zb_B_slow 84 = .ok (.goto 4, 3) ∧ ((84 : Nat) : Int) + (4) = ((88 : Nat) : Int) ∧ 84 + 3 = 87 := ⟨by decide +kernel, by decide, rfl⟩
theorem zd_B_slow_87 : decode zb_B_slow 87 = .ok (.iload_n 3, 1) ∧ 87 + 1 = 88 := ⟨by decide +kernel, rfl⟩
theorem zd_B_slow_88 : decode zb_B_slow 88 = .ok (.ireturn, 1) ∧ 88 + 1 = 89 := ⟨by decide +kernel, rfl⟩
theorem zd_B_back_0 : decode zb_B_back 0 = .ok (.aload_n 0, 1) ∧ 0 + 1 = 1 := ⟨by decide +kernel, rfl⟩
theorem zd_B_back_1 : decode zb_B_back 1 = .ok (.getfield 47, 3) ∧ 1 + 3 = 4 := ⟨by decide +kernel, rfl⟩
theorem zd_B_back_4 : decode zb_B_back 4 = .ok (.getfield 82, 3) ∧ 4 + 3 = 7 := ⟨by decide +kernel, rfl⟩
theorem zd_B_back_7 : decode zb_B_back 7 = .ok (.ifCond .ne 5, 3) ∧ ((7 : Nat) : Int) + (5) = ((12 : Nat) : Int) ∧ 7 + 3 = 10 := ⟨by decide +kernel, by decide, rfl⟩
theorem zd_B_back_10 : decode zb_B_back 10 = .ok (.iconst (-1), 1) ∧ 10 + 1 = 11 := ⟨by decide +kernel, rfl⟩
theorem zd_B_back_11 : decode zb_B_back 11 = .ok (.ireturn, 1) ∧ 11 + 1 = 12 := ⟨by decide +kernel, rfl⟩
theorem zd_B_back_12 : decode zb_B_back 12 = .ok (.aload_n 0, 1) ∧ 12 + 1 = 13 := ⟨by decide +kernel, rfl⟩
theorem zd_B_back_13 : decode zb_B_back 13 = .ok (.getfield 47, 3) ∧ 13 + 3 = 16 := ⟨by decide +kernel, rfl⟩
theorem zd_B_back_16 : decode zb_B_back 16 = .ok (.dup, 1) ∧ 16 + 1 = 17 := ⟨by decide +kernel, rfl⟩
theorem zd_B_back_17 : decode zb_B_back 17 = .ok (.getfield 82, 3) ∧ 17 + 3 = 20 := ⟨by decide +kernel, rfl⟩
theorem zd_B_back_20 : decode zb_B_back 20 = .ok (.iconst 1, 1) ∧ 20 + 1 = 21 := ⟨by decide +kernel, rfl⟩
theorem zd_B_back_21 : decode zb_B_back 21 = .ok (.isub, 1) ∧ 21 + 1 = 22 := ⟨by decide +kernel, rfl⟩
theorem zd_B_back_22 : decode zb_B_back 22 = .ok (.putfield 82, 3) ∧ 22 + 3 = 25 := ⟨by decide +kernel, rfl⟩
theorem zd_B_back_25 : decode zb_B_back 25 = .ok (.aload_n 0, 1) ∧ 25 + 1 = 26 := ⟨by decide +kernel, rfl⟩
theorem zd_B_back_26 : decode zb_B_back 26 = .ok (.aload_n 0, 1) ∧ 26 + 1 = 27 := ⟨by decide +kernel, rfl⟩
theorem zd_B_back_27 : decode zb_B_back 27 = .ok (.getfield 47, 3) ∧ 27 + 3 = 30 := ⟨by decide +kernel, rfl⟩
theorem zd_B_back_30 : decode zb_B_back 30 = .ok (.getfield 260, 3) ∧ 30 + 3 = 33 := ⟨by decide +kernel, rfl⟩
theorem zd_B_back_33 : decode zb_B_back 33 = .ok (.aload_n 0, 1) ∧ 33 + 1 = 34 := ⟨by decide +kernel, rfl⟩
theorem zd_B_back_34 : decode zb_B_back 34 = .ok (.getfield 47, 3) ∧ 34 + 3 = 37 := ⟨by decide +kernel, rfl⟩
theorem zd_B_back_37 : decode zb_B_back 37 = .ok (.getfield 82, 3) ∧ 37 + 3 = 40 := ⟨by decide +kernel, rfl⟩
theorem zd_B_back_40 : decode zb_B_back 40 = .ok (.iaload, 1) ∧ 40 + 1 = 41 := ⟨by decide +kernel, rfl⟩
theorem zd_B_back_41 : decode zb_B_back 41 = .ok (.putfield 70, 3) ∧ 41 + 3 = 44 := ⟨by decide +kernel, rfl⟩
theorem zd_B_back_44 : decode zb_B_back 44 = .ok (.aload_n 0, 1) ∧ 44 + 1 = 45 := ⟨by decide +kernel, rfl⟩
theorem zd_B_back_45 : decode zb_B_back 45 = .ok (.aload_n 0, 1) ∧ 45 + 1 = 46 := ⟨by decide +kernel, rfl⟩
theorem zd_B_back_46 : decode zb_B_back 46 = .ok (.getfield 47, 3) ∧ 46 + 3 = 49 := ⟨by decide +kernel, rfl⟩
theorem zd_B_back_49 : decode zb_B_back 49 = .ok (.getfield 262, 3) ∧ 49 + 3 = 52 := ⟨by decide +kernel, rfl⟩
theorem zd_B_back_52 : decode zb_B_back 52 = .ok (.aload_n 0, 1) ∧ 52 + 1 = 53 := ⟨by decide +kernel, rfl⟩
theorem zd_B_back_53 : decode zb_B_back 53 = .ok (.getfield 47, 3) ∧ 53 + 3 = 56 := ⟨by decide +kernel, rfl⟩
theorem zd_B_back_56 : decode zb_B_back 56 = .ok (.getfield 82, 3) ∧ 56 + 3 = 59 := ⟨by decide +kernel, rfl⟩
theorem zd_B_back_59 : decode zb_B_back 59 = .ok (.iaload, 1) ∧ 59 + 1 = 60 := ⟨by decide +kernel, rfl⟩
theorem zd_B_back_60 : decode zb_B_back 60 = .ok (.putfield 73, 3) ∧ 60 + 3 = 63 := ⟨by decide +kernel, rfl⟩
theorem zd_B_back_63 : decode zb_B_back 63 = .ok (.aload_n 0, 1) ∧ 63 + 1 = 64 := ⟨by decide +kernel, rfl⟩
theorem zd_B_back_64 : decode zb_B_back 64 = .ok (.getfield 47, 3) ∧ 64 + 3 = 67 := ⟨by decide +kernel, rfl⟩
theorem zd_B_back_67 : decode zb_B_back 67 = .ok (.getfield 82, 3) ∧ 67 + 3 = 70 := ⟨by decide +kernel, rfl⟩
theorem zd_B_back_70 : decode zb_B_back 70 = .ok (.ireturn, 1) ∧ 70 + 1 = 71 := ⟨by decide +kernel, rfl⟩
theorem zd_B_image_0 : decode zb_B_image 0 = .ok (.aload_n 0, 1) ∧ 0 + 1 = 1 := ⟨by decide +kernel, rfl⟩
theorem zd_B_image_1 : decode zb_B_image 1 = .ok (.getfield 51, 3) ∧ 1 + 3 = 4 := ⟨by decide +kernel, rfl⟩
theorem zd_B_image_4 : decode zb_B_image 4 = .ok (.iconst 0, 1) ∧ 4 + 1 = 5 := ⟨by decide +kernel, rfl⟩
theorem zd_B_image_5 : decode zb_B_image 5 = .ok (.aload_n 0, 1) ∧ 5 + 1 = 6 := ⟨by decide +kernel, rfl⟩
theorem zd_B_image_6 : decode zb_B_image 6 = .ok (.getfield 23, 3) ∧ 6 + 3 = 9 := ⟨by decide +kernel, rfl⟩
theorem zd_B_image_9 : decode zb_B_image 9 = .ok (.getfield 97, 3) ∧ 9 + 3 = 12 := ⟨by decide +kernel, rfl⟩
theorem zd_B_image_12 : decode zb_B_image 12 = .ok (.iconst 1, 1) ∧ 12 + 1 = 13 := ⟨by decide +kernel, rfl⟩
theorem zd_B_image_13 : decode zb_B_image 13 = .ok (.iaload, 1) ∧ 13 + 1 = 14 := ⟨by decide +kernel, rfl⟩
theorem zd_B_image_14 : decode zb_B_image 14 = .ok (.iastore, 1) ∧ 14 + 1 = 15 := ⟨by decide +kernel, rfl⟩
theorem zd_B_image_15 : decode zb_B_image 15 = .ok (.aload_n 0, 1) ∧ 15 + 1 = 16 := ⟨by decide +kernel, rfl⟩
theorem zd_B_image_16 : decode zb_B_image 16 = .ok (.getfield 51, 3) ∧ 16 + 3 = 19 := ⟨by decide +kernel, rfl⟩
theorem zd_B_image_19 : decode zb_B_image 19 = .ok (.iconst 1, 1) ∧ 19 + 1 = 20 := ⟨by decide +kernel, rfl⟩
theorem zd_B_image_20 : decode zb_B_image 20 = .ok (.aload_n 0, 1) ∧ 20 + 1 = 21 := ⟨by decide +kernel, rfl⟩
theorem zd_B_image_21 : decode zb_B_image 21 = .ok (.getfield 23, 3) ∧ 21 + 3 = 24 := ⟨by decide +kernel, rfl⟩
theorem zd_B_image_24 : decode zb_B_image 24 = .ok (.getfield 97, 3) ∧ 24 + 3 = 27 := ⟨by decide +kernel, rfl⟩
theorem zd_B_image_27 : decode zb_B_image 27 = .ok (.iconst 2, 1) ∧ 27 + 1 = 28 := ⟨by decide +kernel, rfl⟩
theorem zd_B_image_28 : decode zb_B_image 28 = .ok (.iaload, 1) ∧ 28 + 1 = 29 := ⟨by decide +kernel, rfl⟩
theorem zd_B_image_29 : decode zb_B_image 29 = .ok (.iastore, 1) ∧ 29 + 1 = 30 := ⟨by decide +kernel, rfl⟩
theorem zd_B_image_30 : decode zb_B_image 30 = .ok (.aload_n 0, 1) ∧ 30 + 1 = 31 := ⟨by decide +kernel, rfl⟩
theorem zd_B_image_31 : decode zb_B_image 31 = .ok (.getfield 51, 3) ∧ 31 + 3 = 34 := ⟨by decide +kernel, rfl⟩
theorem zd_B_image_34 : decode zb_B_image 34 = .ok (.iconst 2, 1) ∧ 34 + 1 = 35 := ⟨by decide +kernel, rfl⟩
theorem zd_B_image_35 : decode zb_B_image 35 = .ok (.aload_n 0, 1) ∧ 35 + 1 = 36 := ⟨by decide +kernel, rfl⟩
theorem zd_B_image_36 : decode zb_B_image 36 = .ok (.getfield 23, 3) ∧ 36 + 3 = 39 := ⟨by decide +kernel, rfl⟩
theorem zd_B_image_39 : decode zb_B_image 39 = .ok (.getfield 97, 3) ∧ 39 + 3 = 42 := ⟨by decide +kernel, rfl⟩
theorem zd_B_image_42 : decode zb_B_image 42 = .ok (.iconst 3, 1) ∧ 42 + 1 = 43 := ⟨by decide +kernel, rfl⟩
theorem zd_B_image_43 : decode zb_B_image 43 = .ok (.iaload, 1) ∧ 43 + 1 = 44 := ⟨by decide +kernel, rfl⟩
theorem zd_B_image_44 : decode zb_B_image 44 = .ok (.iastore, 1) ∧ 44 + 1 = 45 := ⟨by decide +kernel, rfl⟩
theorem zd_B_image_45 : decode zb_B_image 45 = .ok (.aload_n 0, 1) ∧ 45 + 1 = 46 := ⟨by decide +kernel, rfl⟩
theorem zd_B_image_46 : decode zb_B_image 46 = .ok (.getfield 51, 3) ∧ 46 + 3 = 49 := ⟨by decide +kernel, rfl⟩
theorem zd_B_image_49 : decode zb_B_image 49 = .ok (.iconst 3, 1) ∧ 49 + 1 = 50 := ⟨by decide +kernel, rfl⟩
theorem zd_B_image_50 : decode zb_B_image 50 = .ok (.aload_n 0, 1) ∧ 50 + 1 = 51 := ⟨by decide +kernel, rfl⟩
theorem zd_B_image_51 : decode zb_B_image 51 = .ok (.getfield 70, 3) ∧ 51 + 3 = 54 := ⟨by decide +kernel, rfl⟩
theorem zd_B_image_54 : decode zb_B_image 54 = .ok (.iastore, 1) ∧ 54 + 1 = 55 := ⟨by decide +kernel, rfl⟩
theorem zd_B_image_55 : decode zb_B_image 55 = .ok (.aload_n 0, 1) ∧ 55 + 1 = 56 := ⟨by decide +kernel, rfl⟩
theorem zd_B_image_56 : decode zb_B_image 56 = .ok (.getfield 51, 3) ∧ 56 + 3 = 59 := ⟨by decide +kernel, rfl⟩
theorem zd_B_image_59 : decode zb_B_image 59 = .ok (.iconst 4, 1) ∧ 59 + 1 = 60 := ⟨by decide +kernel, rfl⟩
theorem zd_B_image_60 : decode zb_B_image 60 = .ok (.aload_n 0, 1) ∧ 60 + 1 = 61 := ⟨by decide +kernel, rfl⟩
theorem zd_B_image_61 : decode zb_B_image 61 = .ok (.getfield 73, 3) ∧ 61 + 3 = 64 := ⟨by decide +kernel, rfl⟩
theorem zd_B_image_64 : decode zb_B_image 64 = .ok (.iastore, 1) ∧ 64 + 1 = 65 := ⟨by decide +kernel, rfl⟩
theorem zd_B_image_65 : decode zb_B_image 65 = .ok (.iconst 5, 1) ∧ 65 + 1 = 66 := ⟨by decide +kernel, rfl⟩
theorem zd_B_image_66 : decode zb_B_image 66 = .ok (.istore_n 1, 1) ∧ 66 + 1 = 67 := ⟨by decide +kernel, rfl⟩
theorem zd_B_image_67 : decode zb_B_image 67 = .ok (.iconst 0, 1) ∧ 67 + 1 = 68 := ⟨by decide +kernel, rfl⟩
theorem zd_B_image_68 : decode zb_B_image 68 = .ok (.istore_n 2, 1) ∧ 68 + 1 = 69 := ⟨by decide +kernel, rfl⟩
theorem zd_B_image_69 : decode zb_B_image 69 = .ok (.iload_n 2, 1) ∧ 69 + 1 = 70 := ⟨by decide +kernel, rfl⟩
theorem zd_B_image_70 : decode zb_B_image 70 = .ok (.aload_n 0, 1) ∧ 70 + 1 = 71 := ⟨by decide +kernel, rfl⟩
theorem zd_B_image_71 : decode zb_B_image 71 = .ok (.getfield 23, 3) ∧ 71 + 3 = 74 := ⟨by decide +kernel, rfl⟩
theorem zd_B_image_74 : decode zb_B_image 74 = .ok (.getfield 97, 3) ∧ 74 + 3 = 77 := ⟨by decide +kernel, rfl⟩
theorem zd_B_image_77 : decode zb_B_image 77 = .ok (.iconst 3, 1) ∧ 77 + 1 = 78 := ⟨by decide +kernel, rfl⟩
theorem zd_B_image_78 : decode zb_B_image 78 = .ok (.iaload, 1) ∧ 78 + 1 = 79 := ⟨by decide +kernel, rfl⟩
theorem zd_B_image_79 : decode zb_B_image 79 = .ok (.if_icmp .ge 37, 3) ∧ ((79 : Nat) : Int) + (37) = ((116 : Nat) : Int) ∧ 79 + 3 = 82 := ⟨by decide +kernel, by decide, rfl⟩
theorem zd_B_image_82 : decode zb_B_image 82 = .ok (.aload_n 0, 1) ∧ 82 + 1 = 83 := ⟨by decide +kernel, rfl⟩
theorem zd_B_image_83 : decode zb_B_image 83 = .ok (.getfield 51, 3) ∧ 83 + 3 = 86 := ⟨by decide +kernel, rfl⟩
theorem zd_B_image_86 : decode zb_B_image 86 = .ok (.iload_n 1, 1) ∧ 86 + 1 = 87 := ⟨by decide +kernel, rfl⟩
theorem zd_B_image_87 : decode zb_B_image 87 = .ok (.aload_n 0, 1) ∧ 87 + 1 = 88 := ⟨by decide +kernel, rfl⟩
theorem zd_B_image_88 : decode zb_B_image 88 = .ok (.getfield 76, 3) ∧ 88 + 3 = 91 := ⟨by decide +kernel, rfl⟩
theorem zd_B_image_91 : decode zb_B_image 91 = .ok (.iload_n 2, 1) ∧ 91 + 1 = 92 := ⟨by decide +kernel, rfl⟩
theorem zd_B_image_92 : decode zb_B_image 92 = .ok (.ishr, 1) ∧ 92 + 1 = 93 := ⟨by decide +kernel, rfl⟩
theorem zd_B_image_93 : decode zb_B_image 93 = .ok (.iconst 1, 1) ∧ 93 + 1 = 94 := ⟨by decide +kernel, rfl⟩
theorem zd_B_image_94 : decode zb_B_image 94 = .ok (.iand, 1) ∧ 94 + 1 = 95 := ⟨by decide +kernel, rfl⟩
theorem zd_B_image_95 : decode zb_B_image 95 = .ok (.iconst 2, 1) ∧ 95 + 1 = 96 := ⟨by decide +kernel, rfl⟩
theorem zd_B_image_96 : decode zb_B_image 96 = .ok (.aload_n 0, 1) ∧ 96 + 1 = 97 := ⟨by decide +kernel, rfl⟩
theorem zd_B_image_97 : decode zb_B_image 97 = .ok (.getfield 79, 3) ∧ 97 + 3 = 100 := ⟨by decide +kernel, rfl⟩
theorem zd_B_image_100 : decode zb_B_image 100 = .ok (.iload_n 2, 1) ∧ 100 + 1 = 101 := ⟨by decide +kernel, rfl⟩
theorem zd_B_image_101 : decode zb_B_image 101 = .ok (.ishr, 1) ∧ 101 + 1 = 102 := ⟨by decide +kernel, rfl⟩
theorem zd_B_image_102 : decode zb_B_image 102 = .ok (.iconst 1, 1) ∧ 102 + 1 = 103 := ⟨by decide +kernel, rfl⟩
theorem zd_B_image_103 : decode zb_B_image 103 = .ok (.iand, 1) ∧ 103 + 1 = 104 := ⟨by decide +kernel, rfl⟩
theorem zd_B_image_104 : decode zb_B_image 104 = .ok (.imul, 1) ∧ 104 + 1 = 105 := ⟨by decide +kernel, rfl⟩
theorem zd_B_image_105 : decode zb_B_image 105 = .ok (.iadd, 1) ∧ 105 + 1 = 106 := ⟨by decide +kernel, rfl⟩
theorem zd_B_image_106 : decode zb_B_image 106 = .ok (.iastore, 1) ∧ 106 + 1 = 107 := ⟨by decide +kernel, rfl⟩
theorem zd_B_image_107 : decode zb_B_image 107 = .ok (.iinc 1 1, 3) ∧ 107 + 3 = 110 := ⟨by decide +kernel, rfl⟩
theorem zd_B_image_110 : decode zb_B_image 110 = .ok (.iinc 2 1, 3) ∧ 110 + 3 = 113 := ⟨by decide +kernel, rfl⟩
theorem zd_B_image_113 : decode zb_B_image 113 = .ok (.goto (-44), 3) ∧ ((113 : Nat) : Int) + (-44) = ((69 : Nat) : Int) ∧ 113 + 3 = 116 := ⟨by decide +kernel, by decide, rfl⟩
theorem zd_B_image_116 : decode zb_B_image 116 = .ok (.aload_n 0, 1) ∧ 116 + 1 = 117 := ⟨by decide +kernel, rfl⟩
theorem zd_B_image_117 : decode zb_B_image 117 = .ok (.getfield 51, 3) ∧ 117 + 3 = 120 := ⟨by decide +kernel, rfl⟩
theorem zd_B_image_120 : decode zb_B_image 120 = .ok (.iload_n 1, 1) ∧ 120 + 1 = 121 := ⟨by decide +kernel, rfl⟩
theorem zd_B_image_121 : decode zb_B_image 121 = .ok (.aload_n 0, 1) ∧ 121 + 1 = 122 := ⟨by decide +kernel, rfl⟩
theorem zd_B_image_122 : decode zb_B_image 122 = .ok (.getfield 51, 3) ∧ 122 + 3 = 125 := ⟨by decide +kernel, rfl⟩
theorem zd_B_image_125 : decode zb_B_image 125 = .ok (.iload_n 1, 1) ∧ 125 + 1 = 126 := ⟨by decide +kernel, rfl⟩
theorem zd_B_image_126 : decode zb_B_image 126 = .ok (.invokestatic 264, 3) ∧ 126 + 3 = 129 := ⟨by decide +kernel, rfl⟩
theorem zd_B_image_129 : decode zb_B_image 129 = .ok (.iastore, 1) ∧ 129 + 1 = 130 := ⟨by decide +kernel, rfl⟩
theorem zd_B_image_130 : decode zb_B_image 130 = .ok (.aload_n 0, 1) ∧ 130 + 1 = 131 := ⟨by decide +kernel, rfl⟩
theorem zd_B_image_131 : decode zb_B_image 131 = .ok (.iload_n 1, 1) ∧ 131 + 1 = 132 := ⟨by decide +kernel, rfl⟩
theorem zd_B_image_132 : decode zb_B_image 132 = .ok (.iconst 1, 1) ∧ 132 + 1 = 133 := ⟨by decide +kernel, rfl⟩
theorem zd_B_image_133 : decode zb_B_image 133 = .ok (.iadd, 1) ∧ 133 + 1 = 134 := ⟨by decide +kernel, rfl⟩
theorem zd_B_image_134 : decode zb_B_image 134 = .ok (.putfield 267, 3) ∧ 134 + 3 = 137 := ⟨by decide +kernel, rfl⟩
theorem zd_B_image_137 : decode zb_B_image 137 = .ok (.aload_n 0, 1) ∧ 137 + 1 = 138 := ⟨by decide +kernel, rfl⟩
theorem zd_B_image_138 : decode zb_B_image 138 = .ok (.getfield 267, 3) ∧ 138 + 3 = 141 := ⟨by decide +kernel, rfl⟩
theorem zd_B_image_141 : decode zb_B_image 141 = .ok (.ireturn, 1) ∧ 141 + 1 = 142 := ⟨by decide +kernel, rfl⟩
theorem zd_B_octet_0 : decode zb_B_octet 0 = .ok (.iload_n 1, 1) ∧ 0 + 1 = 1 := ⟨by decide +kernel, rfl⟩
theorem zd_B_octet_1 : decode zb_B_octet 1 = .ok (.ifCond .lt 11, 3) ∧ ((1 : Nat) : Int) + (11) = ((12 : Nat) : Int) ∧ 1 + 3 = 4 := ⟨by decide +kernel, by decide, rfl⟩
theorem zd_B_octet_4 : decode zb_B_octet 4 = .ok (.iload_n 1, 1) ∧ 4 + 1 = 5 := ⟨by decide +kernel, rfl⟩
theorem zd_B_octet_5 : decode zb_B_octet 5 = .ok (.aload_n 0, 1) ∧ 5 + 1 = 6 := ⟨by decide +kernel, rfl⟩
theorem zd_B_octet_6 : decode zb_B_octet 6 = .ok (.getfield 267, 3) ∧ 6 + 3 = 9 := ⟨by decide +kernel, rfl⟩
theorem zd_B_octet_9 : decode zb_B_octet 9 = .ok (.if_icmp .lt 7, 3) ∧ ((9 : Nat) : Int) + (7) = ((16 : Nat) : Int) ∧ 9 + 3 = 12 := ⟨by decide +kernel, by decide, rfl⟩
theorem zd_B_octet_12 : decode zb_B_octet 12 = .ok (.iconst (-1), 1) ∧ 12 + 1 = 13 := ⟨by decide +kernel, rfl⟩
theorem zd_B_octet_13 : decode zb_B_octet 13 = .ok (.goto 9, 3) ∧ ((13 : Nat) : Int) + (9) = ((22 : Nat) : Int) ∧ 13 + 3 = 16 := ⟨by decide +kernel, by decide, rfl⟩
theorem zd_B_octet_16 : decode zb_B_octet 16 = .ok (.aload_n 0, 1) ∧ 16 + 1 = 17 := ⟨by decide +kernel, rfl⟩
theorem zd_B_octet_17 : decode zb_B_octet 17 = .ok (.getfield 51, 3) ∧ 17 + 3 = 20 := ⟨by decide +kernel, rfl⟩
theorem zd_B_octet_20 : decode zb_B_octet 20 = .ok (.iload_n 1, 1) ∧ 20 + 1 = 21 := ⟨by decide +kernel, rfl⟩
theorem zd_B_octet_21 : decode zb_B_octet 21 = .ok (.iaload, 1) ∧ 21 + 1 = 22 := ⟨by decide +kernel, rfl⟩
theorem zd_B_octet_22 : decode zb_B_octet 22 = .ok (.ireturn, 1) ∧ 22 + 1 = 23 := ⟨by decide +kernel, rfl⟩
theorem zd_B_on_0 : decode zb_B_on 0 = .ok (.aload_n 0, 1) ∧ 0 + 1 = 1 := ⟨by decide +kernel, rfl⟩
theorem zd_B_on_1 : decode zb_B_on 1 = .ok (.getfield 54, 3) ∧ 1 + 3 = 4 := ⟨by decide +kernel, rfl⟩
theorem zd_B_on_4 : decode zb_B_on 4 = .ok (.istore_n 1, 1) ∧ 4 + 1 = 5 := ⟨by decide +kernel, rfl⟩
theorem zd_B_on_5 : decode zb_B_on 5 = .ok (.aload_n 0, 1) ∧ 5 + 1 = 6 := ⟨by decide +kernel, rfl⟩
theorem zd_B_on_6 : decode zb_B_on 6 = .ok (.iconst 0, 1) ∧ 6 + 1 = 7 := ⟨by decide +kernel, rfl⟩
theorem zd_B_on_7 : decode zb_B_on 7 = .ok (.putfield 54, 3) ∧ 7 + 3 = 10 := ⟨by decide +kernel, rfl⟩
theorem zd_B_on_10 : decode zb_B_on 10 = .ok (.aload_n 0, 1) ∧ 10 + 1 = 11 := ⟨by decide +kernel, rfl⟩
theorem zd_B_on_11 : decode zb_B_on 11 = .ok (.iload_n 1, 1) ∧ 11 + 1 = 12 := ⟨by decide +kernel, rfl⟩
theorem zd_B_on_12 : decode zb_B_on 12 = .ok (.invokevirtual 270, 3) ∧ 12 + 3 = 15 := ⟨by decide +kernel, rfl⟩
theorem zd_B_on_15 : decode zb_B_on 15 = .ok (.ifCond .ne 5, 3) ∧ ((15 : Nat) : Int) + (5) = ((20 : Nat) : Int) ∧ 15 + 3 = 18 := ⟨by decide +kernel, by decide, rfl⟩
theorem zd_B_on_18 : decode zb_B_on 18 = .ok (.iconst 0, 1) ∧ 18 + 1 = 19 := ⟨by decide +kernel, rfl⟩
theorem zd_B_on_19 : decode zb_B_on 19 = .ok (.ireturn, 1) ∧ 19 + 1 = 20 := ⟨by decide +kernel, rfl⟩
theorem zd_B_on_20 : decode zb_B_on 20 = .ok (.aload_n 0, 1) ∧ 20 + 1 = 21 := ⟨by decide +kernel, rfl⟩
theorem zd_B_on_21 : decode zb_B_on 21 = .ok (.aload_n 0, 1) ∧ 21 + 1 = 22 := ⟨by decide +kernel, rfl⟩
theorem zd_B_on_22 : decode zb_B_on 22 = .ok (.getfield 9, 3) ∧ 22 + 3 = 25 := ⟨by decide +kernel, rfl⟩
theorem zd_B_on_25 : decode zb_B_on 25 = .ok (.iconst 3, 1) ∧ 25 + 1 = 26 := ⟨by decide +kernel, rfl⟩
theorem zd_B_on_26 : decode zb_B_on 26 = .ok (.iaload, 1) ∧ 26 + 1 = 27 := ⟨by decide +kernel, rfl⟩
theorem zd_B_on_27 : decode zb_B_on 27 = .ok (.putfield 70, 3) ∧ 27 + 3 = 30 := ⟨by decide +kernel, rfl⟩
theorem zd_B_on_30 : decode zb_B_on 30 = .ok (.aload_n 0, 1) ∧ 30 + 1 = 31 := ⟨by decide +kernel, rfl⟩
theorem zd_B_on_31 : decode zb_B_on 31 = .ok (.aload_n 0, 1) ∧ 31 + 1 = 32 := ⟨by decide +kernel, rfl⟩
theorem zd_B_on_32 : decode zb_B_on 32 = .ok (.getfield 9, 3) ∧ 32 + 3 = 35 := ⟨by decide +kernel, rfl⟩
theorem zd_B_on_35 : decode zb_B_on 35 = .ok (.iconst 4, 1) ∧ 35 + 1 = 36 := ⟨by decide +kernel, rfl⟩
theorem zd_B_on_36 : decode zb_B_on 36 = .ok (.iaload, 1) ∧ 36 + 1 = 37 := ⟨by decide +kernel, rfl⟩
theorem zd_B_on_37 : decode zb_B_on 37 = .ok (.putfield 73, 3) ∧ 37 + 3 = 40 := ⟨by decide +kernel, rfl⟩
theorem zd_B_on_40 : decode zb_B_on 40 = .ok (.iconst 0, 1) ∧ 40 + 1 = 41 := ⟨by decide +kernel, rfl⟩
theorem zd_B_on_41 : decode zb_B_on 41 = .ok (.istore_n 2, 1) ∧ 41 + 1 = 42 := ⟨by decide +kernel, rfl⟩
theorem zd_B_on_42 : decode zb_B_on 42 = .ok (.iload_n 2, 1) ∧ 42 + 1 = 43 := ⟨by decide +kernel, rfl⟩
theorem zd_B_on_43 : decode zb_B_on 43 = .ok (.aload_n 0, 1) ∧ 43 + 1 = 44 := ⟨by decide +kernel, rfl⟩
theorem zd_B_on_44 : decode zb_B_on 44 = .ok (.getfield 23, 3) ∧ 44 + 3 = 47 := ⟨by decide +kernel, rfl⟩
theorem zd_B_on_47 : decode zb_B_on 47 = .ok (.getfield 97, 3) ∧ 47 + 3 = 50 := ⟨by decide +kernel, rfl⟩
theorem zd_B_on_50 : decode zb_B_on 50 = .ok (.iconst 3, 1) ∧ 50 + 1 = 51 := ⟨by decide +kernel, rfl⟩
theorem zd_B_on_51 : decode zb_B_on 51 = .ok (.iaload, 1) ∧ 51 + 1 = 52 := ⟨by decide +kernel, rfl⟩
theorem zd_B_on_52 : decode zb_B_on 52 = .ok (.if_icmp .ge 23, 3) ∧ ((52 : Nat) : Int) + (23) = ((75 : Nat) : Int) ∧ 52 + 3 = 55 := ⟨by decide +kernel, by decide, rfl⟩
theorem zd_B_on_55 : decode zb_B_on 55 = .ok (.aload_n 0, 1) ∧ 55 + 1 = 56 := ⟨by decide +kernel, rfl⟩
theorem zd_B_on_56 : decode zb_B_on 56 = .ok (.iload_n 2, 1) ∧ 56 + 1 = 57 := ⟨by decide +kernel, rfl⟩
theorem zd_B_on_57 : decode zb_B_on 57 = .ok (.aload_n 0, 1) ∧ 57 + 1 = 58 := ⟨by decide +kernel, rfl⟩
theorem zd_B_on_58 : decode zb_B_on 58 = .ok (.getfield 9, 3) ∧ 58 + 3 = 61 := ⟨by decide +kernel, rfl⟩
theorem zd_B_on_61 : decode zb_B_on 61 = .ok (.iconst 5, 1) ∧ 61 + 1 = 62 := ⟨by decide +kernel, rfl⟩
theorem zd_B_on_62 : decode zb_B_on 62 = .ok (.iload_n 2, 1) ∧ 62 + 1 = 63 := ⟨by decide +kernel, rfl⟩
theorem zd_B_on_63 : decode zb_B_on 63 = .ok (.iadd, 1) ∧ 63 + 1 = 64 := ⟨by decide +kernel, rfl⟩
theorem zd_B_on_64 : decode zb_B_on 64 = .ok (.iaload, 1) ∧ 64 + 1 = 65 := ⟨by decide +kernel, rfl⟩
theorem zd_B_on_65 : decode zb_B_on 65 = .ok (.invokevirtual 273, 3) ∧ 65 + 3 = 68 := ⟨by decide +kernel, rfl⟩
theorem zd_B_on_68 : decode zb_B_on 68 = .ok (.pop, 1) ∧ 68 + 1 = 69 := ⟨by decide +kernel, rfl⟩
theorem zd_B_on_69 : decode zb_B_on 69 = .ok (.iinc 2 1, 3) ∧ 69 + 3 = 72 := ⟨by decide +kernel, rfl⟩
theorem zd_B_on_72 : decode zb_B_on 72 = .ok (.goto (-30), 3) ∧ ((72 : Nat) : Int) + (-30) = ((42 : Nat) : Int) ∧ 72 + 3 = 75 := ⟨by decide +kernel, by decide, rfl⟩
theorem zd_B_on_75 : decode zb_B_on 75 = .ok (.aload_n 0, 1) ∧ 75 + 1 = 76 := ⟨by decide +kernel, rfl⟩
theorem zd_B_on_76 : decode zb_B_on 76 = .ok (.getfield 47, 3) ∧ 76 + 3 = 79 := ⟨by decide +kernel, rfl⟩
theorem zd_B_on_79 : decode zb_B_on 79 = .ok (.iconst 0, 1) ∧ 79 + 1 = 80 := ⟨by decide +kernel, rfl⟩
theorem zd_B_on_80 : decode zb_B_on 80 = .ok (.putfield 82, 3) ∧ 80 + 3 = 83 := ⟨by decide +kernel, rfl⟩
theorem zd_B_on_83 : decode zb_B_on 83 = .ok (.iconst 1, 1) ∧ 83 + 1 = 84 := ⟨by decide +kernel, rfl⟩
theorem zd_B_on_84 : decode zb_B_on 84 = .ok (.ireturn, 1) ∧ 84 + 1 = 85 := ⟨by decide +kernel, rfl⟩
theorem zd_B_isImage_0 : decode zb_B_isImage 0 = .ok (.aload_n 0, 1) ∧ 0 + 1 = 1 := ⟨by decide +kernel, rfl⟩
theorem zd_B_isImage_1 : decode zb_B_isImage 1 = .ok (.getfield 23, 3) ∧ 1 + 3 = 4 := ⟨by decide +kernel, rfl⟩
theorem zd_B_isImage_4 : decode zb_B_isImage 4 = .ok (.getfield 97, 3) ∧ 4 + 3 = 7 := ⟨by decide +kernel, rfl⟩
theorem zd_B_isImage_7 : decode zb_B_isImage 7 = .ok (.iconst 3, 1) ∧ 7 + 1 = 8 := ⟨by decide +kernel, rfl⟩
theorem zd_B_isImage_8 : decode zb_B_isImage 8 = .ok (.iaload, 1) ∧ 8 + 1 = 9 := ⟨by decide +kernel, rfl⟩
theorem zd_B_isImage_9 : decode zb_B_isImage 9 = .ok (.istore_n 2, 1) ∧ 9 + 1 = 10 := ⟨by decide +kernel, rfl⟩
theorem zd_B_isImage_10 : decode zb_B_isImage 10 = .ok (.iload_n 1, 1) ∧ 10 + 1 = 11 := ⟨by decide +kernel, rfl⟩
theorem zd_B_isImage_11 : decode zb_B_isImage 11 = .ok (.iconst 5, 1) ∧ 11 + 1 = 12 := ⟨by decide +kernel, rfl⟩
theorem zd_B_isImage_12 : decode zb_B_isImage 12 = .ok (.iload_n 2, 1) ∧ 12 + 1 = 13 := ⟨by decide +kernel, rfl⟩
theorem zd_B_isImage_13 : decode zb_B_isImage 13 = .ok (.iadd, 1) ∧ 13 + 1 = 14 := ⟨by decide +kernel, rfl⟩
theorem zd_B_isImage_14 : decode zb_B_isImage 14 = .ok (.iconst 1, 1) ∧ 14 + 1 = 15 := ⟨by decide +kernel, rfl⟩
theorem zd_B_isImage_15 : decode zb_B_isImage 15 = .ok (.iadd, 1) ∧ 15 + 1 = 16 := ⟨by decide +kernel, rfl⟩
theorem zd_B_isImage_16 : decode zb_B_isImage 16 = .ok (.if_icmp .eq 5, 3) ∧ ((16 : Nat) : Int) + (5) = ((21 : Nat) : Int) ∧ 16 + 3 = 19 := ⟨by decide +kernel, by decide, rfl⟩
theorem zd_B_isImage_19 : decode zb_B_isImage 19 = .ok (.iconst 0, 1) ∧ 19 + 1 = 20 := ⟨by decide +kernel, rfl⟩
theorem zd_B_isImage_20 : decode zb_B_isImage 20 = .ok (.ireturn, 1) ∧ 20 + 1 = 21 := ⟨by decide +kernel, rfl⟩
theorem zd_B_isImage_21 : decode zb_B_isImage 21 = .ok (.aload_n 0, 1) ∧ 21 + 1 = 22 := ⟨by decide +kernel, rfl⟩
theorem zd_B_isImage_22 : decode zb_B_isImage 22 = .ok (.getfield 9, 3) ∧ 22 + 3 = 25 := ⟨by decide +kernel, rfl⟩
theorem zd_B_isImage_25 : decode zb_B_isImage 25 = .ok (.iconst 0, 1) ∧ 25 + 1 = 26 := ⟨by decide +kernel, rfl⟩
theorem zd_B_isImage_26 : decode zb_B_isImage 26 = .ok (.iaload, 1) ∧ 26 + 1 = 27 := ⟨by decide +kernel, rfl⟩
theorem zd_B_isImage_27 : decode zb_B_isImage 27 = .ok (.aload_n 0, 1) ∧ 27 + 1 = 28 := ⟨by decide +kernel, rfl⟩
theorem zd_B_isImage_28 : decode zb_B_isImage 28 = .ok (.getfield 23, 3) ∧ 28 + 3 = 31 := ⟨by decide +kernel, rfl⟩
theorem zd_B_isImage_31 : decode zb_B_isImage 31 = .ok (.getfield 97, 3) ∧ 31 + 3 = 34 := ⟨by decide +kernel, rfl⟩
theorem zd_B_isImage_34 : decode zb_B_isImage 34 = .ok (.iconst 1, 1) ∧ 34 + 1 = 35 := ⟨by decide +kernel, rfl⟩
theorem zd_B_isImage_35 : decode zb_B_isImage 35 = .ok (.iaload, 1) ∧ 35 + 1 = 36 := ⟨by decide +kernel, rfl⟩
theorem zd_B_isImage_36 : decode zb_B_isImage 36 = .ok (.if_icmp .ne 31, 3) ∧ ((36 : Nat) : Int) + (31) = ((67 : Nat) : Int) ∧ 36 + 3 = 39 := ⟨by decide +kernel, by decide, rfl⟩
theorem zd_B_isImage_39 : decode zb_B_isImage 39 = .ok (.aload_n 0, 1) ∧ 39 + 1 = 40 := ⟨by decide +kernel, rfl⟩
theorem zd_B_isImage_40 : decode zb_B_isImage 40 = .ok (.getfield 9, 3) ∧ 40 + 3 = 43 := ⟨by decide +kernel, rfl⟩
theorem zd_B_isImage_43 : decode zb_B_isImage 43 = .ok (.iconst 1, 1) ∧ 43 + 1 = 44 := ⟨by decide +kernel, rfl⟩
theorem zd_B_isImage_44 : decode zb_B_isImage 44 = .ok (.iaload, 1) ∧ 44 + 1 = 45 := ⟨by decide +kernel, rfl⟩
theorem zd_B_isImage_45 : decode zb_B_isImage 45 = .ok (.aload_n 0, 1) ∧ 45 + 1 = 46 := ⟨by decide +kernel, rfl⟩
theorem zd_B_isImage_46 : decode zb_B_isImage 46 = .ok (.getfield 23, 3) ∧ 46 + 3 = 49 := ⟨by decide +kernel, rfl⟩
theorem zd_B_isImage_49 : decode zb_B_isImage 49 = .ok (.getfield 97, 3) ∧ 49 + 3 = 52 := ⟨by decide +kernel, rfl⟩
theorem zd_B_isImage_52 : decode zb_B_isImage 52 = .ok (.iconst 2, 1) ∧ 52 + 1 = 53 := ⟨by decide +kernel, rfl⟩
theorem zd_B_isImage_53 : decode zb_B_isImage 53 = .ok (.iaload, 1) ∧ 53 + 1 = 54 := ⟨by decide +kernel, rfl⟩
theorem zd_B_isImage_54 : decode zb_B_isImage 54 = .ok (.if_icmp .ne 13, 3) ∧ ((54 : Nat) : Int) + (13) = ((67 : Nat) : Int) ∧ 54 + 3 = 57 := ⟨by decide +kernel, by decide, rfl⟩
theorem zd_B_isImage_57 : decode zb_B_isImage 57 = .ok (.aload_n 0, 1) ∧ 57 + 1 = 58 := ⟨by decide +kernel, rfl⟩
theorem zd_B_isImage_58 : decode zb_B_isImage 58 = .ok (.getfield 9, 3) ∧ 58 + 3 = 61 := ⟨by decide +kernel, rfl⟩
theorem zd_B_isImage_61 : decode zb_B_isImage 61 = .ok (.iconst 2, 1) ∧ 61 + 1 = 62 := ⟨by decide +kernel, rfl⟩
theorem zd_B_isImage_62 : decode zb_B_isImage 62 = .ok (.iaload, 1) ∧ 62 + 1 = 63 := ⟨by decide +kernel, rfl⟩
theorem zd_B_isImage_63 : decode zb_B_isImage 63 = .ok (.iload_n 2, 1) ∧ 63 + 1 = 64 := ⟨by decide +kernel, rfl⟩
theorem zd_B_isImage_64 : decode zb_B_isImage 64 = .ok (.if_icmp .eq 5, 3) ∧ ((64 : Nat) : Int) + (5) = ((69 : Nat) : Int) ∧ 64 + 3 = 67 := ⟨by decide +kernel, by decide, rfl⟩
theorem zd_B_isImage_67 : decode zb_B_isImage 67 = .ok (.iconst 0, 1) ∧ 67 + 1 = 68 := ⟨by decide +kernel, rfl⟩
theorem zd_B_isImage_68 : decode zb_B_isImage 68 = .ok (.ireturn, 1) ∧ 68 + 1 = 69 := ⟨by decide +kernel, rfl⟩
theorem zd_B_isImage_69 : decode zb_B_isImage 69 = .ok (.aload_n 0, 1) ∧ 69 + 1 = 70 := ⟨by decide +kernel, rfl⟩
theorem zd_B_isImage_70 : decode zb_B_isImage 70 = .ok (.getfield 9, 3) ∧ 70 + 3 = 73 := ⟨by decide +kernel, rfl⟩
theorem zd_B_isImage_73 : decode zb_B_isImage 73 = .ok (.iconst 3, 1) ∧ 73 + 1 = 74 := ⟨by decide +kernel, rfl⟩
theorem zd_B_isImage_74 : decode zb_B_isImage 74 = .ok (.iaload, 1) ∧ 74 + 1 = 75 := ⟨by decide +kernel, rfl⟩
theorem zd_B_isImage_75 : decode zb_B_isImage 75 = .ok (.aload_n 0, 1) ∧ 75 + 1 = 76 := ⟨by decide +kernel, rfl⟩
theorem zd_B_isImage_76 : decode zb_B_isImage 76 = .ok (.iconst 1, 1) ∧ 76 + 1 = 77 := ⟨by decide +kernel, rfl⟩
theorem zd_B_isImage_77 : decode zb_B_isImage 77 = .ok (.invokevirtual 201, 3) ∧ 77 + 3 = 80 := ⟨by decide +kernel, rfl⟩
theorem zd_B_isImage_80 : decode zb_B_isImage 80 = .ok (.if_icmp .gt 17, 3) ∧ ((80 : Nat) : Int) + (17) = ((97 : Nat) : Int) ∧ 80 + 3 = 83 := ⟨by decide +kernel, by decide, rfl⟩
theorem zd_B_isImage_83 : decode zb_B_isImage 83 = .ok (.aload_n 0, 1) ∧ 83 + 1 = 84 := ⟨by decide +kernel, rfl⟩
theorem zd_B_isImage_84 : decode zb_B_isImage 84 = .ok (.getfield 9, 3) ∧ 84 + 3 = 87 := ⟨by decide +kernel, rfl⟩
theorem zd_B_isImage_87 : decode zb_B_isImage 87 = .ok (.iconst 4, 1) ∧ 87 + 1 = 88 := ⟨by decide +kernel, rfl⟩
theorem zd_B_isImage_88 : decode zb_B_isImage 88 = .ok (.iaload, 1) ∧ 88 + 1 = 89 := ⟨by decide +kernel, rfl⟩
theorem zd_B_isImage_89 : decode zb_B_isImage 89 = .ok (.aload_n 0, 1) ∧ 89 + 1 = 90 := ⟨by decide +kernel, rfl⟩
theorem zd_B_isImage_90 : decode zb_B_isImage 90 = .ok (.iconst 2, 1) ∧ 90 + 1 = 91 := ⟨by decide +kernel, rfl⟩
theorem zd_B_isImage_91 : decode zb_B_isImage 91 = .ok (.invokevirtual 201, 3) ∧ 91 + 3 = 94 := ⟨by decide +kernel, rfl⟩
theorem zd_B_isImage_94 : decode zb_B_isImage 94 = .ok (.if_icmp .le 5, 3) ∧ ((94 : Nat) : Int) + (5) = ((99 : Nat) : Int) ∧ 94 + 3 = 97 := ⟨by decide +kernel, by decide, rfl⟩
theorem zd_B_isImage_97 : decode zb_B_isImage 97 = .ok (.iconst 0, 1) ∧ 97 + 1 = 98 := ⟨by decide +kernel, rfl⟩
theorem zd_B_isImage_98 : decode zb_B_isImage 98 = .ok (.ireturn, 1) ∧ 98 + 1 = 99 := ⟨by decide +kernel, rfl⟩
theorem zd_B_isImage_99 : decode zb_B_isImage 99 = .ok (.iconst 0, 1) ∧ 99 + 1 = 100 := ⟨by decide +kernel, rfl⟩
theorem zd_B_isImage_100 : decode zb_B_isImage 100 = .ok (.istore_n 3, 1) ∧ 100 + 1 = 101 := ⟨by decide +kernel, rfl⟩
theorem zd_B_isImage_101 : decode zb_B_isImage 101 = .ok (.iload_n 3, 1) ∧ 101 + 1 = 102 := ⟨by decide +kernel, rfl⟩
theorem zd_B_isImage_102 : decode zb_B_isImage 102 = .ok (.iload_n 2, 1) ∧ 102 + 1 = 103 := ⟨by decide +kernel, rfl⟩
theorem zd_B_isImage_103 : decode zb_B_isImage 103 = .ok (.if_icmp .ge 23, 3) ∧ ((103 : Nat) : Int) + (23) = ((126 : Nat) : Int) ∧ 103 + 3 = 106 := ⟨by decide +kernel, by decide, rfl⟩
theorem zd_B_isImage_106 : decode zb_B_isImage 106 = .ok (.aload_n 0, 1) ∧ 106 + 1 = 107 := ⟨by decide +kernel, rfl⟩
theorem zd_B_isImage_107 : decode zb_B_isImage 107 = .ok (.getfield 9, 3) ∧ 107 + 3 = 110 := ⟨by decide +kernel, rfl⟩
theorem zd_B_isImage_110 : decode zb_B_isImage 110 = .ok (.iconst 5, 1) ∧ 110 + 1 = 111 := ⟨by decide +kernel, rfl⟩
theorem zd_B_isImage_111 : decode zb_B_isImage 111 = .ok (.iload_n 3, 1) ∧ 111 + 1 = 112 := ⟨by decide +kernel, rfl⟩
theorem zd_B_isImage_112 : decode zb_B_isImage 112 = .ok (.iadd, 1) ∧ 112 + 1 = 113 := ⟨by decide +kernel, rfl⟩
theorem zd_B_isImage_113 : decode zb_B_isImage 113 = .ok (.iaload, 1) ∧ 113 + 1 = 114 := ⟨by decide +kernel, rfl⟩
theorem zd_B_isImage_114 : decode zb_B_isImage 114 = .ok (.iconst 2, 1) ∧ 114 + 1 = 115 := ⟨by decide +kernel, rfl⟩
theorem zd_B_isImage_115 : decode zb_B_isImage 115 = .ok (.if_icmp .le 5, 3) ∧ ((115 : Nat) : Int) + (5) = ((120 : Nat) : Int) ∧ 115 + 3 = 118 := ⟨by decide +kernel, by decide, rfl⟩
theorem zd_B_isImage_118 : decode zb_B_isImage 118 = .ok (.iconst 0, 1) ∧ 118 + 1 = 119 := ⟨by decide +kernel, rfl⟩
theorem zd_B_isImage_119 : decode zb_B_isImage 119 = .ok (.ireturn, 1) ∧ 119 + 1 = 120 := ⟨by decide +kernel, rfl⟩
theorem zd_B_isImage_120 : decode zb_B_isImage 120 = .ok (.iinc 3 1, 3) ∧ 120 + 3 = 123 := ⟨by decide +kernel, rfl⟩
theorem zd_B_isImage_123 : decode zb_B_isImage 123 = .ok (.goto (-22), 3) ∧ ((123 : Nat) : Int) + (-22) = ((101 : Nat) : Int) ∧ 123 + 3 = 126 := ⟨by decide +kernel, by decide, rfl⟩
theorem zd_B_isImage_126 : decode zb_B_isImage 126 = .ok (.aload_n 0, 1) ∧ 126 + 1 = 127 := ⟨by decide +kernel, rfl⟩
theorem zd_B_isImage_127 : decode zb_B_isImage 127 = .ok (.getfield 9, 3) ∧ 127 + 3 = 130 := ⟨by decide +kernel, rfl⟩
theorem zd_B_isImage_130 : decode zb_B_isImage 130 = .ok (.iload_n 1, 1) ∧ 130 + 1 = 131 := ⟨by decide +kernel, rfl⟩
theorem zd_B_isImage_131 : decode zb_B_isImage 131 = .ok (.iconst 1, 1) ∧ 131 + 1 = 132 := ⟨by decide +kernel, rfl⟩
theorem zd_B_isImage_132 : decode zb_B_isImage 132 = .ok (.isub, 1) ∧ 132 + 1 = 133 := ⟨by decide +kernel, rfl⟩
theorem zd_B_isImage_133 : decode zb_B_isImage 133 = .ok (.iaload, 1) ∧ 133 + 1 = 134 := ⟨by decide +kernel, rfl⟩
theorem zd_B_isImage_134 : decode zb_B_isImage 134 = .ok (.aload_n 0, 1) ∧ 134 + 1 = 135 := ⟨by decide +kernel, rfl⟩
theorem zd_B_isImage_135 : decode zb_B_isImage 135 = .ok (.getfield 9, 3) ∧ 135 + 3 = 138 := ⟨by decide +kernel, rfl⟩
theorem zd_B_isImage_138 : decode zb_B_isImage 138 = .ok (.iload_n 1, 1) ∧ 138 + 1 = 139 := ⟨by decide +kernel, rfl⟩
theorem zd_B_isImage_139 : decode zb_B_isImage 139 = .ok (.iconst 1, 1) ∧ 139 + 1 = 140 := ⟨by decide +kernel, rfl⟩
theorem zd_B_isImage_140 : decode zb_B_isImage 140 = .ok (.isub, 1) ∧ 140 + 1 = 141 := ⟨by decide +kernel, rfl⟩
theorem zd_B_isImage_141 : decode zb_B_isImage 141 = .ok (.invokestatic 264, 3) ∧ 141 + 3 = 144 := ⟨by decide +kernel, rfl⟩
theorem zd_B_isImage_144 : decode zb_B_isImage 144 = .ok (.if_icmp .ne 7, 3) ∧ ((144 : Nat) : Int) + (7) = ((151 : Nat) : Int) ∧ 144 + 3 = 147 := ⟨by decide +kernel, by decide, rfl⟩
theorem zd_B_isImage_147 : decode zb_B_isImage 147 = .ok (.iconst 1, 1) ∧ 147 + 1 = 148 := ⟨by decide +kernel, rfl⟩
theorem zd_B_isImage_148 : decode zb_B_isImage 148 = .ok (.goto 4, 3) ∧ ((148 : Nat) : Int) + (4) = ((152 : Nat) : Int) ∧ 148 + 3 = 151 := ⟨by decide +kernel, by decide, rfl⟩
theorem zd_B_isImage_151 : decode zb_B_isImage 151 = .ok (.iconst 0, 1) ∧ 151 + 1 = 152 := ⟨by decide +kernel, rfl⟩
theorem zd_B_isImage_152 : decode zb_B_isImage 152 = .ok (.ireturn, 1) ∧ 152 + 1 = 153 := ⟨by decide +kernel, rfl⟩
theorem zd_B_checkByte_0 : decode zb_B_checkByte 0 = .ok (.bipush 13, 2) ∧ 0 + 2 = 2 := ⟨by decide +kernel, rfl⟩
theorem zd_B_checkByte_2 : decode zb_B_checkByte 2 = .ok (.istore_n 2, 1) ∧ 2 + 1 = 3 := ⟨by decide +kernel, rfl⟩
theorem zd_B_checkByte_3 : decode zb_B_checkByte 3 = .ok (.iconst 0, 1) ∧ 3 + 1 = 4 := ⟨by decide +kernel, rfl⟩
theorem zd_B_checkByte_4 : decode zb_B_checkByte 4 = .ok (.istore_n 3, 1) ∧ 4 + 1 = 5 := ⟨by decide +kernel, rfl⟩
theorem zd_B_checkByte_5 : decode zb_B_checkByte 5 = .ok (.iload_n 3, 1) ∧ 5 + 1 = 6 := ⟨by decide +kernel, rfl⟩
theorem zd_B_checkByte_6 : decode zb_B_checkByte 6 = .ok (.iload_n 1, 1) ∧ 6 + 1 = 7 := ⟨by decide +kernel, rfl⟩
theorem zd_B_checkByte_7 : decode zb_B_checkByte 7 = .ok (.if_icmp .ge 27, 3) ∧ ((7 : Nat) : Int) + (27) = ((34 : Nat) : Int) ∧ 7 + 3 = 10 := ⟨by decide +kernel, by decide, rfl⟩
theorem zd_B_checkByte_10 : decode zb_B_checkByte 10 = .ok (.iload_n 3, 1) ∧ 10 + 1 = 11 := ⟨by decide +kernel, rfl⟩
theorem zd_B_checkByte_11 : decode zb_B_checkByte 11 = .ok (.aload_n 0, 1) ∧ 11 + 1 = 12 := ⟨by decide +kernel, rfl⟩
theorem zd_B_checkByte_12 : decode zb_B_checkByte 12 = .ok (.arraylength, 1) ∧ 12 + 1 = 13 := ⟨by decide +kernel, rfl⟩
theorem zd_B_checkByte_13 : decode zb_B_checkByte 13 = .ok (.if_icmp .ge 21, 3) ∧ ((13 : Nat) : Int) + (21) = ((34 : Nat) : Int) ∧ 13 + 3 = 16 := ⟨by decide +kernel, by decide, rfl⟩
theorem zd_B_checkByte_16 : decode zb_B_checkByte 16 = .ok (.iconst 3, 1) ∧ 16 + 1 = 17 := ⟨by decide +kernel, rfl⟩
theorem zd_B_checkByte_17 : decode zb_B_checkByte 17 = .ok (.iload_n 2, 1) ∧ 17 + 1 = 18 := ⟨by decide +kernel, rfl⟩
theorem zd_B_checkByte_18 : decode zb_B_checkByte 18 = .ok (.imul, 1) ∧ 18 + 1 = 19 := ⟨by decide +kernel, rfl⟩
theorem zd_B_checkByte_19 : decode zb_B_checkByte 19 = .ok (.aload_n 0, 1) ∧ 19 + 1 = 20 := ⟨by decide +kernel, rfl⟩
theorem zd_B_checkByte_20 : decode zb_B_checkByte 20 = .ok (.iload_n 3, 1) ∧ 20 + 1 = 21 := ⟨by decide +kernel, rfl⟩
theorem zd_B_checkByte_21 : decode zb_B_checkByte 21 = .ok (.iaload, 1) ∧ 21 + 1 = 22 := ⟨by decide +kernel, rfl⟩
theorem zd_B_checkByte_22 : decode zb_B_checkByte 22 = .ok (.iadd, 1) ∧ 22 + 1 = 23 := ⟨by decide +kernel, rfl⟩
theorem zd_B_checkByte_23 : decode zb_B_checkByte 23 = .ok (.sipush 227, 3) ∧ 23 + 3 = 26 := ⟨by decide +kernel, rfl⟩
theorem zd_B_checkByte_26 : decode zb_B_checkByte 26 = .ok (.irem, 1) ∧ 26 + 1 = 27 := ⟨by decide +kernel, rfl⟩
theorem zd_B_checkByte_27 : decode zb_B_checkByte 27 = .ok (.istore_n 2, 1) ∧ 27 + 1 = 28 := ⟨by decide +kernel, rfl⟩
theorem zd_B_checkByte_28 : decode zb_B_checkByte 28 = .ok (.iinc 3 1, 3) ∧ 28 + 3 = 31 := ⟨by decide +kernel, rfl⟩
theorem zd_B_checkByte_31 : decode zb_B_checkByte 31 = .ok (.goto (-26), 3) ∧ ((31 : Nat) : Int) + (-26) = ((5 : Nat) : Int) ∧ 31 + 3 = 34 := ⟨by decide +kernel, by decide, rfl⟩
theorem zd_B_checkByte_34 : decode zb_B_checkByte 34 = .ok (.iload_n 2, 1) ∧ 34 + 1 = 35 := ⟨by decide +kernel, rfl⟩
theorem zd_B_checkByte_35 : decode zb_B_checkByte 35 = .ok (.ireturn, 1) ∧ 35 + 1 = 36 := ⟨by decide +kernel, rfl⟩
theorem zd_B_isNumber_0 : decode zb_B_isNumber 0 = .ok (.iload_n 1, 1) ∧ 0 + 1 = 1 := ⟨by decide +kernel, rfl⟩
theorem zd_B_isNumber_1 : decode zb_B_isNumber 1 = .ok (.ifCond .lt 20, 3) ∧ ((1 : Nat) : Int) + (20) = ((21 : Nat) : Int) ∧ 1 + 3 = 4 := ⟨by decide +kernel, by decide, rfl⟩
theorem zd_B_isNumber_4 : decode zb_B_isNumber 4 = .ok (.iload_n 1, 1) ∧ 4 + 1 = 5 := ⟨by decide +kernel, rfl⟩
theorem zd_B_isNumber_5 : decode zb_B_isNumber 5 = .ok (.aload_n 0, 1) ∧ 5 + 1 = 6 := ⟨by decide +kernel, rfl⟩
theorem zd_B_isNumber_6 : decode zb_B_isNumber 6 = .ok (.getfield 23, 3) ∧ 6 + 3 = 9 := ⟨by decide +kernel, rfl⟩
theorem zd_B_isNumber_9 : decode zb_B_isNumber 9 = .ok (.getfield 97, 3) ∧ 9 + 3 = 12 := ⟨by decide +kernel, rfl⟩
theorem zd_B_isNumber_12 : decode zb_B_isNumber 12 = .ok (.iload_n 2, 1) ∧ 12 + 1 = 13 := ⟨by decide +kernel, rfl⟩
theorem zd_B_isNumber_13 : decode zb_B_isNumber 13 = .ok (.iaload, 1) ∧ 13 + 1 = 14 := ⟨by decide +kernel, rfl⟩
theorem zd_B_isNumber_14 : decode zb_B_isNumber 14 = .ok (.if_icmp .ge 7, 3) ∧ ((14 : Nat) : Int) + (7) = ((21 : Nat) : Int) ∧ 14 + 3 = 17 := ⟨by decide +kernel, by decide, rfl⟩
theorem zd_B_isNumber_17 : decode zb_B_isNumber 17 = .ok (.iconst 1, 1) ∧ 17 + 1 = 18 := ⟨by decide +kernel, rfl⟩
theorem zd_B_isNumber_18 : decode zb_B_isNumber 18 = .ok (.goto 4, 3) ∧ ((18 : Nat) : Int) + (4) = ((22 : Nat) : Int) ∧ 18 + 3 = 21 := ⟨by decide +kernel, by decide, rfl⟩
theorem zd_B_isNumber_21 : decode zb_B_isNumber 21 = .ok (.iconst 0, 1) ∧ 21 + 1 = 22 := ⟨by decide +kernel, rfl⟩
theorem zd_B_isNumber_22 : decode zb_B_isNumber 22 = .ok (.ireturn, 1) ∧ 22 + 1 = 23 := ⟨by decide +kernel, rfl⟩
theorem zd_B_allOf_0 : decode zb_B_allOf 0 = .ok (.iconst 1, 1) ∧ 0 + 1 = 1 := ⟨by decide +kernel, rfl⟩
theorem zd_B_allOf_1 : decode zb_B_allOf 1 = .ok (.aload_n 0, 1) ∧ 1 + 1 = 2 := ⟨by decide +kernel, rfl⟩
theorem zd_B_allOf_2 : decode zb_B_allOf 2 = .ok (.getfield 23, 3) ∧ 2 + 3 = 5 := ⟨by decide +kernel, rfl⟩
theorem zd_B_allOf_5 : decode zb_B_allOf 5 = .ok (.getfield 97, 3) ∧ 5 + 3 = 8 := ⟨by decide +kernel, rfl⟩
theorem zd_B_allOf_8 : decode zb_B_allOf 8 = .ok (.iload_n 1, 1) ∧ 8 + 1 = 9 := ⟨by decide +kernel, rfl⟩
theorem zd_B_allOf_9 : decode zb_B_allOf 9 = .ok (.iaload, 1) ∧ 9 + 1 = 10 := ⟨by decide +kernel, rfl⟩
theorem zd_B_allOf_10 : decode zb_B_allOf 10 = .ok (.ishl, 1) ∧ 10 + 1 = 11 := ⟨by decide +kernel, rfl⟩
theorem zd_B_allOf_11 : decode zb_B_allOf 11 = .ok (.iconst 1, 1) ∧ 11 + 1 = 12 := ⟨by decide +kernel, rfl⟩
theorem zd_B_allOf_12 : decode zb_B_allOf 12 = .ok (.isub, 1) ∧ 12 + 1 = 13 := ⟨by decide +kernel, rfl⟩
theorem zd_B_allOf_13 : decode zb_B_allOf 13 = .ok (.ireturn, 1) ∧ 13 + 1 = 14 := ⟨by decide +kernel, rfl⟩
theorem zd_B_stateCount_0 : decode zb_B_stateCount 0 = .ok (.iconst 1, 1) ∧ 0 + 1 = 1 := ⟨by decide +kernel, rfl⟩
theorem zd_B_stateCount_1 : decode zb_B_stateCount 1 = .ok (.aload_n 0, 1) ∧ 1 + 1 = 2 := ⟨by decide +kernel, rfl⟩
theorem zd_B_stateCount_2 : decode zb_B_stateCount 2 = .ok (.getfield 23, 3) ∧ 2 + 3 = 5 := ⟨by decide +kernel, rfl⟩
theorem zd_B_stateCount_5 : decode zb_B_stateCount 5 = .ok (.getfield 97, 3) ∧ 5 + 3 = 8 := ⟨by decide +kernel, rfl⟩
theorem zd_B_stateCount_8 : decode zb_B_stateCount 8 = .ok (.iconst 2, 1) ∧ 8 + 1 = 9 := ⟨by decide +kernel, rfl⟩
theorem zd_B_stateCount_9 : decode zb_B_stateCount 9 = .ok (.iaload, 1) ∧ 9 + 1 = 10 := ⟨by decide +kernel, rfl⟩
theorem zd_B_stateCount_10 : decode zb_B_stateCount 10 = .ok (.ishl, 1) ∧ 10 + 1 = 11 := ⟨by decide +kernel, rfl⟩
theorem zd_B_stateCount_11 : decode zb_B_stateCount 11 = .ok (.ireturn, 1) ∧ 11 + 1 = 12 := ⟨by decide +kernel, rfl⟩
theorem zd_B_isState_0 : decode zb_B_isState 0 = .ok (.iload_n 1, 1) ∧ 0 + 1 = 1 := ⟨by decide +kernel, rfl⟩
theorem zd_B_isState_1 : decode zb_B_isState 1 = .ok (.ifCond .lt 15, 3) ∧ ((1 : Nat) : Int) + (15) = ((16 : Nat) : Int) ∧ 1 + 3 = 4 := ⟨by decide +kernel, by decide, rfl⟩
theorem zd_B_isState_4 : decode zb_B_isState 4 = .ok (.iload_n 1, 1) ∧ 4 + 1 = 5 := ⟨by decide +kernel, rfl⟩
theorem zd_B_isState_5 : decode zb_B_isState 5 = .ok (.aload_n 0, 1) ∧ 5 + 1 = 6 := ⟨by decide +kernel, rfl⟩
theorem zd_B_isState_6 : decode zb_B_isState 6 = .ok (.invokevirtual 186, 3) ∧ 6 + 3 = 9 := ⟨by decide +kernel, rfl⟩
theorem zd_B_isState_9 : decode zb_B_isState 9 = .ok (.if_icmp .ge 7, 3) ∧ ((9 : Nat) : Int) + (7) = ((16 : Nat) : Int) ∧ 9 + 3 = 12 := ⟨by decide +kernel, by decide, rfl⟩
theorem zd_B_isState_12 : decode zb_B_isState 12 = .ok (.iconst 1, 1) ∧ 12 + 1 = 13 := ⟨by decide +kernel, rfl⟩
theorem zd_B_isState_13 : decode zb_B_isState 13 = .ok (.goto 4, 3) ∧ ((13 : Nat) : Int) + (4) = ((17 : Nat) : Int) ∧ 13 + 3 = 16 := ⟨by decide +kernel, by decide, rfl⟩
theorem zd_B_isState_16 : decode zb_B_isState 16 = .ok (.iconst 0, 1) ∧ 16 + 1 = 17 := ⟨by decide +kernel, rfl⟩
theorem zd_B_isState_17 : decode zb_B_isState 17 = .ok (.ireturn, 1) ∧ 17 + 1 = 18 := ⟨by decide +kernel, rfl⟩
theorem zd_B_isOneColour_0 : decode zb_B_isOneColour 0 = .ok (.iload_n 0, 1) ∧ 0 + 1 = 1 := ⟨by decide +kernel, rfl⟩
theorem zd_B_isOneColour_1 : decode zb_B_isOneColour 1 = .ok (.iconst 1, 1) ∧ 1 + 1 = 2 := ⟨by decide +kernel, rfl⟩
theorem zd_B_isOneColour_2 : decode zb_B_isOneColour 2 = .ok (.if_icmp .eq 13, 3) ∧ ((2 : Nat) : Int) + (13) = ((15 : Nat) : Int) ∧ 2 + 3 = 5 := ⟨by decide +kernel, by decide, rfl⟩
theorem zd_B_isOneColour_5 : decode zb_B_isOneColour 5 = .ok (.iload_n 0, 1) ∧ 5 + 1 = 6 := ⟨by decide +kernel, rfl⟩
theorem zd_B_isOneColour_6 : decode zb_B_isOneColour 6 = .ok (.iconst 2, 1) ∧ 6 + 1 = 7 := ⟨by decide +kernel, rfl⟩
theorem zd_B_isOneColour_7 : decode zb_B_isOneColour 7 = .ok (.if_icmp .eq 8, 3) ∧ ((7 : Nat) : Int) + (8) = ((15 : Nat) : Int) ∧ 7 + 3 = 10 := ⟨by decide +kernel, by decide, rfl⟩
theorem zd_B_isOneColour_10 : decode zb_B_isOneColour 10 = .ok (.iload_n 0, 1) ∧ 10 + 1 = 11 := ⟨by decide +kernel, rfl⟩
theorem zd_B_isOneColour_11 : decode zb_B_isOneColour 11 = .ok (.iconst 4, 1) ∧ 11 + 1 = 12 := ⟨by decide +kernel, rfl⟩
theorem zd_B_isOneColour_12 : decode zb_B_isOneColour 12 = .ok (.if_icmp .ne 7, 3) ∧ ((12 : Nat) : Int) + (7) = ((19 : Nat) : Int) ∧ 12 + 3 = 15 := ⟨by decide +kernel, by decide, rfl⟩
theorem zd_B_isOneColour_15 : decode zb_B_isOneColour 15 = .ok (.iconst 1, 1) ∧ 15 + 1 = 16 := ⟨by decide +kernel, rfl⟩
theorem zd_B_isOneColour_16 : decode zb_B_isOneColour 16 = .ok (.goto 4, 3) ∧ ((16 : Nat) : Int) + (4) = ((20 : Nat) : Int) ∧ 16 + 3 = 19 := ⟨by decide +kernel, by decide, rfl⟩
theorem zd_B_isOneColour_19 : decode zb_B_isOneColour 19 = .ok (.iconst 0, 1) ∧ 19 + 1 = 20 := ⟨by decide +kernel, rfl⟩
theorem zd_B_isOneColour_20 : decode zb_B_isOneColour 20 = .ok (.ireturn, 1) ∧ 20 + 1 = 21 := ⟨by decide +kernel, rfl⟩
theorem zd_B_moveTo_0 : decode zb_B_moveTo 0 = .ok (.iload_n 1, 1) ∧ 0 + 1 = 1 := ⟨by decide +kernel, rfl⟩
theorem zd_B_moveTo_1 : decode zb_B_moveTo 1 = .ok (.aload_n 0, 1) ∧ 1 + 1 = 2 := ⟨by decide +kernel, rfl⟩
theorem zd_B_moveTo_2 : decode zb_B_moveTo 2 = .ok (.getfield 73, 3) ∧ 2 + 3 = 5 := ⟨by decide +kernel, rfl⟩
theorem zd_B_moveTo_5 : decode zb_B_moveTo 5 = .ok (.if_icmp .eq 23, 3) ∧ ((5 : Nat) : Int) + (23) = ((28 : Nat) : Int) ∧ 5 + 3 = 8 := ⟨by decide +kernel, by decide, rfl⟩
theorem zd_B_moveTo_8 : decode zb_B_moveTo 8 = .ok (.aload_n 0, 1) ∧ 8 + 1 = 9 := ⟨by decide +kernel, rfl⟩
theorem zd_B_moveTo_9 : decode zb_B_moveTo 9 = .ok (.getfield 47, 3) ∧ 9 + 3 = 12 := ⟨by decide +kernel, rfl⟩
theorem zd_B_moveTo_12 : decode zb_B_moveTo 12 = .ok (.aload_n 0, 1) ∧ 12 + 1 = 13 := ⟨by decide +kernel, rfl⟩
theorem zd_B_moveTo_13 : decode zb_B_moveTo 13 = .ok (.getfield 70, 3) ∧ 13 + 3 = 16 := ⟨by decide +kernel, rfl⟩
theorem zd_B_moveTo_16 : decode zb_B_moveTo 16 = .ok (.aload_n 0, 1) ∧ 16 + 1 = 17 := ⟨by decide +kernel, rfl⟩
theorem zd_B_moveTo_17 : decode zb_B_moveTo 17 = .ok (.getfield 73, 3) ∧ 17 + 3 = 20 := ⟨by decide +kernel, rfl⟩
theorem zd_B_moveTo_20 : decode zb_B_moveTo 20 = .ok (.invokevirtual 126, 3) ∧ 20 + 3 = 23 := ⟨by decide +kernel, rfl⟩
theorem zd_B_moveTo_23 : decode zb_B_moveTo 23 = .ok (.aload_n 0, 1) ∧ 23 + 1 = 24 := ⟨by decide +kernel, rfl⟩
theorem zd_B_moveTo_24 : decode zb_B_moveTo 24 = .ok (.iload_n 1, 1) ∧ 24 + 1 = 25 := ⟨by decide +kernel, rfl⟩
theorem zd_B_moveTo_25 : decode zb_B_moveTo 25 = .ok (.putfield 73, 3) ∧ 25 + 3 = 28 := ⟨by decide +kernel, rfl⟩
theorem zd_B_moveTo_28 : decode zb_B_moveTo 28 = .ok (.return_, 1) ∧ 28 + 1 = 29 := ⟨by decide +kernel, rfl⟩
theorem zd_B_lightNow_0 : decode zb_B_lightNow 0 = .ok (.aload_n 0, 1) ∧ 0 + 1 = 1 := ⟨by decide +kernel, rfl⟩
theorem zd_B_lightNow_1 : decode zb_B_lightNow 1 = .ok (.sipush 255, 3) ∧ 1 + 3 = 4 := ⟨by decide +kernel, rfl⟩
theorem zd_B_lightNow_4 : decode zb_B_lightNow 4 = .ok (.bipush 7, 2) ∧ 4 + 2 = 6 := ⟨by decide +kernel, rfl⟩
theorem zd_B_lightNow_6 : decode zb_B_lightNow 6 = .ok (.invokevirtual 234, 3) ∧ 6 + 3 = 9 := ⟨by decide +kernel, rfl⟩
theorem zd_B_lightNow_9 : decode zb_B_lightNow 9 = .ok (.areturn, 1) ∧ 9 + 1 = 10 := ⟨by decide +kernel, rfl⟩
theorem zd_B_lightOf_0 : decode zb_B_lightOf 0 = .ok (.aload_n 0, 1) ∧ 0 + 1 = 1 := ⟨by decide +kernel, rfl⟩
theorem zd_B_lightOf_1 : decode zb_B_lightOf 1 = .ok (.getfield 30, 3) ∧ 1 + 3 = 4 := ⟨by decide +kernel, rfl⟩
theorem zd_B_lightOf_4 : decode zb_B_lightOf 4 = .ok (.getfield 276, 3) ∧ 4 + 3 = 7 := ⟨by decide +kernel, rfl⟩
theorem zd_B_lightOf_7 : decode zb_B_lightOf 7 = .ok (.aload_n 0, 1) ∧ 7 + 1 = 8 := ⟨by decide +kernel, rfl⟩
theorem zd_B_lightOf_8 : decode zb_B_lightOf 8 = .ok (.getfield 23, 3) ∧ 8 + 3 = 11 := ⟨by decide +kernel, rfl⟩
theorem zd_B_lightOf_11 : decode zb_B_lightOf 11 = .ok (.aload_n 0, 1) ∧ 11 + 1 = 12 := ⟨by decide +kernel, rfl⟩
theorem zd_B_lightOf_12 : decode zb_B_lightOf 12 = .ok (.getfield 70, 3) ∧ 12 + 3 = 15 := ⟨by decide +kernel, rfl⟩
theorem zd_B_lightOf_15 : decode zb_B_lightOf 15 = .ok (.aload_n 0, 1) ∧ 15 + 1 = 16 := ⟨by decide +kernel, rfl⟩
theorem zd_B_lightOf_16 : decode zb_B_lightOf 16 = .ok (.getfield 73, 3) ∧ 16 + 3 = 19 := ⟨by decide +kernel, rfl⟩
theorem zd_B_lightOf_19 : decode zb_B_lightOf 19 = .ok (.iload_n 1, 1) ∧ 19 + 1 = 20 := ⟨by decide +kernel, rfl⟩
theorem zd_B_lightOf_20 : decode zb_B_lightOf 20 = .ok (.iload_n 2, 1) ∧ 20 + 1 = 21 := ⟨by decide +kernel, rfl⟩
theorem zd_B_lightOf_21 : decode zb_B_lightOf 21 = .ok (.invokevirtual 279, 3) ∧ 21 + 3 = 24 := ⟨by decide +kernel, rfl⟩
theorem zd_B_lightOf_24 : decode zb_B_lightOf 24 = .ok (.aload_n 0, 1) ∧ 24 + 1 = 25 := ⟨by decide +kernel, rfl⟩
theorem zd_B_lightOf_25 : decode zb_B_lightOf 25 = .ok (.getfield 30, 3) ∧ 25 + 3 = 28 := ⟨by decide +kernel, rfl⟩
theorem zd_B_lightOf_28 : decode zb_B_lightOf 28 = .ok (.getfield 276, 3) ∧ 28 + 3 = 31 := ⟨by decide +kernel, rfl⟩
theorem zd_B_lightOf_31 : decode zb_B_lightOf 31 = .ok (.areturn, 1) ∧ 31 + 1 = 32 := ⟨by decide +kernel, rfl⟩
theorem zd_B_areMet_0 : decode zb_B_areMet 0 = .ok (.aload_n 0, 1) ∧ 0 + 1 = 1 := ⟨by decide +kernel, rfl⟩
theorem zd_B_areMet_1 : decode zb_B_areMet 1 = .ok (.aload_n 0, 1) ∧ 1 + 1 = 2 := ⟨by decide +kernel, rfl⟩
theorem zd_B_areMet_2 : decode zb_B_areMet 2 = .ok (.getfield 30, 3) ∧ 2 + 3 = 5 := ⟨by decide +kernel, rfl⟩
theorem zd_B_areMet_5 : decode zb_B_areMet 5 = .ok (.aload_n 0, 1) ∧ 5 + 1 = 6 := ⟨by decide +kernel, rfl⟩
theorem zd_B_areMet_6 : decode zb_B_areMet 6 = .ok (.getfield 23, 3) ∧ 6 + 3 = 9 := ⟨by decide +kernel, rfl⟩
theorem zd_B_areMet_9 : decode zb_B_areMet 9 = .ok (.iload_n 1, 1) ∧ 9 + 1 = 10 := ⟨by decide +kernel, rfl⟩
theorem zd_B_areMet_10 : decode zb_B_areMet 10 = .ok (.aload_n 0, 1) ∧ 10 + 1 = 11 := ⟨by decide +kernel, rfl⟩
theorem zd_B_areMet_11 : decode zb_B_areMet 11 = .ok (.getfield 73, 3) ∧ 11 + 3 = 14 := ⟨by decide +kernel, rfl⟩
theorem zd_B_areMet_14 : decode zb_B_areMet 14 = .ok (.invokevirtual 195, 3) ∧ 14 + 3 = 17 := ⟨by decide +kernel, rfl⟩
theorem zd_B_areMet_17 : decode zb_B_areMet 17 = .ok (.invokevirtual 224, 3) ∧ 17 + 3 = 20 := ⟨by decide +kernel, rfl⟩
theorem zd_B_areMet_20 : decode zb_B_areMet 20 = .ok (.ireturn, 1) ∧ 20 + 1 = 21 := ⟨by decide +kernel, rfl⟩
theorem zd_B_isAsWished_0 : decode zb_B_isAsWished 0 = .ok (.iload_n 1, 1) ∧ 0 + 1 = 1 := ⟨by decide +kernel, rfl⟩
theorem zd_B_isAsWished_1 : decode zb_B_isAsWished 1 = .ok (.iconst (-1), 1) ∧ 1 + 1 = 2 := ⟨by decide +kernel, rfl⟩
theorem zd_B_isAsWished_2 : decode zb_B_isAsWished 2 = .ok (.if_icmp .eq 29, 3) ∧ ((2 : Nat) : Int) + (29) = ((31 : Nat) : Int) ∧ 2 + 3 = 5 := ⟨by decide +kernel, by decide, rfl⟩
theorem zd_B_isAsWished_5 : decode zb_B_isAsWished 5 = .ok (.iload_n 1, 1) ∧ 5 + 1 = 6 := ⟨by decide +kernel, rfl⟩
theorem zd_B_isAsWished_6 : decode zb_B_isAsWished 6 = .ok (.aload_n 0, 1) ∧ 6 + 1 = 7 := ⟨by decide +kernel, rfl⟩
theorem zd_B_isAsWished_7 : decode zb_B_isAsWished 7 = .ok (.getfield 76, 3) ∧ 7 + 3 = 10 := ⟨by decide +kernel, rfl⟩
theorem zd_B_isAsWished_10 : decode zb_B_isAsWished 10 = .ok (.iand, 1) ∧ 10 + 1 = 11 := ⟨by decide +kernel, rfl⟩
theorem zd_B_isAsWished_11 : decode zb_B_isAsWished 11 = .ok (.aload_n 0, 1) ∧ 11 + 1 = 12 := ⟨by decide +kernel, rfl⟩
theorem zd_B_isAsWished_12 : decode zb_B_isAsWished 12 = .ok (.getfield 76, 3) ∧ 12 + 3 = 15 := ⟨by decide +kernel, rfl⟩
theorem zd_B_isAsWished_15 : decode zb_B_isAsWished 15 = .ok (.if_icmp .ne 16, 3) ∧ ((15 : Nat) : Int) + (16) = ((31 : Nat) : Int) ∧ 15 + 3 = 18 := ⟨by decide +kernel, by decide, rfl⟩
theorem zd_B_isAsWished_18 : decode zb_B_isAsWished 18 = .ok (.iload_n 1, 1) ∧ 18 + 1 = 19 := ⟨by decide +kernel, rfl⟩
theorem zd_B_isAsWished_19 : decode zb_B_isAsWished 19 = .ok (.aload_n 0, 1) ∧ 19 + 1 = 20 := ⟨by decide +kernel, rfl⟩
theorem zd_B_isAsWished_20 : decode zb_B_isAsWished 20 = .ok (.getfield 79, 3) ∧ 20 + 3 = 23 := ⟨by decide +kernel, rfl⟩
theorem zd_B_isAsWished_23 : decode zb_B_isAsWished 23 = .ok (.iand, 1) ∧ 23 + 1 = 24 := ⟨by decide +kernel, rfl⟩
theorem zd_B_isAsWished_24 : decode zb_B_isAsWished 24 = .ok (.ifCond .ne 7, 3) ∧ ((24 : Nat) : Int) + (7) = ((31 : Nat) : Int) ∧ 24 + 3 = 27 := ⟨by decide +kernel, by decide, rfl⟩
theorem zd_B_isAsWished_27 : decode zb_B_isAsWished 27 = .ok (.iconst 1, 1) ∧ 27 + 1 = 28 := ⟨by decide +kernel, rfl⟩
theorem zd_B_isAsWished_28 : decode zb_B_isAsWished 28 = .ok (.goto 4, 3) ∧ ((28 : Nat) : Int) + (4) = ((32 : Nat) : Int) ∧ 28 + 3 = 31 := ⟨by decide +kernel, by decide, rfl⟩
theorem zd_B_isAsWished_31 : decode zb_B_isAsWished 31 = .ok (.iconst 0, 1) ∧ 31 + 1 = 32 := ⟨by decide +kernel, rfl⟩
theorem zd_B_isAsWished_32 : decode zb_B_isAsWished 32 = .ok (.ireturn, 1) ∧ 32 + 1 = 33 := ⟨by decide +kernel, rfl⟩
