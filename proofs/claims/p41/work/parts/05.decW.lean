theorem zd_W_pick_0 : decode zb_W_pick 0 = .ok (.iload_n 1, 1) ∧ 0 + 1 = 1 := ⟨by decide +kernel, rfl⟩
theorem zd_W_pick_1 : decode zb_W_pick 1 = .ok (.ifCond .lt 15, 3) ∧ ((1 : Nat) : Int) + (15) = ((16 : Nat) : Int) ∧ 1 + 3 = 4 := ⟨by decide +kernel, by decide, rfl⟩
theorem zd_W_pick_4 : decode zb_W_pick 4 = .ok (.iload_n 1, 1) ∧ 4 + 1 = 5 := ⟨by decide +kernel, rfl⟩
theorem zd_W_pick_5 : decode zb_W_pick 5 = .ok (.aload_n 0, 1) ∧ 5 + 1 = 6 := ⟨by decide +kernel, rfl⟩
theorem zd_W_pick_6 : decode zb_W_pick 6 = .ok (.arraylength, 1) ∧ 6 + 1 = 7 := ⟨by decide +kernel, rfl⟩
theorem zd_W_pick_7 : decode zb_W_pick 7 = .ok (.if_icmp .ge 9, 3) ∧ ((7 : Nat) : Int) + (9) = ((16 : Nat) : Int) ∧ 7 + 3 = 10 := ⟨by decide +kernel, by decide, rfl⟩
theorem zd_W_pick_10 : decode zb_W_pick 10 = .ok (.aload_n 0, 1) ∧ 10 + 1 = 11 := ⟨by decide +kernel, rfl⟩
theorem zd_W_pick_11 : decode zb_W_pick 11 = .ok (.iload_n 1, 1) ∧ 11 + 1 = 12 := ⟨by decide +kernel, rfl⟩
theorem zd_W_pick_12 : decode zb_W_pick 12 = .ok (.iaload, 1) ∧ 12 + 1 = 13 := ⟨by decide +kernel, rfl⟩
theorem zd_W_pick_13 : decode zb_W_pick 13 = .ok (.goto 4, 3) ∧ ((13 : Nat) : Int) + (4) = ((17 : Nat) : Int) ∧ 13 + 3 = 16 := ⟨by decide +kernel, by decide, rfl⟩
theorem zd_W_pick_16 : decode zb_W_pick 16 = .ok (.iconst 0, 1) ∧ 16 + 1 = 17 := ⟨by decide +kernel, rfl⟩
theorem zd_W_pick_17 : decode zb_W_pick 17 = .ok (.ireturn, 1) ∧ 17 + 1 = 18 := ⟨by decide +kernel, rfl⟩
theorem zd_W_pick__0 : decode zb_W_pick_ 0 = .ok (.aload_n 0, 1) ∧ 0 + 1 = 1 := ⟨by decide +kernel, rfl⟩
theorem zd_W_pick__1 : decode zb_W_pick_ 1 = .ok (.iload_n 1, 1) ∧ 1 + 1 = 2 := ⟨by decide +kernel, rfl⟩
theorem zd_W_pick__2 : decode zb_W_pick_ 2 = .ok (.invokestatic 7, 3) ∧ 2 + 3 = 5 := ⟨by decide +kernel, rfl⟩
theorem zd_W_pick__5 : decode zb_W_pick_ 5 = .ok (.iload_n 2, 1) ∧ 5 + 1 = 6 := ⟨by decide +kernel, rfl⟩
theorem zd_W_pick__6 : decode zb_W_pick_ 6 = .ok (.invokestatic 13, 3) ∧ 6 + 3 = 9 := ⟨by decide +kernel, rfl⟩
theorem zd_W_pick__9 : decode zb_W_pick_ 9 = .ok (.ireturn, 1) ∧ 9 + 1 = 10 := ⟨by decide +kernel, rfl⟩
theorem zd_W_feed_0 : decode zb_W_feed 0 = .ok (.iconst 0, 1) ∧ 0 + 1 = 1 := ⟨by decide +kernel, rfl⟩
theorem zd_W_feed_1 : decode zb_W_feed 1 = .ok (.istore_n 2, 1) ∧ 1 + 1 = 2 := ⟨by decide +kernel, rfl⟩
theorem zd_W_feed_2 : decode zb_W_feed 2 = .ok (.iload_n 2, 1) ∧ 2 + 1 = 3 := ⟨by decide +kernel, rfl⟩
theorem zd_W_feed_3 : decode zb_W_feed 3 = .ok (.aload_n 1, 1) ∧ 3 + 1 = 4 := ⟨by decide +kernel, rfl⟩
theorem zd_W_feed_4 : decode zb_W_feed 4 = .ok (.invokevirtual 19, 3) ∧ 4 + 3 = 7 := ⟨by decide +kernel, rfl⟩
theorem zd_W_feed_7 : decode zb_W_feed 7 = .ok (.if_icmp .ge 97, 3) ∧ ((7 : Nat) : Int) + (97) = ((104 : Nat) : Int) ∧ 7 + 3 = 10 := ⟨by decide +kernel, by decide, rfl⟩
theorem zd_W_feed_10 : decode zb_W_feed 10 = .ok (.iconst 5, 1) ∧ 10 + 1 = 11 := ⟨by decide +kernel, rfl⟩
theorem zd_W_feed_11 : decode zb_W_feed 11 = .ok (.newarray .int, 2) ∧ 11 + 2 = 13 := ⟨by decide +kernel, rfl⟩
theorem zd_W_feed_13 : decode zb_W_feed 13 = .ok (.astore_n 3, 1) ∧ 13 + 1 = 14 := ⟨by decide +kernel, rfl⟩
theorem zd_W_feed_14 : decode zb_W_feed 14 = .ok (.iconst 0, 1) ∧ 14 + 1 = 15 := ⟨by decide +kernel, rfl⟩
theorem zd_W_feed_15 : decode zb_W_feed 15 = .ok (.istore 4, 2) ∧ 15 + 2 = 17 := ⟨by decide +kernel, rfl⟩
theorem zd_W_feed_17 : decode zb_W_feed 17 = .ok (.iload 4, 2) ∧ 17 + 2 = 19 := ⟨by decide +kernel, rfl⟩
theorem zd_W_feed_19 : decode zb_W_feed 19 = .ok (.bipush 20, 2) ∧ 19 + 2 = 21 := ⟨by decide +kernel, rfl⟩
theorem zd_W_feed_21 : decode zb_W_feed 21 = .ok (.if_icmp .ge 53, 3) ∧ ((21 : Nat) : Int) + (53) = ((74 : Nat) : Int) ∧ 21 + 3 = 24 := ⟨by decide +kernel, by decide, rfl⟩
theorem zd_W_feed_24 : decode zb_W_feed 24 = .ok (.aload_n 3, 1) ∧ 24 + 1 = 25 := ⟨by decide +kernel, rfl⟩
theorem zd_W_feed_25 : decode zb_W_feed 25 = .ok (.iload 4, 2) ∧ 25 + 2 = 27 := ⟨by decide +kernel, rfl⟩
theorem zd_W_feed_27 : decode zb_W_feed 27 = .ok (.iconst 4, 1) ∧ 27 + 1 = 28 := ⟨by decide +kernel, rfl⟩
theorem zd_W_feed_28 : decode zb_W_feed 28 = .ok (.idiv, 1) ∧ 28 + 1 = 29 := ⟨by decide +kernel, rfl⟩
theorem zd_W_feed_29 : decode zb_W_feed 29 = .ok (.aload_n 3, 1) ∧ 29 + 1 = 30 := ⟨by decide +kernel, rfl⟩
theorem zd_W_feed_30 : decode zb_W_feed 30 = .ok (.iload 4, 2) ∧ 30 + 2 = 32 := ⟨by decide +kernel, rfl⟩
theorem zd_W_feed_32 : decode zb_W_feed 32 = .ok (.iconst 4, 1) ∧ 32 + 1 = 33 := ⟨by decide +kernel, rfl⟩
theorem zd_W_feed_33 : decode zb_W_feed 33 = .ok (.idiv, 1) ∧ 33 + 1 = 34 := ⟨by decide +kernel, rfl⟩
theorem zd_W_feed_34 : decode zb_W_feed 34 = .ok (.iaload, 1) ∧ 34 + 1 = 35 := ⟨by decide +kernel, rfl⟩
theorem zd_W_feed_35 : decode zb_W_feed 35 = .ok (.bipush 8, 2) ∧ 35 + 2 = 37 := ⟨by decide +kernel, rfl⟩
theorem zd_W_feed_37 : decode zb_W_feed 37 = .ok (.ishl, 1) ∧ 37 + 1 = 38 := ⟨by decide +kernel, rfl⟩
theorem zd_W_feed_38 : decode zb_W_feed 38 = .ok (.iload_n 2, 1) ∧ 38 + 1 = 39 := ⟨by decide +kernel, rfl⟩
theorem zd_W_feed_39 : decode zb_W_feed 39 = .ok (.iload 4, 2) ∧ 39 + 2 = 41 := ⟨by decide +kernel, rfl⟩
theorem zd_W_feed_41 : decode zb_W_feed 41 = .ok (.iadd, 1) ∧ 41 + 1 = 42 := ⟨by decide +kernel, rfl⟩
theorem zd_W_feed_42 : decode zb_W_feed 42 = .ok (.aload_n 1, 1) ∧ 42 + 1 = 43 := ⟨by decide +kernel, rfl⟩
theorem zd_W_feed_43 : decode zb_W_feed 43 = .ok (.invokevirtual 19, 3) ∧ 43 + 3 = 46 := ⟨by decide +kernel, rfl⟩
theorem zd_W_feed_46 : decode zb_W_feed 46 = .ok (.if_icmp .ge 18, 3) ∧ ((46 : Nat) : Int) + (18) = ((64 : Nat) : Int) ∧ 46 + 3 = 49 := ⟨by decide +kernel, by decide, rfl⟩
theorem zd_W_feed_49 : decode zb_W_feed 49 = .ok (.aload_n 1, 1) ∧ 49 + 1 = 50 := ⟨by decide +kernel, rfl⟩
theorem zd_W_feed_50 : decode zb_W_feed 50 = .ok (.iload_n 2, 1) ∧ 50 + 1 = 51 := ⟨by decide +kernel, rfl⟩
theorem zd_W_feed_51 : decode zb_W_feed 51 = .ok (.iload 4, 2) ∧ 51 + 2 = 53 := ⟨by decide +kernel, rfl⟩
theorem zd_W_feed_53 : decode zb_W_feed 53 = .ok (.iadd, 1) ∧ 53 + 1 = 54 := ⟨by decide +kernel, rfl⟩
theorem zd_W_feed_54 : decode zb_W_feed 54 = .ok (.invokevirtual 25, 3) ∧ 54 + 3 = 57 := ⟨by decide +kernel, rfl⟩
theorem zd_W_feed_57 : decode zb_W_feed 57 = .ok (.sipush 255, 3) ∧ 57 + 3 = 60 := ⟨by decide +kernel, rfl⟩
theorem zd_W_feed_60 : decode zb_W_feed 60 = .ok (.iand, 1) ∧ 60 + 1 = 61 := ⟨by decide +kernel, rfl⟩
theorem zd_W_feed_61 : decode zb_W_feed 61 = .ok (.goto 5, 3) ∧ ((61 : Nat) : Int) + (5) = ((66 : Nat) : Int) ∧ 61 + 3 = 64 := ⟨by decide +kernel, by decide, rfl⟩
theorem zd_W_feed_64 : decode zb_W_feed 64 = .ok (.bipush 32, 2) ∧ 64 + 2 = 66 := ⟨by decide +kernel, rfl⟩
theorem zd_W_feed_66 : decode zb_W_feed 66 = .ok (.ior, 1) ∧ 66 + 1 = 67 := ⟨by decide +kernel, rfl⟩
theorem zd_W_feed_67 : decode zb_W_feed 67 = .ok (.iastore, 1) ∧ 67 + 1 = 68 := ⟨by decide +kernel, rfl⟩
theorem zd_W_feed_68 : decode zb_W_feed 68 = .ok (.iinc 4 1, 3) ∧ 68 + 3 = 71 := ⟨by decide +kernel, rfl⟩
theorem zd_W_feed_71 : decode zb_W_feed 71 = .ok (.goto (-54), 3) ∧ ((71 : Nat) : Int) + (-54) = ((17 : Nat) : Int) ∧ 71 + 3 = 74 := ⟨by decide +kernel, by decide, rfl⟩
theorem zd_W_feed_74 : decode zb_W_feed 74 = .ok (.aload_n 0, 1) ∧ 74 + 1 = 75 := ⟨by decide +kernel, rfl⟩
theorem zd_W_feed_75 : decode zb_W_feed 75 = .ok (.aload_n 3, 1) ∧ 75 + 1 = 76 := ⟨by decide +kernel, rfl⟩
theorem zd_W_feed_76 : decode zb_W_feed 76 = .ok (.iconst 0, 1) ∧ 76 + 1 = 77 := ⟨by decide +kernel, rfl⟩
theorem zd_W_feed_77 : decode zb_W_feed 77 = .ok (.iaload, 1) ∧ 77 + 1 = 78 := ⟨by decide +kernel, rfl⟩
theorem zd_W_feed_78 : decode zb_W_feed 78 = .ok (.aload_n 3, 1) ∧ 78 + 1 = 79 := ⟨by decide +kernel, rfl⟩
theorem zd_W_feed_79 : decode zb_W_feed 79 = .ok (.iconst 1, 1) ∧ 79 + 1 = 80 := ⟨by decide +kernel, rfl⟩
theorem zd_W_feed_80 : decode zb_W_feed 80 = .ok (.iaload, 1) ∧ 80 + 1 = 81 := ⟨by decide +kernel, rfl⟩
theorem zd_W_feed_81 : decode zb_W_feed 81 = .ok (.aload_n 3, 1) ∧ 81 + 1 = 82 := ⟨by decide +kernel, rfl⟩
theorem zd_W_feed_82 : decode zb_W_feed 82 = .ok (.iconst 2, 1) ∧ 82 + 1 = 83 := ⟨by decide +kernel, rfl⟩
theorem zd_W_feed_83 : decode zb_W_feed 83 = .ok (.iaload, 1) ∧ 83 + 1 = 84 := ⟨by decide +kernel, rfl⟩
theorem zd_W_feed_84 : decode zb_W_feed 84 = .ok (.aload_n 3, 1) ∧ 84 + 1 = 85 := ⟨by decide +kernel, rfl⟩
theorem zd_W_feed_85 : decode zb_W_feed 85 = .ok (.iconst 3, 1) ∧ 85 + 1 = 86 := ⟨by decide +kernel, rfl⟩
theorem zd_W_feed_86 : decode zb_W_feed 86 = .ok (.iaload, 1) ∧ 86 + 1 = 87 := ⟨by decide +kernel, rfl⟩
theorem zd_W_feed_87 : decode zb_W_feed 87 = .ok (.aload_n 3, 1) ∧ 87 + 1 = 88 := ⟨by decide +kernel, rfl⟩
theorem zd_W_feed_88 : decode zb_W_feed 88 = .ok (.iconst 4, 1) ∧ 88 + 1 = 89 := ⟨by decide +kernel, rfl⟩
theorem zd_W_feed_89 : decode zb_W_feed 89 = .ok (.iaload, 1) ∧ 89 + 1 = 90 := ⟨by decide +kernel, rfl⟩
theorem zd_W_feed_90 : decode zb_W_feed 90 = .ok (.invokevirtual 29, 3) ∧ 90 + 3 = 93 := ⟨by decide +kernel, rfl⟩
theorem zd_W_feed_93 : decode zb_W_feed 93 = .ok (.ifCond .ge 5, 3) ∧ ((93 : Nat) : Int) + (5) = ((98 : Nat) : Int) ∧ 93 + 3 = 96 := ⟨by decide +kernel, by decide, rfl⟩
theorem zd_W_feed_96 : decode zb_W_feed 96 = .ok (.iconst 0, 1) ∧ 96 + 1 = 97 := ⟨by decide +kernel, rfl⟩
theorem zd_W_feed_97 : decode zb_W_feed 97 = .ok (.ireturn, 1) ∧ 97 + 1 = 98 := ⟨by decide +kernel, rfl⟩
theorem zd_W_feed_98 : decode zb_W_feed 98 = .ok (.iinc 2 20, 3) ∧ 98 + 3 = 101 := ⟨by decide +kernel, rfl⟩
theorem zd_W_feed_101 : decode zb_W_feed 101 = .ok (.goto (-99), 3) ∧ ((101 : Nat) : Int) + (-99) = ((2 : Nat) : Int) ∧ 101 + 3 = 104 := ⟨by decide +kernel, by decide, rfl⟩
theorem zd_W_feed_104 : decode zb_W_feed 104 = .ok (.aload_n 0, 1) ∧ 104 + 1 = 105 := ⟨by decide +kernel, rfl⟩
theorem zd_W_feed_105 : decode zb_W_feed 105 = .ok (.aload_n 1, 1) ∧ 105 + 1 = 106 := ⟨by decide +kernel, rfl⟩
theorem zd_W_feed_106 : decode zb_W_feed 106 = .ok (.invokevirtual 19, 3) ∧ 106 + 3 = 109 := ⟨by decide +kernel, rfl⟩
theorem zd_W_feed_109 : decode zb_W_feed 109 = .ok (.invokevirtual 35, 3) ∧ 109 + 3 = 112 := ⟨by decide +kernel, rfl⟩
theorem zd_W_feed_112 : decode zb_W_feed 112 = .ok (.ireturn, 1) ∧ 112 + 1 = 113 := ⟨by decide +kernel, rfl⟩
theorem zd_W_squares_0 : decode zb_W_squares 0 = .ok (.iload_n 1, 1) ∧ 0 + 1 = 1 := ⟨by decide +kernel, rfl⟩
theorem zd_W_squares_1 : decode zb_W_squares 1 = .ok (.iload_n 2, 1) ∧ 1 + 1 = 2 := ⟨by decide +kernel, rfl⟩
theorem zd_W_squares_2 : decode zb_W_squares 2 = .ok (.imul, 1) ∧ 2 + 1 = 3 := ⟨by decide +kernel, rfl⟩
theorem zd_W_squares_3 : decode zb_W_squares 3 = .ok (.iconst 3, 1) ∧ 3 + 1 = 4 := ⟨by decide +kernel, rfl⟩
theorem zd_W_squares_4 : decode zb_W_squares 4 = .ok (.multianewarray 39 2, 4) ∧ 4 + 4 = 8 := ⟨by decide +kernel, rfl⟩
theorem zd_W_squares_8 : decode zb_W_squares 8 = .ok (.astore 4, 2) ∧ 8 + 2 = 10 := ⟨by decide +kernel, rfl⟩
theorem zd_W_squares_10 : decode zb_W_squares 10 = .ok (.bipush 10, 2) ∧ 10 + 2 = 12 := ⟨by decide +kernel, rfl⟩
theorem zd_W_squares_12 : decode zb_W_squares 12 = .ok (.newarray .int, 2) ∧ 12 + 2 = 14 := ⟨by decide +kernel, rfl⟩
theorem zd_W_squares_14 : decode zb_W_squares 14 = .ok (.astore 5, 2) ∧ 14 + 2 = 16 := ⟨by decide +kernel, rfl⟩
theorem zd_W_squares_16 : decode zb_W_squares 16 = .ok (.iconst 0, 1) ∧ 16 + 1 = 17 := ⟨by decide +kernel, rfl⟩
theorem zd_W_squares_17 : decode zb_W_squares 17 = .ok (.istore 6, 2) ∧ 17 + 2 = 19 := ⟨by decide +kernel, rfl⟩
theorem zd_W_squares_19 : decode zb_W_squares 19 = .ok (.iload 6, 2) ∧ 19 + 2 = 21 := ⟨by decide +kernel, rfl⟩
theorem zd_W_squares_21 : decode zb_W_squares 21 = .ok (.iload_n 1, 1) ∧ 21 + 1 = 22 := ⟨by decide +kernel, rfl⟩
theorem zd_W_squares_22 : decode zb_W_squares 22 = .ok (.iload_n 2, 1) ∧ 22 + 1 = 23 := ⟨by decide +kernel, rfl⟩
theorem zd_W_squares_23 : decode zb_W_squares 23 = .ok (.imul, 1) ∧ 23 + 1 = 24 := ⟨by decide +kernel, rfl⟩
theorem zd_W_squares_24 : decode zb_W_squares 24 = .ok (.if_icmp .ge 251, 3) ∧ ((24 : Nat) : Int) + (251) = ((275 : Nat) : Int) ∧ 24 + 3 = 27 := ⟨by decide +kernel, by decide, rfl⟩
theorem zd_W_squares_27 : decode zb_W_squares 27 = .ok (.aload_n 0, 1) ∧ 27 + 1 = 28 := ⟨by decide +kernel, rfl⟩
theorem zd_W_squares_28 : decode zb_W_squares 28 = .ok (.bipush 20, 2) ∧ 28 + 2 = 30 := ⟨by decide +kernel, rfl⟩
theorem zd_W_squares_30 : decode zb_W_squares 30 = .ok (.iconst 3, 1) ∧ 30 + 1 = 31 := ⟨by decide +kernel, rfl⟩
theorem zd_W_squares_31 : decode zb_W_squares 31 = .ok (.iload 6, 2) ∧ 31 + 2 = 33 := ⟨by decide +kernel, rfl⟩
theorem zd_W_squares_33 : decode zb_W_squares 33 = .ok (.imul, 1) ∧ 33 + 1 = 34 := ⟨by decide +kernel, rfl⟩
theorem zd_W_squares_34 : decode zb_W_squares 34 = .ok (.iadd, 1) ∧ 34 + 1 = 35 := ⟨by decide +kernel, rfl⟩
theorem zd_W_squares_35 : decode zb_W_squares 35 = .ok (.bipush 14, 2) ∧ 35 + 2 = 37 := ⟨by decide +kernel, rfl⟩
theorem zd_W_squares_37 : decode zb_W_squares 37 = .ok (.invokestatic 41, 3) ∧ 37 + 3 = 40 := ⟨by decide +kernel, rfl⟩
theorem zd_W_squares_40 : decode zb_W_squares 40 = .ok (.istore 7, 2) ∧ 40 + 2 = 42 := ⟨by decide +kernel, rfl⟩
theorem zd_W_squares_42 : decode zb_W_squares 42 = .ok (.iload 7, 2) ∧ 42 + 2 = 44 := ⟨by decide +kernel, rfl⟩
theorem zd_W_squares_44 : decode zb_W_squares 44 = .ok (.bipush 9, 2) ∧ 44 + 2 = 46 := ⟨by decide +kernel, rfl⟩
theorem zd_W_squares_46 : decode zb_W_squares 46 = .ok (.if_icmp .le 29, 3) ∧ ((46 : Nat) : Int) + (29) = ((75 : Nat) : Int) ∧ 46 + 3 = 49 := ⟨by decide +kernel, by decide, rfl⟩
theorem zd_W_squares_49 : decode zb_W_squares 49 = .ok (.iload 7, 2) ∧ 49 + 2 = 51 := ⟨by decide +kernel, rfl⟩
theorem zd_W_squares_51 : decode zb_W_squares 51 = .ok (.bipush 12, 2) ∧ 51 + 2 = 53 := ⟨by decide +kernel, rfl⟩
theorem zd_W_squares_53 : decode zb_W_squares 53 = .ok (.if_icmp .ge 7, 3) ∧ ((53 : Nat) : Int) + (7) = ((60 : Nat) : Int) ∧ 53 + 3 = 56 := ⟨by decide +kernel, by decide, rfl⟩
theorem zd_W_squares_56 : decode zb_W_squares 56 = .ok (.iconst 0, 1) ∧ 56 + 1 = 57 := ⟨by decide +kernel, rfl⟩
theorem zd_W_squares_57 : decode zb_W_squares 57 = .ok (.goto 16, 3) ∧ ((57 : Nat) : Int) + (16) = ((73 : Nat) : Int) ∧ 57 + 3 = 60 := ⟨by decide +kernel, by decide, rfl⟩
theorem zd_W_squares_60 : decode zb_W_squares 60 = .ok (.iload 7, 2) ∧ 60 + 2 = 62 := ⟨by decide +kernel, rfl⟩
theorem zd_W_squares_62 : decode zb_W_squares 62 = .ok (.bipush 12, 2) ∧ 62 + 2 = 64 := ⟨by decide +kernel, rfl⟩
theorem zd_W_squares_64 : decode zb_W_squares 64 = .ok (.if_icmp .ne 7, 3) ∧ ((64 : Nat) : Int) + (7) = ((71 : Nat) : Int) ∧ 64 + 3 = 67 := ⟨by decide +kernel, by decide, rfl⟩
theorem zd_W_squares_67 : decode zb_W_squares 67 = .ok (.iconst 1, 1) ∧ 67 + 1 = 68 := ⟨by decide +kernel, rfl⟩
theorem zd_W_squares_68 : decode zb_W_squares 68 = .ok (.goto 5, 3) ∧ ((68 : Nat) : Int) + (5) = ((73 : Nat) : Int) ∧ 68 + 3 = 71 := ⟨by decide +kernel, by decide, rfl⟩
theorem zd_W_squares_71 : decode zb_W_squares 71 = .ok (.bipush 7, 2) ∧ 71 + 2 = 73 := ⟨by decide +kernel, rfl⟩
theorem zd_W_squares_73 : decode zb_W_squares 73 = .ok (.istore 7, 2) ∧ 73 + 2 = 75 := ⟨by decide +kernel, rfl⟩
theorem zd_W_squares_75 : decode zb_W_squares 75 = .ok (.iload 7, 2) ∧ 75 + 2 = 77 := ⟨by decide +kernel, rfl⟩
theorem zd_W_squares_77 : decode zb_W_squares 77 = .ok (.iconst 3, 1) ∧ 77 + 1 = 78 := ⟨by decide +kernel, rfl⟩
theorem zd_W_squares_78 : decode zb_W_squares 78 = .ok (.if_icmp .ne 7, 3) ∧ ((78 : Nat) : Int) + (7) = ((85 : Nat) : Int) ∧ 78 + 3 = 81 := ⟨by decide +kernel, by decide, rfl⟩
theorem zd_W_squares_81 : decode zb_W_squares 81 = .ok (.iconst 2, 1) ∧ 81 + 1 = 82 := ⟨by decide +kernel, rfl⟩
theorem zd_W_squares_82 : decode zb_W_squares 82 = .ok (.goto 17, 3) ∧ ((82 : Nat) : Int) + (17) = ((99 : Nat) : Int) ∧ 82 + 3 = 85 := ⟨by decide +kernel, by decide, rfl⟩
theorem zd_W_squares_85 : decode zb_W_squares 85 = .ok (.iload 7, 2) ∧ 85 + 2 = 87 := ⟨by decide +kernel, rfl⟩
theorem zd_W_squares_87 : decode zb_W_squares 87 = .ok (.bipush 9, 2) ∧ 87 + 2 = 89 := ⟨by decide +kernel, rfl⟩
theorem zd_W_squares_89 : decode zb_W_squares 89 = .ok (.if_icmp .ne 8, 3) ∧ ((89 : Nat) : Int) + (8) = ((97 : Nat) : Int) ∧ 89 + 3 = 92 := ⟨by decide +kernel, by decide, rfl⟩
theorem zd_W_squares_92 : decode zb_W_squares 92 = .ok (.bipush 8, 2) ∧ 92 + 2 = 94 := ⟨by decide +kernel, rfl⟩
theorem zd_W_squares_94 : decode zb_W_squares 94 = .ok (.goto 5, 3) ∧ ((94 : Nat) : Int) + (5) = ((99 : Nat) : Int) ∧ 94 + 3 = 97 := ⟨by decide +kernel, by decide, rfl⟩
theorem zd_W_squares_97 : decode zb_W_squares 97 = .ok (.iload 7, 2) ∧ 97 + 2 = 99 := ⟨by decide +kernel, rfl⟩
theorem zd_W_squares_99 : decode zb_W_squares 99 = .ok (.istore 8, 2) ∧ 99 + 2 = 101 := ⟨by decide +kernel, rfl⟩
theorem zd_W_squares_101 : decode zb_W_squares 101 = .ok (.iload 8, 2) ∧ 101 + 2 = 103 := ⟨by decide +kernel, rfl⟩
theorem zd_W_squares_103 : decode zb_W_squares 103 = .ok (.bipush 8, 2) ∧ 103 + 2 = 105 := ⟨by decide +kernel, rfl⟩
theorem zd_W_squares_105 : decode zb_W_squares 105 = .ok (.if_icmp .ne 15, 3) ∧ ((105 : Nat) : Int) + (15) = ((120 : Nat) : Int) ∧ 105 + 3 = 108 := ⟨by decide +kernel, by decide, rfl⟩
theorem zd_W_squares_108 : decode zb_W_squares 108 = .ok (.iload_n 3, 1) ∧ 108 + 1 = 109 := ⟨by decide +kernel, rfl⟩
theorem zd_W_squares_109 : decode zb_W_squares 109 = .ok (.ifCond .eq 7, 3) ∧ ((109 : Nat) : Int) + (7) = ((116 : Nat) : Int) ∧ 109 + 3 = 112 := ⟨by decide +kernel, by decide, rfl⟩
theorem zd_W_squares_112 : decode zb_W_squares 112 = .ok (.iconst 3, 1) ∧ 112 + 1 = 113 := ⟨by decide +kernel, rfl⟩
theorem zd_W_squares_113 : decode zb_W_squares 113 = .ok (.goto 20, 3) ∧ ((113 : Nat) : Int) + (20) = ((133 : Nat) : Int) ∧ 113 + 3 = 116 := ⟨by decide +kernel, by decide, rfl⟩
theorem zd_W_squares_116 : decode zb_W_squares 116 = .ok (.iconst 0, 1) ∧ 116 + 1 = 117 := ⟨by decide +kernel, rfl⟩
theorem zd_W_squares_117 : decode zb_W_squares 117 = .ok (.goto 16, 3) ∧ ((117 : Nat) : Int) + (16) = ((133 : Nat) : Int) ∧ 117 + 3 = 120 := ⟨by decide +kernel, by decide, rfl⟩
theorem zd_W_squares_120 : decode zb_W_squares 120 = .ok (.iload 8, 2) ∧ 120 + 2 = 122 := ⟨by decide +kernel, rfl⟩
theorem zd_W_squares_122 : decode zb_W_squares 122 = .ok (.iconst 2, 1) ∧ 122 + 1 = 123 := ⟨by decide +kernel, rfl⟩
theorem zd_W_squares_123 : decode zb_W_squares 123 = .ok (.if_icmp .ne 8, 3) ∧ ((123 : Nat) : Int) + (8) = ((131 : Nat) : Int) ∧ 123 + 3 = 126 := ⟨by decide +kernel, by decide, rfl⟩
theorem zd_W_squares_126 : decode zb_W_squares 126 = .ok (.bipush 6, 2) ∧ 126 + 2 = 128 := ⟨by decide +kernel, rfl⟩
theorem zd_W_squares_128 : decode zb_W_squares 128 = .ok (.goto 5, 3) ∧ ((128 : Nat) : Int) + (5) = ((133 : Nat) : Int) ∧ 128 + 3 = 131 := ⟨by decide +kernel, by decide, rfl⟩
theorem zd_W_squares_131 : decode zb_W_squares 131 = .ok (.bipush 7, 2) ∧ 131 + 2 = 133 := ⟨by decide +kernel, rfl⟩
theorem zd_W_squares_133 : decode zb_W_squares 133 = .ok (.istore 9, 2) ∧ 133 + 2 = 135 := ⟨by decide +kernel, rfl⟩
theorem zd_W_squares_135 : decode zb_W_squares 135 = .ok (.iload 7, 2) ∧ 135 + 2 = 137 := ⟨by decide +kernel, rfl⟩
theorem zd_W_squares_137 : decode zb_W_squares 137 = .ok (.ifCond .eq 132, 3) ∧ ((137 : Nat) : Int) + (132) = ((269 : Nat) : Int) ∧ 137 + 3 = 140 := ⟨by decide +kernel, by decide, rfl⟩
theorem zd_W_squares_140 : decode zb_W_squares 140 = .ok (.aload 5, 2) ∧ 140 + 2 = 142 := ⟨by decide +kernel, rfl⟩
theorem zd_W_squares_142 : decode zb_W_squares 142 = .ok (.iload 8, 2) ∧ 142 + 2 = 144 := ⟨by decide +kernel, rfl⟩
theorem zd_W_squares_144 : decode zb_W_squares 144 = .ok (.iaload, 1) ∧ 144 + 1 = 145 := ⟨by decide +kernel, rfl⟩
theorem zd_W_squares_145 : decode zb_W_squares 145 = .ok (.iload 9, 2) ∧ 145 + 2 = 147 := ⟨by decide +kernel, rfl⟩
theorem zd_W_squares_147 : decode zb_W_squares 147 = .ok (.if_icmp .ne 6, 3) ∧ ((147 : Nat) : Int) + (6) = ((153 : Nat) : Int) ∧ 147 + 3 = 150 := ⟨by decide +kernel, by decide, rfl⟩
theorem zd_W_squares_150 : decode zb_W_squares 150 = .ok (.goto 119, 3) ∧ ((150 : Nat) : Int) + (119) = ((269 : Nat) : Int) ∧ 150 + 3 = 153 := ⟨by decide +kernel, by decide, rfl⟩
theorem zd_W_squares_153 : decode zb_W_squares 153 = .ok (.aload 5, 2) ∧ 153 + 2 = 155 := ⟨by decide +kernel, rfl⟩
theorem zd_W_squares_155 : decode zb_W_squares 155 = .ok (.iload 8, 2) ∧ 155 + 2 = 157 := ⟨by decide +kernel, rfl⟩
theorem zd_W_squares_157 : decode zb_W_squares 157 = .ok (.dup2, 1) ∧ 157 + 1 = 158 := ⟨by decide +kernel, rfl⟩
theorem zd_W_squares_158 : decode zb_W_squares 158 = .ok (.iaload, 1) ∧ 158 + 1 = 159 := ⟨by decide +kernel, rfl⟩
theorem zd_W_squares_159 : decode zb_W_squares 159 = .ok (.iconst 1, 1) ∧ 159 + 1 = 160 := ⟨by decide +kernel, rfl⟩
theorem zd_W_squares_160 : decode zb_W_squares 160 = .ok (.iadd, 1) ∧ 160 + 1 = 161 := ⟨by decide +kernel, rfl⟩
theorem zd_W_squares_161 : decode zb_W_squares 161 = .ok (.iastore, 1) ∧ 161 + 1 = 162 := ⟨by decide +kernel, rfl⟩
theorem zd_W_squares_162 : decode zb_W_squares 162 = .ok (.aload 4, 2) ∧ 162 + 2 = 164 := ⟨by decide +kernel, rfl⟩
theorem zd_W_squares_164 : decode zb_W_squares 164 = .ok (.iload 6, 2) ∧ 164 + 2 = 166 := ⟨by decide +kernel, rfl⟩
theorem zd_W_squares_166 : decode zb_W_squares 166 = .ok (.aaload, 1) ∧ 166 + 1 = 167 := ⟨by decide +kernel, rfl⟩
theorem zd_W_squares_167 : decode zb_W_squares 167 = .ok (.iconst 0, 1) ∧ 167 + 1 = 168 := ⟨by decide +kernel, rfl⟩
theorem zd_W_squares_168 : decode zb_W_squares 168 = .ok (.iload 7, 2) ∧ 168 + 2 = 170 := ⟨by decide +kernel, rfl⟩
theorem zd_W_squares_170 : decode zb_W_squares 170 = .ok (.iastore, 1) ∧ 170 + 1 = 171 := ⟨by decide +kernel, rfl⟩
theorem zd_W_squares_171 : decode zb_W_squares 171 = .ok (.aload 4, 2) ∧ 171 + 2 = 173 := ⟨by decide +kernel, rfl⟩
theorem zd_W_squares_173 : decode zb_W_squares 173 = .ok (.iload 6, 2) ∧ 173 + 2 = 175 := ⟨by decide +kernel, rfl⟩
theorem zd_W_squares_175 : decode zb_W_squares 175 = .ok (.aaload, 1) ∧ 175 + 1 = 176 := ⟨by decide +kernel, rfl⟩
theorem zd_W_squares_176 : decode zb_W_squares 176 = .ok (.iconst 1, 1) ∧ 176 + 1 = 177 := ⟨by decide +kernel, rfl⟩
theorem zd_W_squares_177 : decode zb_W_squares 177 = .ok (.aload_n 0, 1) ∧ 177 + 1 = 178 := ⟨by decide +kernel, rfl⟩
theorem zd_W_squares_178 : decode zb_W_squares 178 = .ok (.bipush 21, 2) ∧ 178 + 2 = 180 := ⟨by decide +kernel, rfl⟩
theorem zd_W_squares_180 : decode zb_W_squares 180 = .ok (.iconst 3, 1) ∧ 180 + 1 = 181 := ⟨by decide +kernel, rfl⟩
theorem zd_W_squares_181 : decode zb_W_squares 181 = .ok (.iload 6, 2) ∧ 181 + 2 = 183 := ⟨by decide +kernel, rfl⟩
theorem zd_W_squares_183 : decode zb_W_squares 183 = .ok (.imul, 1) ∧ 183 + 1 = 184 := ⟨by decide +kernel, rfl⟩
theorem zd_W_squares_184 : decode zb_W_squares 184 = .ok (.iadd, 1) ∧ 184 + 1 = 185 := ⟨by decide +kernel, rfl⟩
theorem zd_W_squares_185 : decode zb_W_squares 185 = .ok (.iload 7, 2) ∧ 185 + 2 = 187 := ⟨by decide +kernel, rfl⟩
theorem zd_W_squares_187 : decode zb_W_squares 187 = .ok (.iconst 1, 1) ∧ 187 + 1 = 188 := ⟨by decide +kernel, rfl⟩
theorem zd_W_squares_188 : decode zb_W_squares 188 = .ok (.if_icmp .eq 9, 3) ∧ ((188 : Nat) : Int) + (9) = ((197 : Nat) : Int) ∧ 188 + 3 = 191 := ⟨by decide +kernel, by decide, rfl⟩
theorem zd_W_squares_191 : decode zb_W_squares 191 = .ok (.iload 7, 2) ∧ 191 + 2 = 193 := ⟨by decide +kernel, rfl⟩
theorem zd_W_squares_193 : decode zb_W_squares 193 = .ok (.iconst 4, 1) ∧ 193 + 1 = 194 := ⟨by decide +kernel, rfl⟩
theorem zd_W_squares_194 : decode zb_W_squares 194 = .ok (.if_icmp .ne 7, 3) ∧ ((194 : Nat) : Int) + (7) = ((201 : Nat) : Int) ∧ 194 + 3 = 197 := ⟨by decide +kernel, by decide, rfl⟩
theorem zd_W_squares_197 : decode zb_W_squares 197 = .ok (.iconst 4, 1) ∧ 197 + 1 = 198 := ⟨by decide +kernel, rfl⟩
theorem zd_W_squares_198 : decode zb_W_squares 198 = .ok (.goto 4, 3) ∧ ((198 : Nat) : Int) + (4) = ((202 : Nat) : Int) ∧ 198 + 3 = 201 := ⟨by decide +kernel, by decide, rfl⟩
theorem zd_W_squares_201 : decode zb_W_squares 201 = .ok (.iconst 2, 1) ∧ 201 + 1 = 202 := ⟨by decide +kernel, rfl⟩
theorem zd_W_squares_202 : decode zb_W_squares 202 = .ok (.invokestatic 41, 3) ∧ 202 + 3 = 205 := ⟨by decide +kernel, rfl⟩
theorem zd_W_squares_205 : decode zb_W_squares 205 = .ok (.iastore, 1) ∧ 205 + 1 = 206 := ⟨by decide +kernel, rfl⟩
theorem zd_W_squares_206 : decode zb_W_squares 206 = .ok (.iload 7, 2) ∧ 206 + 2 = 208 := ⟨by decide +kernel, rfl⟩
theorem zd_W_squares_208 : decode zb_W_squares 208 = .ok (.iconst 1, 1) ∧ 208 + 1 = 209 := ⟨by decide +kernel, rfl⟩
theorem zd_W_squares_209 : decode zb_W_squares 209 = .ok (.if_icmp .eq 9, 3) ∧ ((209 : Nat) : Int) + (9) = ((218 : Nat) : Int) ∧ 209 + 3 = 212 := ⟨by decide +kernel, by decide, rfl⟩
theorem zd_W_squares_212 : decode zb_W_squares 212 = .ok (.iload 7, 2) ∧ 212 + 2 = 214 := ⟨by decide +kernel, rfl⟩
theorem zd_W_squares_214 : decode zb_W_squares 214 = .ok (.iconst 4, 1) ∧ 214 + 1 = 215 := ⟨by decide +kernel, rfl⟩
theorem zd_W_squares_215 : decode zb_W_squares 215 = .ok (.if_icmp .ne 35, 3) ∧ ((215 : Nat) : Int) + (35) = ((250 : Nat) : Int) ∧ 215 + 3 = 218 := ⟨by decide +kernel, by decide, rfl⟩
theorem zd_W_squares_218 : decode zb_W_squares 218 = .ok (.aload 4, 2) ∧ 218 + 2 = 220 := ⟨by decide +kernel, rfl⟩
theorem zd_W_squares_220 : decode zb_W_squares 220 = .ok (.iload 6, 2) ∧ 220 + 2 = 222 := ⟨by decide +kernel, rfl⟩
theorem zd_W_squares_222 : decode zb_W_squares 222 = .ok (.aaload, 1) ∧ 222 + 1 = 223 := ⟨by decide +kernel, rfl⟩
theorem zd_W_squares_223 : decode zb_W_squares 223 = .ok (.iconst 1, 1) ∧ 223 + 1 = 224 := ⟨by decide +kernel, rfl⟩
theorem zd_W_squares_224 : decode zb_W_squares 224 = .ok (.aload 4, 2) ∧ 224 + 2 = 226 := ⟨by decide +kernel, rfl⟩
theorem zd_W_squares_226 : decode zb_W_squares 226 = .ok (.iload 6, 2) ∧ 226 + 2 = 228 := ⟨by decide +kernel, rfl⟩
theorem zd_W_squares_228 : decode zb_W_squares 228 = .ok (.aaload, 1) ∧ 228 + 1 = 229 := ⟨by decide +kernel, rfl⟩
theorem zd_W_squares_229 : decode zb_W_squares 229 = .ok (.iconst 1, 1) ∧ 229 + 1 = 230 := ⟨by decide +kernel, rfl⟩
theorem zd_W_squares_230 : decode zb_W_squares 230 = .ok (.iaload, 1) ∧ 230 + 1 = 231 := ⟨by decide +kernel, rfl⟩
theorem zd_W_squares_231 : decode zb_W_squares 231 = .ok (.iconst 3, 1) ∧ 231 + 1 = 232 := ⟨by decide +kernel, rfl⟩
theorem zd_W_squares_232 : decode zb_W_squares 232 = .ok (.if_icmp .ne 8, 3) ∧ ((232 : Nat) : Int) + (8) = ((240 : Nat) : Int) ∧ 232 + 3 = 235 := ⟨by decide +kernel, by decide, rfl⟩
theorem zd_W_squares_235 : decode zb_W_squares 235 = .ok (.bipush 7, 2) ∧ 235 + 2 = 237 := ⟨by decide +kernel, rfl⟩
theorem zd_W_squares_237 : decode zb_W_squares 237 = .ok (.goto 12, 3) ∧ ((237 : Nat) : Int) + (12) = ((249 : Nat) : Int) ∧ 237 + 3 = 240 := ⟨by decide +kernel, by decide, rfl⟩
theorem zd_W_squares_240 : decode zb_W_squares 240 = .ok (.iconst 1, 1) ∧ 240 + 1 = 241 := ⟨by decide +kernel, rfl⟩
theorem zd_W_squares_241 : decode zb_W_squares 241 = .ok (.aload 4, 2) ∧ 241 + 2 = 243 := ⟨by decide +kernel, rfl⟩
theorem zd_W_squares_243 : decode zb_W_squares 243 = .ok (.iload 6, 2) ∧ 243 + 2 = 245 := ⟨by decide +kernel, rfl⟩
theorem zd_W_squares_245 : decode zb_W_squares 245 = .ok (.aaload, 1) ∧ 245 + 1 = 246 := ⟨by decide +kernel, rfl⟩
theorem zd_W_squares_246 : decode zb_W_squares 246 = .ok (.iconst 1, 1) ∧ 246 + 1 = 247 := ⟨by decide +kernel, rfl⟩
theorem zd_W_squares_247 : decode zb_W_squares 247 = .ok (.iaload, 1) ∧ 247 + 1 = 248 := ⟨by decide +kernel, rfl⟩
theorem zd_W_squares_248 : decode zb_W_squares 248 = .ok (.ishl, 1) ∧ 248 + 1 = 249 := ⟨by decide +kernel, rfl⟩
theorem zd_W_squares_249 : decode zb_W_squares 249 = .ok (.iastore, 1) ∧ 249 + 1 = 250 := ⟨by decide +kernel, rfl⟩
theorem zd_W_squares_250 : decode zb_W_squares 250 = .ok (.aload 4, 2) ∧ 250 + 2 = 252 := ⟨by decide +kernel, rfl⟩
theorem zd_W_squares_252 : decode zb_W_squares 252 = .ok (.iload 6, 2) ∧ 252 + 2 = 254 := ⟨by decide +kernel, rfl⟩
theorem zd_W_squares_254 : decode zb_W_squares 254 = .ok (.aaload, 1) ∧ 254 + 1 = 255 := ⟨by decide +kernel, rfl⟩
theorem zd_W_squares_255 : decode zb_W_squares 255 = .ok (.iconst 2, 1) ∧ 255 + 1 = 256 := ⟨by decide +kernel, rfl⟩
theorem zd_W_squares_256 : decode zb_W_squares 256 = .ok (.aload_n 0, 1) ∧ 256 + 1 = 257 := ⟨by decide +kernel, rfl⟩
theorem zd_W_squares_257 : decode zb_W_squares 257 = .ok (.bipush 22, 2) ∧ 257 + 2 = 259 := ⟨by decide +kernel, rfl⟩
theorem zd_W_squares_259 : decode zb_W_squares 259 = .ok (.iconst 3, 1) ∧ 259 + 1 = 260 := ⟨by decide +kernel, rfl⟩
theorem zd_W_squares_260 : decode zb_W_squares 260 = .ok (.iload 6, 2) ∧ 260 + 2 = 262 := ⟨by decide +kernel, rfl⟩
theorem zd_W_squares_262 : decode zb_W_squares 262 = .ok (.imul, 1) ∧ 262 + 1 = 263 := ⟨by decide +kernel, rfl⟩
theorem zd_W_squares_263 : decode zb_W_squares 263 = .ok (.iadd, 1) ∧ 263 + 1 = 264 := ⟨by decide +kernel, rfl⟩
theorem zd_W_squares_264 : decode zb_W_squares 264 = .ok (.iconst 4, 1) ∧ 264 + 1 = 265 := ⟨by decide +kernel, rfl⟩
theorem zd_W_squares_265 : decode zb_W_squares 265 = .ok (.invokestatic 41, 3) ∧ 265 + 3 = 268 := ⟨by decide +kernel, rfl⟩
theorem zd_W_squares_268 : decode zb_W_squares 268 = .ok (.iastore, 1) ∧ 268 + 1 = 269 := ⟨by decide +kernel, rfl⟩
theorem zd_W_squares_269 : decode zb_W_squares 269 = .ok (.iinc 6 1, 3) ∧ 269 + 3 = 272 := ⟨by decide +kernel, rfl⟩
theorem zd_W_squares_272 : decode zb_W_squares 272 = .ok (.goto (-253), 3) ∧ ((272 : Nat) : Int) + (-253) = ((19 : Nat) : Int) ∧ 272 + 3 = 275 := ⟨by decide +kernel, by decide, rfl⟩
theorem zd_W_squares_275 : decode zb_W_squares 275 = .ok (.aload 4, 2) ∧ 275 + 2 = 277 := ⟨by decide +kernel, rfl⟩
theorem zd_W_squares_277 : decode zb_W_squares 277 = .ok (.areturn, 1) ∧ 277 + 1 = 278 := ⟨by decide +kernel, rfl⟩
theorem zd_W_colour_0 : decode zb_W_colour 0 = .ok (.iload_n 0, 1) ∧ 0 + 1 = 1 := ⟨by decide +kernel, rfl⟩
theorem zd_W_colour_1 : decode zb_W_colour 1 = .ok (.iconst 1, 1) ∧ 1 + 1 = 2 := ⟨by decide +kernel, rfl⟩
theorem zd_W_colour_2 : decode zb_W_colour 2 = .ok (.if_icmp .ne 8, 3) ∧ ((2 : Nat) : Int) + (8) = ((10 : Nat) : Int) ∧ 2 + 3 = 5 := ⟨by decide +kernel, by decide, rfl⟩
theorem zd_W_colour_5 : decode zb_W_colour 5 = .ok (.ldc 44, 2) ∧ 5 + 2 = 7 := ⟨by decide +kernel, rfl⟩
theorem zd_W_colour_7 : decode zb_W_colour 7 = .ok (.goto 25, 3) ∧ ((7 : Nat) : Int) + (25) = ((32 : Nat) : Int) ∧ 7 + 3 = 10 := ⟨by decide +kernel, by decide, rfl⟩
theorem zd_W_colour_10 : decode zb_W_colour 10 = .ok (.iload_n 0, 1) ∧ 10 + 1 = 11 := ⟨by decide +kernel, rfl⟩
theorem zd_W_colour_11 : decode zb_W_colour 11 = .ok (.iconst 2, 1) ∧ 11 + 1 = 12 := ⟨by decide +kernel, rfl⟩
theorem zd_W_colour_12 : decode zb_W_colour 12 = .ok (.if_icmp .ne 8, 3) ∧ ((12 : Nat) : Int) + (8) = ((20 : Nat) : Int) ∧ 12 + 3 = 15 := ⟨by decide +kernel, by decide, rfl⟩
theorem zd_W_colour_15 : decode zb_W_colour 15 = .ok (.ldc 46, 2) ∧ 15 + 2 = 17 := ⟨by decide +kernel, rfl⟩
theorem zd_W_colour_17 : decode zb_W_colour 17 = .ok (.goto 15, 3) ∧ ((17 : Nat) : Int) + (15) = ((32 : Nat) : Int) ∧ 17 + 3 = 20 := ⟨by decide +kernel, by decide, rfl⟩
theorem zd_W_colour_20 : decode zb_W_colour 20 = .ok (.iload_n 0, 1) ∧ 20 + 1 = 21 := ⟨by decide +kernel, rfl⟩
theorem zd_W_colour_21 : decode zb_W_colour 21 = .ok (.iconst 4, 1) ∧ 21 + 1 = 22 := ⟨by decide +kernel, rfl⟩
theorem zd_W_colour_22 : decode zb_W_colour 22 = .ok (.if_icmp .ne 8, 3) ∧ ((22 : Nat) : Int) + (8) = ((30 : Nat) : Int) ∧ 22 + 3 = 25 := ⟨by decide +kernel, by decide, rfl⟩
theorem zd_W_colour_25 : decode zb_W_colour 25 = .ok (.ldc 48, 2) ∧ 25 + 2 = 27 := ⟨by decide +kernel, rfl⟩
theorem zd_W_colour_27 : decode zb_W_colour 27 = .ok (.goto 5, 3) ∧ ((27 : Nat) : Int) + (5) = ((32 : Nat) : Int) ∧ 27 + 3 = 30 := ⟨by decide +kernel, by decide, rfl⟩
theorem zd_W_colour_30 : decode zb_W_colour 30 = .ok (.ldc 50, 2) ∧ 30 + 2 = 32 := ⟨by decide +kernel, rfl⟩
theorem zd_W_colour_32 : decode zb_W_colour 32 = .ok (.areturn, 1) ∧ 32 + 1 = 33 := ⟨by decide +kernel, rfl⟩
theorem zd_W_text_0 : decode zb_W_text 0 = .ok (.new 52, 3) ∧ 0 + 3 = 3 := ⟨by decide +kernel, rfl⟩
theorem zd_W_text_3 : decode zb_W_text 3 = .ok (.dup, 1) ∧ 3 + 1 = 4 := ⟨by decide +kernel, rfl⟩
theorem zd_W_text_4 : decode zb_W_text 4 = .ok (.ldc 54, 2) ∧ 4 + 2 = 6 := ⟨by decide +kernel, rfl⟩
theorem zd_W_text_6 : decode zb_W_text 6 = .ok (.invokespecial 56, 3) ∧ 6 + 3 = 9 := ⟨by decide +kernel, rfl⟩
theorem zd_W_text_9 : decode zb_W_text 9 = .ok (.iload_n 1, 1) ∧ 9 + 1 = 10 := ⟨by decide +kernel, rfl⟩
theorem zd_W_text_10 : decode zb_W_text 10 = .ok (.invokevirtual 59, 3) ∧ 10 + 3 = 13 := ⟨by decide +kernel, rfl⟩
theorem zd_W_text_13 : decode zb_W_text 13 = .ok (.bipush 32, 2) ∧ 13 + 2 = 15 := ⟨by decide +kernel, rfl⟩
theorem zd_W_text_15 : decode zb_W_text 15 = .ok (.invokevirtual 63, 3) ∧ 15 + 3 = 18 := ⟨by decide +kernel, rfl⟩
theorem zd_W_text_18 : decode zb_W_text 18 = .ok (.iload_n 2, 1) ∧ 18 + 1 = 19 := ⟨by decide +kernel, rfl⟩
theorem zd_W_text_19 : decode zb_W_text 19 = .ok (.invokevirtual 59, 3) ∧ 19 + 3 = 22 := ⟨by decide +kernel, rfl⟩
theorem zd_W_text_22 : decode zb_W_text 22 = .ok (.bipush 59, 2) ∧ 22 + 2 = 24 := ⟨by decide +kernel, rfl⟩
theorem zd_W_text_24 : decode zb_W_text 24 = .ok (.invokevirtual 63, 3) ∧ 24 + 3 = 27 := ⟨by decide +kernel, rfl⟩
theorem zd_W_text_27 : decode zb_W_text 27 = .ok (.astore 4, 2) ∧ 27 + 2 = 29 := ⟨by decide +kernel, rfl⟩
theorem zd_W_text_29 : decode zb_W_text 29 = .ok (.iconst 0, 1) ∧ 29 + 1 = 30 := ⟨by decide +kernel, rfl⟩
theorem zd_W_text_30 : decode zb_W_text 30 = .ok (.istore 5, 2) ∧ 30 + 2 = 32 := ⟨by decide +kernel, rfl⟩
theorem zd_W_text_32 : decode zb_W_text 32 = .ok (.iconst 0, 1) ∧ 32 + 1 = 33 := ⟨by decide +kernel, rfl⟩
theorem zd_W_text_33 : decode zb_W_text 33 = .ok (.istore 6, 2) ∧ 33 + 2 = 35 := ⟨by decide +kernel, rfl⟩
theorem zd_W_text_35 : decode zb_W_text 35 = .ok (.iconst 0, 1) ∧ 35 + 1 = 36 := ⟨by decide +kernel, rfl⟩
theorem zd_W_text_36 : decode zb_W_text 36 = .ok (.istore 7, 2) ∧ 36 + 2 = 38 := ⟨by decide +kernel, rfl⟩
theorem zd_W_text_38 : decode zb_W_text 38 = .ok (.iload 7, 2) ∧ 38 + 2 = 40 := ⟨by decide +kernel, rfl⟩
theorem zd_W_text_40 : decode zb_W_text 40 = .ok (.iload_n 1, 1) ∧ 40 + 1 = 41 := ⟨by decide +kernel, rfl⟩
theorem zd_W_text_41 : decode zb_W_text 41 = .ok (.iload_n 2, 1) ∧ 41 + 1 = 42 := ⟨by decide +kernel, rfl⟩
theorem zd_W_text_42 : decode zb_W_text 42 = .ok (.imul, 1) ∧ 42 + 1 = 43 := ⟨by decide +kernel, rfl⟩
theorem zd_W_text_43 : decode zb_W_text 43 = .ok (.if_icmp .ge 298, 3) ∧ ((43 : Nat) : Int) + (298) = ((341 : Nat) : Int) ∧ 43 + 3 = 46 := ⟨by decide +kernel, by decide, rfl⟩
theorem zd_W_text_46 : decode zb_W_text 46 = .ok (.aload_n 0, 1) ∧ 46 + 1 = 47 := ⟨by decide +kernel, rfl⟩
theorem zd_W_text_47 : decode zb_W_text 47 = .ok (.iload 7, 2) ∧ 47 + 2 = 49 := ⟨by decide +kernel, rfl⟩
theorem zd_W_text_49 : decode zb_W_text 49 = .ok (.aaload, 1) ∧ 49 + 1 = 50 := ⟨by decide +kernel, rfl⟩
theorem zd_W_text_50 : decode zb_W_text 50 = .ok (.iconst 0, 1) ∧ 50 + 1 = 51 := ⟨by decide +kernel, rfl⟩
theorem zd_W_text_51 : decode zb_W_text 51 = .ok (.iaload, 1) ∧ 51 + 1 = 52 := ⟨by decide +kernel, rfl⟩
theorem zd_W_text_52 : decode zb_W_text 52 = .ok (.istore 8, 2) ∧ 52 + 2 = 54 := ⟨by decide +kernel, rfl⟩
theorem zd_W_text_54 : decode zb_W_text 54 = .ok (.iload 8, 2) ∧ 54 + 2 = 56 := ⟨by decide +kernel, rfl⟩
theorem zd_W_text_56 : decode zb_W_text 56 = .ok (.ifCond .ne 6, 3) ∧ ((56 : Nat) : Int) + (6) = ((62 : Nat) : Int) ∧ 56 + 3 = 59 := ⟨by decide +kernel, by decide, rfl⟩
theorem zd_W_text_59 : decode zb_W_text 59 = .ok (.goto 276, 3) ∧ ((59 : Nat) : Int) + (276) = ((335 : Nat) : Int) ∧ 59 + 3 = 62 := ⟨by decide +kernel, by decide, rfl⟩
theorem zd_W_text_62 : decode zb_W_text 62 = .ok (.iload 8, 2) ∧ 62 + 2 = 64 := ⟨by decide +kernel, rfl⟩
theorem zd_W_text_64 : decode zb_W_text 64 = .ok (.iconst 1, 1) ∧ 64 + 1 = 65 := ⟨by decide +kernel, rfl⟩
theorem zd_W_text_65 : decode zb_W_text 65 = .ok (.if_icmp .ne 41, 3) ∧ ((65 : Nat) : Int) + (41) = ((106 : Nat) : Int) ∧ 65 + 3 = 68 := ⟨by decide +kernel, by decide, rfl⟩
theorem zd_W_text_68 : decode zb_W_text 68 = .ok (.aload 4, 2) ∧ 68 + 2 = 70 := ⟨by decide +kernel, rfl⟩
theorem zd_W_text_70 : decode zb_W_text 70 = .ok (.ldc 66, 2) ∧ 70 + 2 = 72 := ⟨by decide +kernel, rfl⟩
theorem zd_W_text_72 : decode zb_W_text 72 = .ok (.invokevirtual 68, 3) ∧ 72 + 3 = 75 := ⟨by decide +kernel, rfl⟩
theorem zd_W_text_75 : decode zb_W_text 75 = .ok (.aload_n 0, 1) ∧ 75 + 1 = 76 := ⟨by decide +kernel, rfl⟩
theorem zd_W_text_76 : decode zb_W_text 76 = .ok (.iload 7, 2) ∧ 76 + 2 = 78 := ⟨by decide +kernel, rfl⟩
theorem zd_W_text_78 : decode zb_W_text 78 = .ok (.aaload, 1) ∧ 78 + 1 = 79 := ⟨by decide +kernel, rfl⟩
theorem zd_W_text_79 : decode zb_W_text 79 = .ok (.iconst 1, 1) ∧ 79 + 1 = 80 := ⟨by decide +kernel, rfl⟩
theorem zd_W_text_80 : decode zb_W_text 80 = .ok (.iaload, 1) ∧ 80 + 1 = 81 := ⟨by decide +kernel, rfl⟩
theorem zd_W_text_81 : decode zb_W_text 81 = .ok (.invokestatic 71, 3) ∧ 81 + 3 = 84 := ⟨by decide +kernel, rfl⟩
theorem zd_W_text_84 : decode zb_W_text 84 = .ok (.invokevirtual 68, 3) ∧ 84 + 3 = 87 := ⟨by decide +kernel, rfl⟩
theorem zd_W_text_87 : decode zb_W_text 87 = .ok (.bipush 32, 2) ∧ 87 + 2 = 89 := ⟨by decide +kernel, rfl⟩
theorem zd_W_text_89 : decode zb_W_text 89 = .ok (.invokevirtual 63, 3) ∧ 89 + 3 = 92 := ⟨by decide +kernel, rfl⟩
theorem zd_W_text_92 : decode zb_W_text 92 = .ok (.getstatic 75, 3) ∧ 92 + 3 = 95 := ⟨by decide +kernel, rfl⟩
theorem zd_W_text_95 : decode zb_W_text 95 = .ok (.aload_n 0, 1) ∧ 95 + 1 = 96 := ⟨by decide +kernel, rfl⟩
theorem zd_W_text_96 : decode zb_W_text 96 = .ok (.iload 7, 2) ∧ 96 + 2 = 98 := ⟨by decide +kernel, rfl⟩
theorem zd_W_text_98 : decode zb_W_text 98 = .ok (.aaload, 1) ∧ 98 + 1 = 99 := ⟨by decide +kernel, rfl⟩
theorem zd_W_text_99 : decode zb_W_text 99 = .ok (.iconst 2, 1) ∧ 99 + 1 = 100 := ⟨by decide +kernel, rfl⟩
theorem zd_W_text_100 : decode zb_W_text 100 = .ok (.iaload, 1) ∧ 100 + 1 = 101 := ⟨by decide +kernel, rfl⟩
theorem zd_W_text_101 : decode zb_W_text 101 = .ok (.aaload, 1) ∧ 101 + 1 = 102 := ⟨by decide +kernel, rfl⟩
theorem zd_W_text_102 : decode zb_W_text 102 = .ok (.invokevirtual 68, 3) ∧ 102 + 3 = 105 := ⟨by decide +kernel, rfl⟩
theorem zd_W_text_105 : decode zb_W_text 105 = .ok (.pop, 1) ∧ 105 + 1 = 106 := ⟨by decide +kernel, rfl⟩
theorem zd_W_text_106 : decode zb_W_text 106 = .ok (.iload 8, 2) ∧ 106 + 2 = 108 := ⟨by decide +kernel, rfl⟩
theorem zd_W_text_108 : decode zb_W_text 108 = .ok (.iconst 2, 1) ∧ 108 + 1 = 109 := ⟨by decide +kernel, rfl⟩
theorem zd_W_text_109 : decode zb_W_text 109 = .ok (.if_icmp .eq 9, 3) ∧ ((109 : Nat) : Int) + (9) = ((118 : Nat) : Int) ∧ 109 + 3 = 112 := ⟨by decide +kernel, by decide, rfl⟩
theorem zd_W_text_112 : decode zb_W_text 112 = .ok (.iload 8, 2) ∧ 112 + 2 = 114 := ⟨by decide +kernel, rfl⟩
theorem zd_W_text_114 : decode zb_W_text 114 = .ok (.iconst 3, 1) ∧ 114 + 1 = 115 := ⟨by decide +kernel, rfl⟩
theorem zd_W_text_115 : decode zb_W_text 115 = .ok (.if_icmp .ne 35, 3) ∧ ((115 : Nat) : Int) + (35) = ((150 : Nat) : Int) ∧ 115 + 3 = 118 := ⟨by decide +kernel, by decide, rfl⟩
theorem zd_W_text_118 : decode zb_W_text 118 = .ok (.aload 4, 2) ∧ 118 + 2 = 120 := ⟨by decide +kernel, rfl⟩
theorem zd_W_text_120 : decode zb_W_text 120 = .ok (.iload 8, 2) ∧ 120 + 2 = 122 := ⟨by decide +kernel, rfl⟩
theorem zd_W_text_122 : decode zb_W_text 122 = .ok (.iconst 2, 1) ∧ 122 + 1 = 123 := ⟨by decide +kernel, rfl⟩
theorem zd_W_text_123 : decode zb_W_text 123 = .ok (.if_icmp .ne 8, 3) ∧ ((123 : Nat) : Int) + (8) = ((131 : Nat) : Int) ∧ 123 + 3 = 126 := ⟨by decide +kernel, by decide, rfl⟩
theorem zd_W_text_126 : decode zb_W_text 126 = .ok (.ldc 79, 2) ∧ 126 + 2 = 128 := ⟨by decide +kernel, rfl⟩
theorem zd_W_text_128 : decode zb_W_text 128 = .ok (.goto 5, 3) ∧ ((128 : Nat) : Int) + (5) = ((133 : Nat) : Int) ∧ 128 + 3 = 131 := ⟨by decide +kernel, by decide, rfl⟩
theorem zd_W_text_131 : decode zb_W_text 131 = .ok (.ldc 81, 2) ∧ 131 + 2 = 133 := ⟨by decide +kernel, rfl⟩
theorem zd_W_text_133 : decode zb_W_text 133 = .ok (.invokevirtual 68, 3) ∧ 133 + 3 = 136 := ⟨by decide +kernel, rfl⟩
theorem zd_W_text_136 : decode zb_W_text 136 = .ok (.getstatic 83, 3) ∧ 136 + 3 = 139 := ⟨by decide +kernel, rfl⟩
theorem zd_W_text_139 : decode zb_W_text 139 = .ok (.aload_n 0, 1) ∧ 139 + 1 = 140 := ⟨by decide +kernel, rfl⟩
theorem zd_W_text_140 : decode zb_W_text 140 = .ok (.iload 7, 2) ∧ 140 + 2 = 142 := ⟨by decide +kernel, rfl⟩
theorem zd_W_text_142 : decode zb_W_text 142 = .ok (.aaload, 1) ∧ 142 + 1 = 143 := ⟨by decide +kernel, rfl⟩
theorem zd_W_text_143 : decode zb_W_text 143 = .ok (.iconst 1, 1) ∧ 143 + 1 = 144 := ⟨by decide +kernel, rfl⟩
theorem zd_W_text_144 : decode zb_W_text 144 = .ok (.iaload, 1) ∧ 144 + 1 = 145 := ⟨by decide +kernel, rfl⟩
theorem zd_W_text_145 : decode zb_W_text 145 = .ok (.aaload, 1) ∧ 145 + 1 = 146 := ⟨by decide +kernel, rfl⟩
theorem zd_W_text_146 : decode zb_W_text 146 = .ok (.invokevirtual 68, 3) ∧ 146 + 3 = 149 := ⟨by decide +kernel, rfl⟩
theorem zd_W_text_149 : decode zb_W_text 149 = .ok (.pop, 1) ∧ 149 + 1 = 150 := ⟨by decide +kernel, rfl⟩
theorem zd_W_text_150 : decode zb_W_text 150 = .ok (.iload 8, 2) ∧ 150 + 2 = 152 := ⟨by decide +kernel, rfl⟩
theorem zd_W_text_152 : decode zb_W_text 152 = .ok (.iconst 4, 1) ∧ 152 + 1 = 153 := ⟨by decide +kernel, rfl⟩
theorem zd_W_text_153 : decode zb_W_text 153 = .ok (.if_icmp .ne 23, 3) ∧ ((153 : Nat) : Int) + (23) = ((176 : Nat) : Int) ∧ 153 + 3 = 156 := ⟨by decide +kernel, by decide, rfl⟩
theorem zd_W_text_156 : decode zb_W_text 156 = .ok (.aload 4, 2) ∧ 156 + 2 = 158 := ⟨by decide +kernel, rfl⟩
theorem zd_W_text_158 : decode zb_W_text 158 = .ok (.ldc 86, 2) ∧ 158 + 2 = 160 := ⟨by decide +kernel, rfl⟩
theorem zd_W_text_160 : decode zb_W_text 160 = .ok (.invokevirtual 68, 3) ∧ 160 + 3 = 163 := ⟨by decide +kernel, rfl⟩
theorem zd_W_text_163 : decode zb_W_text 163 = .ok (.aload_n 0, 1) ∧ 163 + 1 = 164 := ⟨by decide +kernel, rfl⟩
theorem zd_W_text_164 : decode zb_W_text 164 = .ok (.iload 7, 2) ∧ 164 + 2 = 166 := ⟨by decide +kernel, rfl⟩
theorem zd_W_text_166 : decode zb_W_text 166 = .ok (.aaload, 1) ∧ 166 + 1 = 167 := ⟨by decide +kernel, rfl⟩
theorem zd_W_text_167 : decode zb_W_text 167 = .ok (.iconst 1, 1) ∧ 167 + 1 = 168 := ⟨by decide +kernel, rfl⟩
theorem zd_W_text_168 : decode zb_W_text 168 = .ok (.iaload, 1) ∧ 168 + 1 = 169 := ⟨by decide +kernel, rfl⟩
theorem zd_W_text_169 : decode zb_W_text 169 = .ok (.invokestatic 71, 3) ∧ 169 + 3 = 172 := ⟨by decide +kernel, rfl⟩
theorem zd_W_text_172 : decode zb_W_text 172 = .ok (.invokevirtual 68, 3) ∧ 172 + 3 = 175 := ⟨by decide +kernel, rfl⟩
theorem zd_W_text_175 : decode zb_W_text 175 = .ok (.pop, 1) ∧ 175 + 1 = 176 := ⟨by decide +kernel, rfl⟩
theorem zd_W_text_176 : decode zb_W_text 176 = .ok (.iload 8, 2) ∧ 176 + 2 = 178 := ⟨by decide +kernel, rfl⟩
theorem zd_W_text_178 : decode zb_W_text 178 = .ok (.iconst 5, 1) ∧ 178 + 1 = 179 := ⟨by decide +kernel, rfl⟩
theorem zd_W_text_179 : decode zb_W_text 179 = .ok (.if_icmp .eq 10, 3) ∧ ((179 : Nat) : Int) + (10) = ((189 : Nat) : Int) ∧ 179 + 3 = 182 := ⟨by decide +kernel, by decide, rfl⟩
theorem zd_W_text_182 : decode zb_W_text 182 = .ok (.iload 8, 2) ∧ 182 + 2 = 184 := ⟨by decide +kernel, rfl⟩
theorem zd_W_text_184 : decode zb_W_text 184 = .ok (.bipush 6, 2) ∧ 184 + 2 = 186 := ⟨by decide +kernel, rfl⟩
theorem zd_W_text_186 : decode zb_W_text 186 = .ok (.if_icmp .ne 22, 3) ∧ ((186 : Nat) : Int) + (22) = ((208 : Nat) : Int) ∧ 186 + 3 = 189 := ⟨by decide +kernel, by decide, rfl⟩
theorem zd_W_text_189 : decode zb_W_text 189 = .ok (.aload 4, 2) ∧ 189 + 2 = 191 := ⟨by decide +kernel, rfl⟩
theorem zd_W_text_191 : decode zb_W_text 191 = .ok (.iload 8, 2) ∧ 191 + 2 = 193 := ⟨by decide +kernel, rfl⟩
theorem zd_W_text_193 : decode zb_W_text 193 = .ok (.iconst 5, 1) ∧ 193 + 1 = 194 := ⟨by decide +kernel, rfl⟩
theorem zd_W_text_194 : decode zb_W_text 194 = .ok (.if_icmp .ne 8, 3) ∧ ((194 : Nat) : Int) + (8) = ((202 : Nat) : Int) ∧ 194 + 3 = 197 := ⟨by decide +kernel, by decide, rfl⟩
theorem zd_W_text_197 : decode zb_W_text 197 = .ok (.ldc 88, 2) ∧ 197 + 2 = 199 := ⟨by decide +kernel, rfl⟩
theorem zd_W_text_199 : decode zb_W_text 199 = .ok (.goto 5, 3) ∧ ((199 : Nat) : Int) + (5) = ((204 : Nat) : Int) ∧ 199 + 3 = 202 := ⟨by decide +kernel, by decide, rfl⟩
theorem zd_W_text_202 : decode zb_W_text 202 = .ok (.ldc 90, 2) ∧ 202 + 2 = 204 := ⟨by decide +kernel, rfl⟩
theorem zd_W_text_204 : decode zb_W_text 204 = .ok (.invokevirtual 68, 3) ∧ 204 + 3 = 207 := ⟨by decide +kernel, rfl⟩
theorem zd_W_text_207 : decode zb_W_text 207 = .ok (.pop, 1) ∧ 207 + 1 = 208 := ⟨by decide +kernel, rfl⟩
theorem zd_W_text_208 : decode zb_W_text 208 = .ok (.iload 8, 2) ∧ 208 + 2 = 210 := ⟨by decide +kernel, rfl⟩
theorem zd_W_text_210 : decode zb_W_text 210 = .ok (.bipush 7, 2) ∧ 210 + 2 = 212 := ⟨by decide +kernel, rfl⟩
theorem zd_W_text_212 : decode zb_W_text 212 = .ok (.if_icmp .ne 23, 3) ∧ ((212 : Nat) : Int) + (23) = ((235 : Nat) : Int) ∧ 212 + 3 = 215 := ⟨by decide +kernel, by decide, rfl⟩
theorem zd_W_text_215 : decode zb_W_text 215 = .ok (.aload 4, 2) ∧ 215 + 2 = 217 := ⟨by decide +kernel, rfl⟩
theorem zd_W_text_217 : decode zb_W_text 217 = .ok (.ldc 92, 2) ∧ 217 + 2 = 219 := ⟨by decide +kernel, rfl⟩
theorem zd_W_text_219 : decode zb_W_text 219 = .ok (.invokevirtual 68, 3) ∧ 219 + 3 = 222 := ⟨by decide +kernel, rfl⟩
theorem zd_W_text_222 : decode zb_W_text 222 = .ok (.bipush 97, 2) ∧ 222 + 2 = 224 := ⟨by decide +kernel, rfl⟩
theorem zd_W_text_224 : decode zb_W_text 224 = .ok (.iload 5, 2) ∧ 224 + 2 = 226 := ⟨by decide +kernel, rfl⟩
theorem zd_W_text_226 : decode zb_W_text 226 = .ok (.iadd, 1) ∧ 226 + 1 = 227 := ⟨by decide +kernel, rfl⟩
theorem zd_W_text_227 : decode zb_W_text 227 = .ok (.i2c, 1) ∧ 227 + 1 = 228 := ⟨by decide +kernel, rfl⟩
theorem zd_W_text_228 : decode zb_W_text 228 = .ok (.invokevirtual 63, 3) ∧ 228 + 3 = 231 := ⟨by decide +kernel, rfl⟩
theorem zd_W_text_231 : decode zb_W_text 231 = .ok (.pop, 1) ∧ 231 + 1 = 232 := ⟨by decide +kernel, rfl⟩
theorem zd_W_text_232 : decode zb_W_text 232 = .ok (.iinc 5 1, 3) ∧ 232 + 3 = 235 := ⟨by decide +kernel, rfl⟩
theorem zd_W_text_235 : decode zb_W_text 235 = .ok (.iload 8, 2) ∧ 235 + 2 = 237 := ⟨by decide +kernel, rfl⟩
theorem zd_W_text_237 : decode zb_W_text 237 = .ok (.bipush 7, 2) ∧ 237 + 2 = 239 := ⟨by decide +kernel, rfl⟩
theorem zd_W_text_239 : decode zb_W_text 239 = .ok (.if_icmp .le 64, 3) ∧ ((239 : Nat) : Int) + (64) = ((303 : Nat) : Int) ∧ 239 + 3 = 242 := ⟨by decide +kernel, by decide, rfl⟩
theorem zd_W_text_242 : decode zb_W_text 242 = .ok (.aload 4, 2) ∧ 242 + 2 = 244 := ⟨by decide +kernel, rfl⟩
theorem zd_W_text_244 : decode zb_W_text 244 = .ok (.iload 8, 2) ∧ 244 + 2 = 246 := ⟨by decide +kernel, rfl⟩
theorem zd_W_text_246 : decode zb_W_text 246 = .ok (.bipush 8, 2) ∧ 246 + 2 = 248 := ⟨by decide +kernel, rfl⟩
theorem zd_W_text_248 : decode zb_W_text 248 = .ok (.if_icmp .ne 8, 3) ∧ ((248 : Nat) : Int) + (8) = ((256 : Nat) : Int) ∧ 248 + 3 = 251 := ⟨by decide +kernel, by decide, rfl⟩
theorem zd_W_text_251 : decode zb_W_text 251 = .ok (.ldc 94, 2) ∧ 251 + 2 = 253 := ⟨by decide +kernel, rfl⟩
theorem zd_W_text_253 : decode zb_W_text 253 = .ok (.goto 31, 3) ∧ ((253 : Nat) : Int) + (31) = ((284 : Nat) : Int) ∧ 253 + 3 = 256 := ⟨by decide +kernel, by decide, rfl⟩
theorem zd_W_text_256 : decode zb_W_text 256 = .ok (.new 52, 3) ∧ 256 + 3 = 259 := ⟨by decide +kernel, rfl⟩
theorem zd_W_text_259 : decode zb_W_text 259 = .ok (.dup, 1) ∧ 259 + 1 = 260 := ⟨by decide +kernel, rfl⟩
theorem zd_W_text_260 : decode zb_W_text 260 = .ok (.invokespecial 96, 3) ∧ 260 + 3 = 263 := ⟨by decide +kernel, rfl⟩
theorem zd_W_text_263 : decode zb_W_text 263 = .ok (.ldc 97, 2) ∧ 263 + 2 = 265 := ⟨by decide +kernel, rfl⟩
theorem zd_W_text_265 : decode zb_W_text 265 = .ok (.invokevirtual 68, 3) ∧ 265 + 3 = 268 := ⟨by decide +kernel, rfl⟩
theorem zd_W_text_268 : decode zb_W_text 268 = .ok (.getstatic 83, 3) ∧ 268 + 3 = 271 := ⟨by decide +kernel, rfl⟩
theorem zd_W_text_271 : decode zb_W_text 271 = .ok (.aload_n 0, 1) ∧ 271 + 1 = 272 := ⟨by decide +kernel, rfl⟩
theorem zd_W_text_272 : decode zb_W_text 272 = .ok (.iload 7, 2) ∧ 272 + 2 = 274 := ⟨by decide +kernel, rfl⟩
theorem zd_W_text_274 : decode zb_W_text 274 = .ok (.aaload, 1) ∧ 274 + 1 = 275 := ⟨by decide +kernel, rfl⟩
theorem zd_W_text_275 : decode zb_W_text 275 = .ok (.iconst 1, 1) ∧ 275 + 1 = 276 := ⟨by decide +kernel, rfl⟩
theorem zd_W_text_276 : decode zb_W_text 276 = .ok (.iaload, 1) ∧ 276 + 1 = 277 := ⟨by decide +kernel, rfl⟩
theorem zd_W_text_277 : decode zb_W_text 277 = .ok (.aaload, 1) ∧ 277 + 1 = 278 := ⟨by decide +kernel, rfl⟩
theorem zd_W_text_278 : decode zb_W_text 278 = .ok (.invokevirtual 68, 3) ∧ 278 + 3 = 281 := ⟨by decide +kernel, rfl⟩
theorem zd_W_text_281 : decode zb_W_text 281 = .ok (.invokevirtual 99, 3) ∧ 281 + 3 = 284 := ⟨by decide +kernel, rfl⟩
theorem zd_W_text_284 : decode zb_W_text 284 = .ok (.invokevirtual 68, 3) ∧ 284 + 3 = 287 := ⟨by decide +kernel, rfl⟩
theorem zd_W_text_287 : decode zb_W_text 287 = .ok (.ldc 103, 2) ∧ 287 + 2 = 289 := ⟨by decide +kernel, rfl⟩
theorem zd_W_text_289 : decode zb_W_text 289 = .ok (.invokevirtual 68, 3) ∧ 289 + 3 = 292 := ⟨by decide +kernel, rfl⟩
theorem zd_W_text_292 : decode zb_W_text 292 = .ok (.aload_n 3, 1) ∧ 292 + 1 = 293 := ⟨by decide +kernel, rfl⟩
theorem zd_W_text_293 : decode zb_W_text 293 = .ok (.iload 6, 2) ∧ 293 + 2 = 295 := ⟨by decide +kernel, rfl⟩
theorem zd_W_text_295 : decode zb_W_text 295 = .ok (.aaload, 1) ∧ 295 + 1 = 296 := ⟨by decide +kernel, rfl⟩
theorem zd_W_text_296 : decode zb_W_text 296 = .ok (.invokevirtual 68, 3) ∧ 296 + 3 = 299 := ⟨by decide +kernel, rfl⟩
theorem zd_W_text_299 : decode zb_W_text 299 = .ok (.pop, 1) ∧ 299 + 1 = 300 := ⟨by decide +kernel, rfl⟩
theorem zd_W_text_300 : decode zb_W_text 300 = .ok (.iinc 6 1, 3) ∧ 300 + 3 = 303 := ⟨by decide +kernel, rfl⟩
theorem zd_W_text_303 : decode zb_W_text 303 = .ok (.aload 4, 2) ∧ 303 + 2 = 305 := ⟨by decide +kernel, rfl⟩
theorem zd_W_text_305 : decode zb_W_text 305 = .ok (.ldc 105, 2) ∧ 305 + 2 = 307 := ⟨by decide +kernel, rfl⟩
theorem zd_W_text_307 : decode zb_W_text 307 = .ok (.invokevirtual 68, 3) ∧ 307 + 3 = 310 := ⟨by decide +kernel, rfl⟩
theorem zd_W_text_310 : decode zb_W_text 310 = .ok (.iload 7, 2) ∧ 310 + 2 = 312 := ⟨by decide +kernel, rfl⟩
theorem zd_W_text_312 : decode zb_W_text 312 = .ok (.iload_n 1, 1) ∧ 312 + 1 = 313 := ⟨by decide +kernel, rfl⟩
theorem zd_W_text_313 : decode zb_W_text 313 = .ok (.irem, 1) ∧ 313 + 1 = 314 := ⟨by decide +kernel, rfl⟩
theorem zd_W_text_314 : decode zb_W_text 314 = .ok (.invokevirtual 59, 3) ∧ 314 + 3 = 317 := ⟨by decide +kernel, rfl⟩
theorem zd_W_text_317 : decode zb_W_text 317 = .ok (.bipush 32, 2) ∧ 317 + 2 = 319 := ⟨by decide +kernel, rfl⟩
theorem zd_W_text_319 : decode zb_W_text 319 = .ok (.invokevirtual 63, 3) ∧ 319 + 3 = 322 := ⟨by decide +kernel, rfl⟩
theorem zd_W_text_322 : decode zb_W_text 322 = .ok (.iload 7, 2) ∧ 322 + 2 = 324 := ⟨by decide +kernel, rfl⟩
theorem zd_W_text_324 : decode zb_W_text 324 = .ok (.iload_n 1, 1) ∧ 324 + 1 = 325 := ⟨by decide +kernel, rfl⟩
theorem zd_W_text_325 : decode zb_W_text 325 = .ok (.idiv, 1) ∧ 325 + 1 = 326 := ⟨by decide +kernel, rfl⟩
theorem zd_W_text_326 : decode zb_W_text 326 = .ok (.invokevirtual 59, 3) ∧ 326 + 3 = 329 := ⟨by decide +kernel, rfl⟩
theorem zd_W_text_329 : decode zb_W_text 329 = .ok (.bipush 59, 2) ∧ 329 + 2 = 331 := ⟨by decide +kernel, rfl⟩
theorem zd_W_text_331 : decode zb_W_text 331 = .ok (.invokevirtual 63, 3) ∧ 331 + 3 = 334 := ⟨by decide +kernel, rfl⟩
theorem zd_W_text_334 : decode zb_W_text 334 = .ok (.pop, 1) ∧ 334 + 1 = 335 := ⟨by decide +kernel, rfl⟩
theorem zd_W_text_335 : decode zb_W_text 335 = .ok (.iinc 7 1, 3) ∧ 335 + 3 = 338 := ⟨by decide +kernel, rfl⟩
theorem zd_W_text_338 : decode zb_W_text 338 = .ok (.goto (-300), 3) ∧ ((338 : Nat) : Int) + (-300) = ((38 : Nat) : Int) ∧ 338 + 3 = 341 := ⟨by decide +kernel, by decide, rfl⟩
theorem zd_W_text_341 : decode zb_W_text 341 = .ok (.aload 4, 2) ∧ 341 + 2 = 343 := ⟨by decide +kernel, rfl⟩
theorem zd_W_text_343 : decode zb_W_text 343 = .ok (.invokevirtual 99, 3) ∧ 343 + 3 = 346 := ⟨by decide +kernel, rfl⟩
theorem zd_W_text_346 : decode zb_W_text 346 = .ok (.areturn, 1) ∧ 346 + 1 = 347 := ⟨by decide +kernel, rfl⟩
theorem zd_W_many_0 : decode zb_W_many 0 = .ok (.iconst 0, 1) ∧ 0 + 1 = 1 := ⟨by decide +kernel, rfl⟩
theorem zd_W_many_1 : decode zb_W_many 1 = .ok (.istore_n 3, 1) ∧ 1 + 1 = 2 := ⟨by decide +kernel, rfl⟩
theorem zd_W_many_2 : decode zb_W_many 2 = .ok (.iconst 0, 1) ∧ 2 + 1 = 3 := ⟨by decide +kernel, rfl⟩
theorem zd_W_many_3 : decode zb_W_many 3 = .ok (.istore 4, 2) ∧ 3 + 2 = 5 := ⟨by decide +kernel, rfl⟩
theorem zd_W_many_5 : decode zb_W_many 5 = .ok (.iload 4, 2) ∧ 5 + 2 = 7 := ⟨by decide +kernel, rfl⟩
theorem zd_W_many_7 : decode zb_W_many 7 = .ok (.aload_n 0, 1) ∧ 7 + 1 = 8 := ⟨by decide +kernel, rfl⟩
theorem zd_W_many_8 : decode zb_W_many 8 = .ok (.arraylength, 1) ∧ 8 + 1 = 9 := ⟨by decide +kernel, rfl⟩
theorem zd_W_many_9 : decode zb_W_many 9 = .ok (.if_icmp .ge 37, 3) ∧ ((9 : Nat) : Int) + (37) = ((46 : Nat) : Int) ∧ 9 + 3 = 12 := ⟨by decide +kernel, by decide, rfl⟩
theorem zd_W_many_12 : decode zb_W_many 12 = .ok (.iload_n 3, 1) ∧ 12 + 1 = 13 := ⟨by decide +kernel, rfl⟩
theorem zd_W_many_13 : decode zb_W_many 13 = .ok (.aload_n 0, 1) ∧ 13 + 1 = 14 := ⟨by decide +kernel, rfl⟩
theorem zd_W_many_14 : decode zb_W_many 14 = .ok (.iload 4, 2) ∧ 14 + 2 = 16 := ⟨by decide +kernel, rfl⟩
theorem zd_W_many_16 : decode zb_W_many 16 = .ok (.aaload, 1) ∧ 16 + 1 = 17 := ⟨by decide +kernel, rfl⟩
theorem zd_W_many_17 : decode zb_W_many 17 = .ok (.iconst 0, 1) ∧ 17 + 1 = 18 := ⟨by decide +kernel, rfl⟩
theorem zd_W_many_18 : decode zb_W_many 18 = .ok (.iaload, 1) ∧ 18 + 1 = 19 := ⟨by decide +kernel, rfl⟩
theorem zd_W_many_19 : decode zb_W_many 19 = .ok (.iload_n 1, 1) ∧ 19 + 1 = 20 := ⟨by decide +kernel, rfl⟩
theorem zd_W_many_20 : decode zb_W_many 20 = .ok (.if_icmp .lt 17, 3) ∧ ((20 : Nat) : Int) + (17) = ((37 : Nat) : Int) ∧ 20 + 3 = 23 := ⟨by decide +kernel, by decide, rfl⟩
theorem zd_W_many_23 : decode zb_W_many 23 = .ok (.aload_n 0, 1) ∧ 23 + 1 = 24 := ⟨by decide +kernel, rfl⟩
theorem zd_W_many_24 : decode zb_W_many 24 = .ok (.iload 4, 2) ∧ 24 + 2 = 26 := ⟨by decide +kernel, rfl⟩
theorem zd_W_many_26 : decode zb_W_many 26 = .ok (.aaload, 1) ∧ 26 + 1 = 27 := ⟨by decide +kernel, rfl⟩
theorem zd_W_many_27 : decode zb_W_many 27 = .ok (.iconst 0, 1) ∧ 27 + 1 = 28 := ⟨by decide +kernel, rfl⟩
theorem zd_W_many_28 : decode zb_W_many 28 = .ok (.iaload, 1) ∧ 28 + 1 = 29 := ⟨by decide +kernel, rfl⟩
theorem zd_W_many_29 : decode zb_W_many 29 = .ok (.iload_n 2, 1) ∧ 29 + 1 = 30 := ⟨by decide +kernel, rfl⟩
theorem zd_W_many_30 : decode zb_W_many 30 = .ok (.if_icmp .gt 7, 3) ∧ ((30 : Nat) : Int) + (7) = ((37 : Nat) : Int) ∧ 30 + 3 = 33 := ⟨by decide +kernel, by decide, rfl⟩
theorem zd_W_many_33 : decode zb_W_many 33 = .ok (.iconst 1, 1) ∧ 33 + 1 = 34 := ⟨by decide +kernel, rfl⟩
theorem zd_W_many_34 : decode zb_W_many 34 = .ok (.goto 4, 3) ∧ ((34 : Nat) : Int) + (4) = ((38 : Nat) : Int) ∧ 34 + 3 = 37 := ⟨by decide +kernel, by decide, rfl⟩
theorem zd_W_many_37 : decode zb_W_many 37 = .ok (.iconst 0, 1) ∧ 37 + 1 = 38 := ⟨by decide +kernel, rfl⟩
theorem zd_W_many_38 : decode zb_W_many 38 = .ok (.iadd, 1) ∧ 38 + 1 = 39 := ⟨by decide +kernel, rfl⟩
theorem zd_W_many_39 : decode zb_W_many 39 = .ok (.istore_n 3, 1) ∧ 39 + 1 = 40 := ⟨by decide +kernel, rfl⟩
theorem zd_W_many_40 : decode zb_W_many 40 = .ok (.iinc 4 1, 3) ∧ 40 + 3 = 43 := ⟨by decide +kernel, rfl⟩
theorem zd_W_many_43 : decode zb_W_many 43 = .ok (.goto (-38), 3) ∧ ((43 : Nat) : Int) + (-38) = ((5 : Nat) : Int) ∧ 43 + 3 = 46 := ⟨by decide +kernel, by decide, rfl⟩
theorem zd_W_many_46 : decode zb_W_many 46 = .ok (.iload_n 3, 1) ∧ 46 + 1 = 47 := ⟨by decide +kernel, rfl⟩
theorem zd_W_many_47 : decode zb_W_many 47 = .ok (.ireturn, 1) ∧ 47 + 1 = 48 := ⟨by decide +kernel, rfl⟩
theorem zd_W_law_0 : decode zb_W_law 0 = .ok (.new 30, 3) ∧ 0 + 3 = 3 := ⟨by decide +kernel, rfl⟩
theorem zd_W_law_3 : decode zb_W_law 3 = .ok (.dup, 1) ∧ 3 + 1 = 4 := ⟨by decide +kernel, rfl⟩
theorem zd_W_law_4 : decode zb_W_law 4 = .ok (.invokespecial 116, 3) ∧ 4 + 3 = 7 := ⟨by decide +kernel, rfl⟩
theorem zd_W_law_7 : decode zb_W_law 7 = .ok (.astore_n 1, 1) ∧ 7 + 1 = 8 := ⟨by decide +kernel, rfl⟩
theorem zd_W_law_8 : decode zb_W_law 8 = .ok (.new 30, 3) ∧ 8 + 3 = 11 := ⟨by decide +kernel, rfl⟩
theorem zd_W_law_11 : decode zb_W_law 11 = .ok (.dup, 1) ∧ 11 + 1 = 12 := ⟨by decide +kernel, rfl⟩
theorem zd_W_law_12 : decode zb_W_law 12 = .ok (.invokespecial 116, 3) ∧ 12 + 3 = 15 := ⟨by decide +kernel, rfl⟩
theorem zd_W_law_15 : decode zb_W_law 15 = .ok (.astore_n 2, 1) ∧ 15 + 1 = 16 := ⟨by decide +kernel, rfl⟩
theorem zd_W_law_16 : decode zb_W_law 16 = .ok (.iconst 2, 1) ∧ 16 + 1 = 17 := ⟨by decide +kernel, rfl⟩
theorem zd_W_law_17 : decode zb_W_law 17 = .ok (.aload_n 0, 1) ∧ 17 + 1 = 18 := ⟨by decide +kernel, rfl⟩
theorem zd_W_law_18 : decode zb_W_law 18 = .ok (.iconst 0, 1) ∧ 18 + 1 = 19 := ⟨by decide +kernel, rfl⟩
theorem zd_W_law_19 : decode zb_W_law 19 = .ok (.iconst 5, 1) ∧ 19 + 1 = 20 := ⟨by decide +kernel, rfl⟩
theorem zd_W_law_20 : decode zb_W_law 20 = .ok (.invokestatic 41, 3) ∧ 20 + 3 = 23 := ⟨by decide +kernel, rfl⟩
theorem zd_W_law_23 : decode zb_W_law 23 = .ok (.iadd, 1) ∧ 23 + 1 = 24 := ⟨by decide +kernel, rfl⟩
theorem zd_W_law_24 : decode zb_W_law 24 = .ok (.istore_n 3, 1) ∧ 24 + 1 = 25 := ⟨by decide +kernel, rfl⟩
theorem zd_W_law_25 : decode zb_W_law 25 = .ok (.iconst 2, 1) ∧ 25 + 1 = 26 := ⟨by decide +kernel, rfl⟩
theorem zd_W_law_26 : decode zb_W_law 26 = .ok (.aload_n 0, 1) ∧ 26 + 1 = 27 := ⟨by decide +kernel, rfl⟩
theorem zd_W_law_27 : decode zb_W_law 27 = .ok (.iconst 1, 1) ∧ 27 + 1 = 28 := ⟨by decide +kernel, rfl⟩
theorem zd_W_law_28 : decode zb_W_law 28 = .ok (.iconst 5, 1) ∧ 28 + 1 = 29 := ⟨by decide +kernel, rfl⟩
theorem zd_W_law_29 : decode zb_W_law 29 = .ok (.invokestatic 41, 3) ∧ 29 + 3 = 32 := ⟨by decide +kernel, rfl⟩
theorem zd_W_law_32 : decode zb_W_law 32 = .ok (.iadd, 1) ∧ 32 + 1 = 33 := ⟨by decide +kernel, rfl⟩
theorem zd_W_law_33 : decode zb_W_law 33 = .ok (.istore 4, 2) ∧ 33 + 2 = 35 := ⟨by decide +kernel, rfl⟩
theorem zd_W_law_35 : decode zb_W_law 35 = .ok (.aload_n 0, 1) ∧ 35 + 1 = 36 := ⟨by decide +kernel, rfl⟩
theorem zd_W_law_36 : decode zb_W_law 36 = .ok (.iload_n 3, 1) ∧ 36 + 1 = 37 := ⟨by decide +kernel, rfl⟩
theorem zd_W_law_37 : decode zb_W_law 37 = .ok (.iload 4, 2) ∧ 37 + 2 = 39 := ⟨by decide +kernel, rfl⟩
theorem zd_W_law_39 : decode zb_W_law 39 = .ok (.iconst 0, 1) ∧ 39 + 1 = 40 := ⟨by decide +kernel, rfl⟩
theorem zd_W_law_40 : decode zb_W_law 40 = .ok (.invokestatic 117, 3) ∧ 40 + 3 = 43 := ⟨by decide +kernel, rfl⟩
theorem zd_W_law_43 : decode zb_W_law 43 = .ok (.astore 5, 2) ∧ 43 + 2 = 45 := ⟨by decide +kernel, rfl⟩
theorem zd_W_law_45 : decode zb_W_law 45 = .ok (.aload_n 1, 1) ∧ 45 + 1 = 46 := ⟨by decide +kernel, rfl⟩
theorem zd_W_law_46 : decode zb_W_law 46 = .ok (.aload 5, 2) ∧ 46 + 2 = 48 := ⟨by decide +kernel, rfl⟩
theorem zd_W_law_48 : decode zb_W_law 48 = .ok (.iload_n 3, 1) ∧ 48 + 1 = 49 := ⟨by decide +kernel, rfl⟩
theorem zd_W_law_49 : decode zb_W_law 49 = .ok (.iload 4, 2) ∧ 49 + 2 = 51 := ⟨by decide +kernel, rfl⟩
theorem zd_W_law_51 : decode zb_W_law 51 = .ok (.getstatic 75, 3) ∧ 51 + 3 = 54 := ⟨by decide +kernel, rfl⟩
theorem zd_W_law_54 : decode zb_W_law 54 = .ok (.invokestatic 121, 3) ∧ 54 + 3 = 57 := ⟨by decide +kernel, rfl⟩
theorem zd_W_law_57 : decode zb_W_law 57 = .ok (.invokestatic 125, 3) ∧ 57 + 3 = 60 := ⟨by decide +kernel, rfl⟩
theorem zd_W_law_60 : decode zb_W_law 60 = .ok (.ifCond .eq 20, 3) ∧ ((60 : Nat) : Int) + (20) = ((80 : Nat) : Int) ∧ 60 + 3 = 63 := ⟨by decide +kernel, by decide, rfl⟩
theorem zd_W_law_63 : decode zb_W_law 63 = .ok (.aload_n 1, 1) ∧ 63 + 1 = 64 := ⟨by decide +kernel, rfl⟩
theorem zd_W_law_64 : decode zb_W_law 64 = .ok (.invokevirtual 128, 3) ∧ 64 + 3 = 67 := ⟨by decide +kernel, rfl⟩
theorem zd_W_law_67 : decode zb_W_law 67 = .ok (.iconst 1, 1) ∧ 67 + 1 = 68 := ⟨by decide +kernel, rfl⟩
theorem zd_W_law_68 : decode zb_W_law 68 = .ok (.aload 5, 2) ∧ 68 + 2 = 70 := ⟨by decide +kernel, rfl⟩
theorem zd_W_law_70 : decode zb_W_law 70 = .ok (.iconst 1, 1) ∧ 70 + 1 = 71 := ⟨by decide +kernel, rfl⟩
theorem zd_W_law_71 : decode zb_W_law 71 = .ok (.bipush 9, 2) ∧ 71 + 2 = 73 := ⟨by decide +kernel, rfl⟩
theorem zd_W_law_73 : decode zb_W_law 73 = .ok (.invokestatic 112, 3) ∧ 73 + 3 = 76 := ⟨by decide +kernel, rfl⟩
theorem zd_W_law_76 : decode zb_W_law 76 = .ok (.iadd, 1) ∧ 76 + 1 = 77 := ⟨by decide +kernel, rfl⟩
theorem zd_W_law_77 : decode zb_W_law 77 = .ok (.if_icmp .eq 5, 3) ∧ ((77 : Nat) : Int) + (5) = ((82 : Nat) : Int) ∧ 77 + 3 = 80 := ⟨by decide +kernel, by decide, rfl⟩
theorem zd_W_law_80 : decode zb_W_law 80 = .ok (.iconst 0, 1) ∧ 80 + 1 = 81 := ⟨by decide +kernel, rfl⟩
theorem zd_W_law_81 : decode zb_W_law 81 = .ok (.ireturn, 1) ∧ 81 + 1 = 82 := ⟨by decide +kernel, rfl⟩
theorem zd_W_law_82 : decode zb_W_law 82 = .ok (.iconst 4, 1) ∧ 82 + 1 = 83 := ⟨by decide +kernel, rfl⟩
theorem zd_W_law_83 : decode zb_W_law 83 = .ok (.iload_n 3, 1) ∧ 83 + 1 = 84 := ⟨by decide +kernel, rfl⟩
theorem zd_W_law_84 : decode zb_W_law 84 = .ok (.imul, 1) ∧ 84 + 1 = 85 := ⟨by decide +kernel, rfl⟩
theorem zd_W_law_85 : decode zb_W_law 85 = .ok (.iload 4, 2) ∧ 85 + 2 = 87 := ⟨by decide +kernel, rfl⟩
theorem zd_W_law_87 : decode zb_W_law 87 = .ok (.imul, 1) ∧ 87 + 1 = 88 := ⟨by decide +kernel, rfl⟩
theorem zd_W_law_88 : decode zb_W_law 88 = .ok (.newarray .int, 2) ∧ 88 + 2 = 90 := ⟨by decide +kernel, rfl⟩
theorem zd_W_law_90 : decode zb_W_law 90 = .ok (.astore 6, 2) ∧ 90 + 2 = 92 := ⟨by decide +kernel, rfl⟩
theorem zd_W_law_92 : decode zb_W_law 92 = .ok (.iload_n 3, 1) ∧ 92 + 1 = 93 := ⟨by decide +kernel, rfl⟩
theorem zd_W_law_93 : decode zb_W_law 93 = .ok (.iload 4, 2) ∧ 93 + 2 = 95 := ⟨by decide +kernel, rfl⟩
theorem zd_W_law_95 : decode zb_W_law 95 = .ok (.imul, 1) ∧ 95 + 1 = 96 := ⟨by decide +kernel, rfl⟩
theorem zd_W_law_96 : decode zb_W_law 96 = .ok (.newarray .int, 2) ∧ 96 + 2 = 98 := ⟨by decide +kernel, rfl⟩
theorem zd_W_law_98 : decode zb_W_law 98 = .ok (.astore 7, 2) ∧ 98 + 2 = 100 := ⟨by decide +kernel, rfl⟩
theorem zd_W_law_100 : decode zb_W_law 100 = .ok (.iconst 0, 1) ∧ 100 + 1 = 101 := ⟨by decide +kernel, rfl⟩
theorem zd_W_law_101 : decode zb_W_law 101 = .ok (.istore 8, 2) ∧ 101 + 2 = 103 := ⟨by decide +kernel, rfl⟩
theorem zd_W_law_103 : decode zb_W_law 103 = .ok (.iload 8, 2) ∧ 103 + 2 = 105 := ⟨by decide +kernel, rfl⟩
theorem zd_W_law_105 : decode zb_W_law 105 = .ok (.iload_n 3, 1) ∧ 105 + 1 = 106 := ⟨by decide +kernel, rfl⟩
theorem zd_W_law_106 : decode zb_W_law 106 = .ok (.iload 4, 2) ∧ 106 + 2 = 108 := ⟨by decide +kernel, rfl⟩
theorem zd_W_law_108 : decode zb_W_law 108 = .ok (.imul, 1) ∧ 108 + 1 = 109 := ⟨by decide +kernel, rfl⟩
theorem zd_W_law_109 : decode zb_W_law 109 = .ok (.if_icmp .ge 21, 3) ∧ ((109 : Nat) : Int) + (21) = ((130 : Nat) : Int) ∧ 109 + 3 = 112 := ⟨by decide +kernel, by decide, rfl⟩
theorem zd_W_law_112 : decode zb_W_law 112 = .ok (.aload 7, 2) ∧ 112 + 2 = 114 := ⟨by decide +kernel, rfl⟩
theorem zd_W_law_114 : decode zb_W_law 114 = .ok (.iload 8, 2) ∧ 114 + 2 = 116 := ⟨by decide +kernel, rfl⟩
theorem zd_W_law_116 : decode zb_W_law 116 = .ok (.aload 5, 2) ∧ 116 + 2 = 118 := ⟨by decide +kernel, rfl⟩
theorem zd_W_law_118 : decode zb_W_law 118 = .ok (.iload 8, 2) ∧ 118 + 2 = 120 := ⟨by decide +kernel, rfl⟩
theorem zd_W_law_120 : decode zb_W_law 120 = .ok (.aaload, 1) ∧ 120 + 1 = 121 := ⟨by decide +kernel, rfl⟩
theorem zd_W_law_121 : decode zb_W_law 121 = .ok (.iconst 0, 1) ∧ 121 + 1 = 122 := ⟨by decide +kernel, rfl⟩
theorem zd_W_law_122 : decode zb_W_law 122 = .ok (.iaload, 1) ∧ 122 + 1 = 123 := ⟨by decide +kernel, rfl⟩
theorem zd_W_law_123 : decode zb_W_law 123 = .ok (.iastore, 1) ∧ 123 + 1 = 124 := ⟨by decide +kernel, rfl⟩
theorem zd_W_law_124 : decode zb_W_law 124 = .ok (.iinc 8 1, 3) ∧ 124 + 3 = 127 := ⟨by decide +kernel, rfl⟩
theorem zd_W_law_127 : decode zb_W_law 127 = .ok (.goto (-24), 3) ∧ ((127 : Nat) : Int) + (-24) = ((103 : Nat) : Int) ∧ 127 + 3 = 130 := ⟨by decide +kernel, by decide, rfl⟩
theorem zd_W_law_130 : decode zb_W_law 130 = .ok (.iconst 0, 1) ∧ 130 + 1 = 131 := ⟨by decide +kernel, rfl⟩
theorem zd_W_law_131 : decode zb_W_law 131 = .ok (.istore 8, 2) ∧ 131 + 2 = 133 := ⟨by decide +kernel, rfl⟩
theorem zd_W_law_133 : decode zb_W_law 133 = .ok (.iload 8, 2) ∧ 133 + 2 = 135 := ⟨by decide +kernel, rfl⟩
theorem zd_W_law_135 : decode zb_W_law 135 = .ok (.iload_n 3, 1) ∧ 135 + 1 = 136 := ⟨by decide +kernel, rfl⟩
theorem zd_W_law_136 : decode zb_W_law 136 = .ok (.iload 4, 2) ∧ 136 + 2 = 138 := ⟨by decide +kernel, rfl⟩
theorem zd_W_law_138 : decode zb_W_law 138 = .ok (.imul, 1) ∧ 138 + 1 = 139 := ⟨by decide +kernel, rfl⟩
theorem zd_W_law_139 : decode zb_W_law 139 = .ok (.if_icmp .ge 328, 3) ∧ ((139 : Nat) : Int) + (328) = ((467 : Nat) : Int) ∧ 139 + 3 = 142 := ⟨by decide +kernel, by decide, rfl⟩
theorem zd_W_law_142 : decode zb_W_law 142 = .ok (.aload 7, 2) ∧ 142 + 2 = 144 := ⟨by decide +kernel, rfl⟩
theorem zd_W_law_144 : decode zb_W_law 144 = .ok (.iload 8, 2) ∧ 144 + 2 = 146 := ⟨by decide +kernel, rfl⟩
theorem zd_W_law_146 : decode zb_W_law 146 = .ok (.iaload, 1) ∧ 146 + 1 = 147 := ⟨by decide +kernel, rfl⟩
theorem zd_W_law_147 : decode zb_W_law 147 = .ok (.iconst 1, 1) ∧ 147 + 1 = 148 := ⟨by decide +kernel, rfl⟩
theorem zd_W_law_148 : decode zb_W_law 148 = .ok (.if_icmp .eq 6, 3) ∧ ((148 : Nat) : Int) + (6) = ((154 : Nat) : Int) ∧ 148 + 3 = 151 := ⟨by decide +kernel, by decide, rfl⟩
theorem zd_W_law_151 : decode zb_W_law 151 = .ok (.goto 310, 3) ∧ ((151 : Nat) : Int) + (310) = ((461 : Nat) : Int) ∧ 151 + 3 = 154 := ⟨by decide +kernel, by decide, rfl⟩
theorem zd_W_law_154 : decode zb_W_law 154 = .ok (.iconst 0, 1) ∧ 154 + 1 = 155 := ⟨by decide +kernel, rfl⟩
theorem zd_W_law_155 : decode zb_W_law 155 = .ok (.istore 9, 2) ∧ 155 + 2 = 157 := ⟨by decide +kernel, rfl⟩
theorem zd_W_law_157 : decode zb_W_law 157 = .ok (.iload 9, 2) ∧ 157 + 2 = 159 := ⟨by decide +kernel, rfl⟩
theorem zd_W_law_159 : decode zb_W_law 159 = .ok (.iload_n 3, 1) ∧ 159 + 1 = 160 := ⟨by decide +kernel, rfl⟩
theorem zd_W_law_160 : decode zb_W_law 160 = .ok (.iload 4, 2) ∧ 160 + 2 = 162 := ⟨by decide +kernel, rfl⟩
theorem zd_W_law_162 : decode zb_W_law 162 = .ok (.imul, 1) ∧ 162 + 1 = 163 := ⟨by decide +kernel, rfl⟩
theorem zd_W_law_163 : decode zb_W_law 163 = .ok (.if_icmp .ge 42, 3) ∧ ((163 : Nat) : Int) + (42) = ((205 : Nat) : Int) ∧ 163 + 3 = 166 := ⟨by decide +kernel, by decide, rfl⟩
theorem zd_W_law_166 : decode zb_W_law 166 = .ok (.aload 5, 2) ∧ 166 + 2 = 168 := ⟨by decide +kernel, rfl⟩
theorem zd_W_law_168 : decode zb_W_law 168 = .ok (.iload 9, 2) ∧ 168 + 2 = 170 := ⟨by decide +kernel, rfl⟩
theorem zd_W_law_170 : decode zb_W_law 170 = .ok (.aaload, 1) ∧ 170 + 1 = 171 := ⟨by decide +kernel, rfl⟩
theorem zd_W_law_171 : decode zb_W_law 171 = .ok (.iconst 0, 1) ∧ 171 + 1 = 172 := ⟨by decide +kernel, rfl⟩
theorem zd_W_law_172 : decode zb_W_law 172 = .ok (.aload 7, 2) ∧ 172 + 2 = 174 := ⟨by decide +kernel, rfl⟩
theorem zd_W_law_174 : decode zb_W_law 174 = .ok (.iload 9, 2) ∧ 174 + 2 = 176 := ⟨by decide +kernel, rfl⟩
theorem zd_W_law_176 : decode zb_W_law 176 = .ok (.iaload, 1) ∧ 176 + 1 = 177 := ⟨by decide +kernel, rfl⟩
theorem zd_W_law_177 : decode zb_W_law 177 = .ok (.iconst 1, 1) ∧ 177 + 1 = 178 := ⟨by decide +kernel, rfl⟩
theorem zd_W_law_178 : decode zb_W_law 178 = .ok (.if_icmp .ne 15, 3) ∧ ((178 : Nat) : Int) + (15) = ((193 : Nat) : Int) ∧ 178 + 3 = 181 := ⟨by decide +kernel, by decide, rfl⟩
theorem zd_W_law_181 : decode zb_W_law 181 = .ok (.iload 9, 2) ∧ 181 + 2 = 183 := ⟨by decide +kernel, rfl⟩
theorem zd_W_law_183 : decode zb_W_law 183 = .ok (.iload 8, 2) ∧ 183 + 2 = 185 := ⟨by decide +kernel, rfl⟩
theorem zd_W_law_185 : decode zb_W_law 185 = .ok (.if_icmp .eq 8, 3) ∧ ((185 : Nat) : Int) + (8) = ((193 : Nat) : Int) ∧ 185 + 3 = 188 := ⟨by decide +kernel, by decide, rfl⟩
theorem zd_W_law_188 : decode zb_W_law 188 = .ok (.bipush 6, 2) ∧ 188 + 2 = 190 := ⟨by decide +kernel, rfl⟩
theorem zd_W_law_190 : decode zb_W_law 190 = .ok (.goto 8, 3) ∧ ((190 : Nat) : Int) + (8) = ((198 : Nat) : Int) ∧ 190 + 3 = 193 := ⟨by decide +kernel, by decide, rfl⟩
theorem zd_W_law_193 : decode zb_W_law 193 = .ok (.aload 7, 2) ∧ 193 + 2 = 195 := ⟨by decide +kernel, rfl⟩
theorem zd_W_law_195 : decode zb_W_law 195 = .ok (.iload 9, 2) ∧ 195 + 2 = 197 := ⟨by decide +kernel, rfl⟩
theorem zd_W_law_197 : decode zb_W_law 197 = .ok (.iaload, 1) ∧ 197 + 1 = 198 := ⟨by decide +kernel, rfl⟩
theorem zd_W_law_198 : decode zb_W_law 198 = .ok (.iastore, 1) ∧ 198 + 1 = 199 := ⟨by decide +kernel, rfl⟩
theorem zd_W_law_199 : decode zb_W_law 199 = .ok (.iinc 9 1, 3) ∧ 199 + 3 = 202 := ⟨by decide +kernel, rfl⟩
theorem zd_W_law_202 : decode zb_W_law 202 = .ok (.goto (-45), 3) ∧ ((202 : Nat) : Int) + (-45) = ((157 : Nat) : Int) ∧ 202 + 3 = 205 := ⟨by decide +kernel, by decide, rfl⟩
theorem zd_W_law_205 : decode zb_W_law 205 = .ok (.aload 5, 2) ∧ 205 + 2 = 207 := ⟨by decide +kernel, rfl⟩
theorem zd_W_law_207 : decode zb_W_law 207 = .ok (.iload 8, 2) ∧ 207 + 2 = 209 := ⟨by decide +kernel, rfl⟩
theorem zd_W_law_209 : decode zb_W_law 209 = .ok (.aaload, 1) ∧ 209 + 1 = 210 := ⟨by decide +kernel, rfl⟩
theorem zd_W_law_210 : decode zb_W_law 210 = .ok (.iconst 1, 1) ∧ 210 + 1 = 211 := ⟨by decide +kernel, rfl⟩
theorem zd_W_law_211 : decode zb_W_law 211 = .ok (.iaload, 1) ∧ 211 + 1 = 212 := ⟨by decide +kernel, rfl⟩
theorem zd_W_law_212 : decode zb_W_law 212 = .ok (.istore 9, 2) ∧ 212 + 2 = 214 := ⟨by decide +kernel, rfl⟩
theorem zd_W_law_214 : decode zb_W_law 214 = .ok (.iconst 1, 1) ∧ 214 + 1 = 215 := ⟨by decide +kernel, rfl⟩
theorem zd_W_law_215 : decode zb_W_law 215 = .ok (.istore 10, 2) ∧ 215 + 2 = 217 := ⟨by decide +kernel, rfl⟩
theorem zd_W_law_217 : decode zb_W_law 217 = .ok (.iload 10, 2) ∧ 217 + 2 = 219 := ⟨by decide +kernel, rfl⟩
theorem zd_W_law_219 : decode zb_W_law 219 = .ok (.bipush 8, 2) ∧ 219 + 2 = 221 := ⟨by decide +kernel, rfl⟩
theorem zd_W_law_221 : decode zb_W_law 221 = .ok (.if_icmp .ge 130, 3) ∧ ((221 : Nat) : Int) + (130) = ((351 : Nat) : Int) ∧ 221 + 3 = 224 := ⟨by decide +kernel, by decide, rfl⟩
theorem zd_W_law_224 : decode zb_W_law 224 = .ok (.iload 9, 2) ∧ 224 + 2 = 226 := ⟨by decide +kernel, rfl⟩
theorem zd_W_law_226 : decode zb_W_law 226 = .ok (.iload 10, 2) ∧ 226 + 2 = 228 := ⟨by decide +kernel, rfl⟩
theorem zd_W_law_228 : decode zb_W_law 228 = .ok (.iand, 1) ∧ 228 + 1 = 229 := ⟨by decide +kernel, rfl⟩
theorem zd_W_law_229 : decode zb_W_law 229 = .ok (.ifCond .ne 6, 3) ∧ ((229 : Nat) : Int) + (6) = ((235 : Nat) : Int) ∧ 229 + 3 = 232 := ⟨by decide +kernel, by decide, rfl⟩
theorem zd_W_law_232 : decode zb_W_law 232 = .ok (.goto 109, 3) ∧ ((232 : Nat) : Int) + (109) = ((341 : Nat) : Int) ∧ 232 + 3 = 235 := ⟨by decide +kernel, by decide, rfl⟩
theorem zd_W_law_235 : decode zb_W_law 235 = .ok (.aload 5, 2) ∧ 235 + 2 = 237 := ⟨by decide +kernel, rfl⟩
theorem zd_W_law_237 : decode zb_W_law 237 = .ok (.iload 8, 2) ∧ 237 + 2 = 239 := ⟨by decide +kernel, rfl⟩
theorem zd_W_law_239 : decode zb_W_law 239 = .ok (.aaload, 1) ∧ 239 + 1 = 240 := ⟨by decide +kernel, rfl⟩
theorem zd_W_law_240 : decode zb_W_law 240 = .ok (.iconst 1, 1) ∧ 240 + 1 = 241 := ⟨by decide +kernel, rfl⟩
theorem zd_W_law_241 : decode zb_W_law 241 = .ok (.iload 10, 2) ∧ 241 + 2 = 243 := ⟨by decide +kernel, rfl⟩
theorem zd_W_law_243 : decode zb_W_law 243 = .ok (.iastore, 1) ∧ 243 + 1 = 244 := ⟨by decide +kernel, rfl⟩
theorem zd_W_law_244 : decode zb_W_law 244 = .ok (.aload_n 2, 1) ∧ 244 + 1 = 245 := ⟨by decide +kernel, rfl⟩
theorem zd_W_law_245 : decode zb_W_law 245 = .ok (.aload 5, 2) ∧ 245 + 2 = 247 := ⟨by decide +kernel, rfl⟩
theorem zd_W_law_247 : decode zb_W_law 247 = .ok (.iload_n 3, 1) ∧ 247 + 1 = 248 := ⟨by decide +kernel, rfl⟩
theorem zd_W_law_248 : decode zb_W_law 248 = .ok (.iload 4, 2) ∧ 248 + 2 = 250 := ⟨by decide +kernel, rfl⟩
theorem zd_W_law_250 : decode zb_W_law 250 = .ok (.getstatic 75, 3) ∧ 250 + 3 = 253 := ⟨by decide +kernel, rfl⟩
theorem zd_W_law_253 : decode zb_W_law 253 = .ok (.invokestatic 121, 3) ∧ 253 + 3 = 256 := ⟨by decide +kernel, rfl⟩
theorem zd_W_law_256 : decode zb_W_law 256 = .ok (.invokestatic 125, 3) ∧ 256 + 3 = 259 := ⟨by decide +kernel, rfl⟩
theorem zd_W_law_259 : decode zb_W_law 259 = .ok (.ifCond .eq 20, 3) ∧ ((259 : Nat) : Int) + (20) = ((279 : Nat) : Int) ∧ 259 + 3 = 262 := ⟨by decide +kernel, by decide, rfl⟩
theorem zd_W_law_262 : decode zb_W_law 262 = .ok (.aload_n 2, 1) ∧ 262 + 1 = 263 := ⟨by decide +kernel, rfl⟩
theorem zd_W_law_263 : decode zb_W_law 263 = .ok (.invokevirtual 128, 3) ∧ 263 + 3 = 266 := ⟨by decide +kernel, rfl⟩
theorem zd_W_law_266 : decode zb_W_law 266 = .ok (.iconst 1, 1) ∧ 266 + 1 = 267 := ⟨by decide +kernel, rfl⟩
theorem zd_W_law_267 : decode zb_W_law 267 = .ok (.aload 5, 2) ∧ 267 + 2 = 269 := ⟨by decide +kernel, rfl⟩
theorem zd_W_law_269 : decode zb_W_law 269 = .ok (.iconst 1, 1) ∧ 269 + 1 = 270 := ⟨by decide +kernel, rfl⟩
theorem zd_W_law_270 : decode zb_W_law 270 = .ok (.bipush 9, 2) ∧ 270 + 2 = 272 := ⟨by decide +kernel, rfl⟩
theorem zd_W_law_272 : decode zb_W_law 272 = .ok (.invokestatic 112, 3) ∧ 272 + 3 = 275 := ⟨by decide +kernel, rfl⟩
theorem zd_W_law_275 : decode zb_W_law 275 = .ok (.iadd, 1) ∧ 275 + 1 = 276 := ⟨by decide +kernel, rfl⟩
theorem zd_W_law_276 : decode zb_W_law 276 = .ok (.if_icmp .eq 5, 3) ∧ ((276 : Nat) : Int) + (5) = ((281 : Nat) : Int) ∧ 276 + 3 = 279 := ⟨by decide +kernel, by decide, rfl⟩
theorem zd_W_law_279 : decode zb_W_law 279 = .ok (.iconst 0, 1) ∧ 279 + 1 = 280 := ⟨by decide +kernel, rfl⟩
theorem zd_W_law_280 : decode zb_W_law 280 = .ok (.ireturn, 1) ∧ 280 + 1 = 281 := ⟨by decide +kernel, rfl⟩
theorem zd_W_law_281 : decode zb_W_law 281 = .ok (.iconst 0, 1) ∧ 281 + 1 = 282 := ⟨by decide +kernel, rfl⟩
theorem zd_W_law_282 : decode zb_W_law 282 = .ok (.istore 11, 2) ∧ 282 + 2 = 284 := ⟨by decide +kernel, rfl⟩
theorem zd_W_law_284 : decode zb_W_law 284 = .ok (.iload 11, 2) ∧ 284 + 2 = 286 := ⟨by decide +kernel, rfl⟩
theorem zd_W_law_286 : decode zb_W_law 286 = .ok (.iload_n 3, 1) ∧ 286 + 1 = 287 := ⟨by decide +kernel, rfl⟩
theorem zd_W_law_287 : decode zb_W_law 287 = .ok (.iload 4, 2) ∧ 287 + 2 = 289 := ⟨by decide +kernel, rfl⟩
theorem zd_W_law_289 : decode zb_W_law 289 = .ok (.imul, 1) ∧ 289 + 1 = 290 := ⟨by decide +kernel, rfl⟩
theorem zd_W_law_290 : decode zb_W_law 290 = .ok (.if_icmp .ge 51, 3) ∧ ((290 : Nat) : Int) + (51) = ((341 : Nat) : Int) ∧ 290 + 3 = 293 := ⟨by decide +kernel, by decide, rfl⟩
theorem zd_W_law_293 : decode zb_W_law 293 = .ok (.iconst 0, 1) ∧ 293 + 1 = 294 := ⟨by decide +kernel, rfl⟩
theorem zd_W_law_294 : decode zb_W_law 294 = .ok (.istore 12, 2) ∧ 294 + 2 = 296 := ⟨by decide +kernel, rfl⟩
theorem zd_W_law_296 : decode zb_W_law 296 = .ok (.iload 12, 2) ∧ 296 + 2 = 298 := ⟨by decide +kernel, rfl⟩
theorem zd_W_law_298 : decode zb_W_law 298 = .ok (.iconst 4, 1) ∧ 298 + 1 = 299 := ⟨by decide +kernel, rfl⟩
theorem zd_W_law_299 : decode zb_W_law 299 = .ok (.if_icmp .ge 36, 3) ∧ ((299 : Nat) : Int) + (36) = ((335 : Nat) : Int) ∧ 299 + 3 = 302 := ⟨by decide +kernel, by decide, rfl⟩
theorem zd_W_law_302 : decode zb_W_law 302 = .ok (.aload 6, 2) ∧ 302 + 2 = 304 := ⟨by decide +kernel, rfl⟩
theorem zd_W_law_304 : decode zb_W_law 304 = .ok (.iconst 4, 1) ∧ 304 + 1 = 305 := ⟨by decide +kernel, rfl⟩
theorem zd_W_law_305 : decode zb_W_law 305 = .ok (.iload 11, 2) ∧ 305 + 2 = 307 := ⟨by decide +kernel, rfl⟩
theorem zd_W_law_307 : decode zb_W_law 307 = .ok (.imul, 1) ∧ 307 + 1 = 308 := ⟨by decide +kernel, rfl⟩
theorem zd_W_law_308 : decode zb_W_law 308 = .ok (.iload 12, 2) ∧ 308 + 2 = 310 := ⟨by decide +kernel, rfl⟩
theorem zd_W_law_310 : decode zb_W_law 310 = .ok (.iadd, 1) ∧ 310 + 1 = 311 := ⟨by decide +kernel, rfl⟩
theorem zd_W_law_311 : decode zb_W_law 311 = .ok (.dup2, 1) ∧ 311 + 1 = 312 := ⟨by decide +kernel, rfl⟩
theorem zd_W_law_312 : decode zb_W_law 312 = .ok (.iaload, 1) ∧ 312 + 1 = 313 := ⟨by decide +kernel, rfl⟩
theorem zd_W_law_313 : decode zb_W_law 313 = .ok (.aload_n 2, 1) ∧ 313 + 1 = 314 := ⟨by decide +kernel, rfl⟩
theorem zd_W_law_314 : decode zb_W_law 314 = .ok (.iload 11, 2) ∧ 314 + 2 = 316 := ⟨by decide +kernel, rfl⟩
theorem zd_W_law_316 : decode zb_W_law 316 = .ok (.iload_n 3, 1) ∧ 316 + 1 = 317 := ⟨by decide +kernel, rfl⟩
theorem zd_W_law_317 : decode zb_W_law 317 = .ok (.irem, 1) ∧ 317 + 1 = 318 := ⟨by decide +kernel, rfl⟩
theorem zd_W_law_318 : decode zb_W_law 318 = .ok (.iload 11, 2) ∧ 318 + 2 = 320 := ⟨by decide +kernel, rfl⟩
theorem zd_W_law_320 : decode zb_W_law 320 = .ok (.iload_n 3, 1) ∧ 320 + 1 = 321 := ⟨by decide +kernel, rfl⟩
theorem zd_W_law_321 : decode zb_W_law 321 = .ok (.idiv, 1) ∧ 321 + 1 = 322 := ⟨by decide +kernel, rfl⟩
theorem zd_W_law_322 : decode zb_W_law 322 = .ok (.iload 12, 2) ∧ 322 + 2 = 324 := ⟨by decide +kernel, rfl⟩
theorem zd_W_law_324 : decode zb_W_law 324 = .ok (.invokevirtual 131, 3) ∧ 324 + 3 = 327 := ⟨by decide +kernel, rfl⟩
theorem zd_W_law_327 : decode zb_W_law 327 = .ok (.ior, 1) ∧ 327 + 1 = 328 := ⟨by decide +kernel, rfl⟩
theorem zd_W_law_328 : decode zb_W_law 328 = .ok (.iastore, 1) ∧ 328 + 1 = 329 := ⟨by decide +kernel, rfl⟩
theorem zd_W_law_329 : decode zb_W_law 329 = .ok (.iinc 12 1, 3) ∧ 329 + 3 = 332 := ⟨by decide +kernel, rfl⟩
theorem zd_W_law_332 : decode zb_W_law 332 = .ok (.goto (-36), 3) ∧ ((332 : Nat) : Int) + (-36) = ((296 : Nat) : Int) ∧ 332 + 3 = 335 := ⟨by decide +kernel, by decide, rfl⟩
theorem zd_W_law_335 : decode zb_W_law 335 = .ok (.iinc 11 1, 3) ∧ 335 + 3 = 338 := ⟨by decide +kernel, rfl⟩
theorem zd_W_law_338 : decode zb_W_law 338 = .ok (.goto (-54), 3) ∧ ((338 : Nat) : Int) + (-54) = ((284 : Nat) : Int) ∧ 338 + 3 = 341 := ⟨by decide +kernel, by decide, rfl⟩
theorem zd_W_law_341 : decode zb_W_law 341 = .ok (.iload 10, 2) ∧ 341 + 2 = 343 := ⟨by decide +kernel, rfl⟩
theorem zd_W_law_343 : decode zb_W_law 343 = .ok (.iload 10, 2) ∧ 343 + 2 = 345 := ⟨by decide +kernel, rfl⟩
theorem zd_W_law_345 : decode zb_W_law 345 = .ok (.iadd, 1) ∧ 345 + 1 = 346 := ⟨by decide +kernel, rfl⟩
theorem zd_W_law_346 : decode zb_W_law 346 = .ok (.istore 10, 2) ∧ 346 + 2 = 348 := ⟨by decide +kernel, rfl⟩
theorem zd_W_law_348 : decode zb_W_law 348 = .ok (.goto (-131), 3) ∧ ((348 : Nat) : Int) + (-131) = ((217 : Nat) : Int) ∧ 348 + 3 = 351 := ⟨by decide +kernel, by decide, rfl⟩
theorem zd_W_law_351 : decode zb_W_law 351 = .ok (.aload 5, 2) ∧ 351 + 2 = 353 := ⟨by decide +kernel, rfl⟩
theorem zd_W_law_353 : decode zb_W_law 353 = .ok (.iload 8, 2) ∧ 353 + 2 = 355 := ⟨by decide +kernel, rfl⟩
theorem zd_W_law_355 : decode zb_W_law 355 = .ok (.aaload, 1) ∧ 355 + 1 = 356 := ⟨by decide +kernel, rfl⟩
theorem zd_W_law_356 : decode zb_W_law 356 = .ok (.iconst 1, 1) ∧ 356 + 1 = 357 := ⟨by decide +kernel, rfl⟩
theorem zd_W_law_357 : decode zb_W_law 357 = .ok (.iload 9, 2) ∧ 357 + 2 = 359 := ⟨by decide +kernel, rfl⟩
theorem zd_W_law_359 : decode zb_W_law 359 = .ok (.iastore, 1) ∧ 359 + 1 = 360 := ⟨by decide +kernel, rfl⟩
theorem zd_W_law_360 : decode zb_W_law 360 = .ok (.aload_n 2, 1) ∧ 360 + 1 = 361 := ⟨by decide +kernel, rfl⟩
theorem zd_W_law_361 : decode zb_W_law 361 = .ok (.aload 5, 2) ∧ 361 + 2 = 363 := ⟨by decide +kernel, rfl⟩
theorem zd_W_law_363 : decode zb_W_law 363 = .ok (.iload_n 3, 1) ∧ 363 + 1 = 364 := ⟨by decide +kernel, rfl⟩
theorem zd_W_law_364 : decode zb_W_law 364 = .ok (.iload 4, 2) ∧ 364 + 2 = 366 := ⟨by decide +kernel, rfl⟩
theorem zd_W_law_366 : decode zb_W_law 366 = .ok (.getstatic 75, 3) ∧ 366 + 3 = 369 := ⟨by decide +kernel, rfl⟩
theorem zd_W_law_369 : decode zb_W_law 369 = .ok (.invokestatic 121, 3) ∧ 369 + 3 = 372 := ⟨by decide +kernel, rfl⟩
theorem zd_W_law_372 : decode zb_W_law 372 = .ok (.invokestatic 125, 3) ∧ 372 + 3 = 375 := ⟨by decide +kernel, rfl⟩
theorem zd_W_law_375 : decode zb_W_law 375 = .ok (.ifCond .eq 20, 3) ∧ ((375 : Nat) : Int) + (20) = ((395 : Nat) : Int) ∧ 375 + 3 = 378 := ⟨by decide +kernel, by decide, rfl⟩
theorem zd_W_law_378 : decode zb_W_law 378 = .ok (.aload_n 2, 1) ∧ 378 + 1 = 379 := ⟨by decide +kernel, rfl⟩
theorem zd_W_law_379 : decode zb_W_law 379 = .ok (.invokevirtual 128, 3) ∧ 379 + 3 = 382 := ⟨by decide +kernel, rfl⟩
theorem zd_W_law_382 : decode zb_W_law 382 = .ok (.iconst 1, 1) ∧ 382 + 1 = 383 := ⟨by decide +kernel, rfl⟩
theorem zd_W_law_383 : decode zb_W_law 383 = .ok (.aload 5, 2) ∧ 383 + 2 = 385 := ⟨by decide +kernel, rfl⟩
theorem zd_W_law_385 : decode zb_W_law 385 = .ok (.iconst 1, 1) ∧ 385 + 1 = 386 := ⟨by decide +kernel, rfl⟩
theorem zd_W_law_386 : decode zb_W_law 386 = .ok (.bipush 9, 2) ∧ 386 + 2 = 388 := ⟨by decide +kernel, rfl⟩
theorem zd_W_law_388 : decode zb_W_law 388 = .ok (.invokestatic 112, 3) ∧ 388 + 3 = 391 := ⟨by decide +kernel, rfl⟩
theorem zd_W_law_391 : decode zb_W_law 391 = .ok (.iadd, 1) ∧ 391 + 1 = 392 := ⟨by decide +kernel, rfl⟩
theorem zd_W_law_392 : decode zb_W_law 392 = .ok (.if_icmp .eq 5, 3) ∧ ((392 : Nat) : Int) + (5) = ((397 : Nat) : Int) ∧ 392 + 3 = 395 := ⟨by decide +kernel, by decide, rfl⟩
theorem zd_W_law_395 : decode zb_W_law 395 = .ok (.iconst 0, 1) ∧ 395 + 1 = 396 := ⟨by decide +kernel, rfl⟩
theorem zd_W_law_396 : decode zb_W_law 396 = .ok (.ireturn, 1) ∧ 396 + 1 = 397 := ⟨by decide +kernel, rfl⟩
theorem zd_W_law_397 : decode zb_W_law 397 = .ok (.aload_n 1, 1) ∧ 397 + 1 = 398 := ⟨by decide +kernel, rfl⟩
theorem zd_W_law_398 : decode zb_W_law 398 = .ok (.iload 8, 2) ∧ 398 + 2 = 400 := ⟨by decide +kernel, rfl⟩
theorem zd_W_law_400 : decode zb_W_law 400 = .ok (.iload_n 3, 1) ∧ 400 + 1 = 401 := ⟨by decide +kernel, rfl⟩
theorem zd_W_law_401 : decode zb_W_law 401 = .ok (.irem, 1) ∧ 401 + 1 = 402 := ⟨by decide +kernel, rfl⟩
theorem zd_W_law_402 : decode zb_W_law 402 = .ok (.iload 8, 2) ∧ 402 + 2 = 404 := ⟨by decide +kernel, rfl⟩
theorem zd_W_law_404 : decode zb_W_law 404 = .ok (.iload_n 3, 1) ∧ 404 + 1 = 405 := ⟨by decide +kernel, rfl⟩
theorem zd_W_law_405 : decode zb_W_law 405 = .ok (.idiv, 1) ∧ 405 + 1 = 406 := ⟨by decide +kernel, rfl⟩
theorem zd_W_law_406 : decode zb_W_law 406 = .ok (.iconst 1, 1) ∧ 406 + 1 = 407 := ⟨by decide +kernel, rfl⟩
theorem zd_W_law_407 : decode zb_W_law 407 = .ok (.invokevirtual 135, 3) ∧ 407 + 3 = 410 := ⟨by decide +kernel, rfl⟩
theorem zd_W_law_410 : decode zb_W_law 410 = .ok (.istore 10, 2) ∧ 410 + 2 = 412 := ⟨by decide +kernel, rfl⟩
theorem zd_W_law_412 : decode zb_W_law 412 = .ok (.iconst 0, 1) ∧ 412 + 1 = 413 := ⟨by decide +kernel, rfl⟩
theorem zd_W_law_413 : decode zb_W_law 413 = .ok (.istore 11, 2) ∧ 413 + 2 = 415 := ⟨by decide +kernel, rfl⟩
theorem zd_W_law_415 : decode zb_W_law 415 = .ok (.iload 11, 2) ∧ 415 + 2 = 417 := ⟨by decide +kernel, rfl⟩
theorem zd_W_law_417 : decode zb_W_law 417 = .ok (.aload_n 1, 1) ∧ 417 + 1 = 418 := ⟨by decide +kernel, rfl⟩
theorem zd_W_law_418 : decode zb_W_law 418 = .ok (.iconst 5, 1) ∧ 418 + 1 = 419 := ⟨by decide +kernel, rfl⟩
theorem zd_W_law_419 : decode zb_W_law 419 = .ok (.invokevirtual 138, 3) ∧ 419 + 3 = 422 := ⟨by decide +kernel, rfl⟩
theorem zd_W_law_422 : decode zb_W_law 422 = .ok (.if_icmp .ge 39, 3) ∧ ((422 : Nat) : Int) + (39) = ((461 : Nat) : Int) ∧ 422 + 3 = 425 := ⟨by decide +kernel, by decide, rfl⟩
theorem zd_W_law_425 : decode zb_W_law 425 = .ok (.aload_n 1, 1) ∧ 425 + 1 = 426 := ⟨by decide +kernel, rfl⟩
theorem zd_W_law_426 : decode zb_W_law 426 = .ok (.iload 11, 2) ∧ 426 + 2 = 428 := ⟨by decide +kernel, rfl⟩
theorem zd_W_law_428 : decode zb_W_law 428 = .ok (.invokevirtual 142, 3) ∧ 428 + 3 = 431 := ⟨by decide +kernel, rfl⟩
theorem zd_W_law_431 : decode zb_W_law 431 = .ok (.iload 10, 2) ∧ 431 + 2 = 433 := ⟨by decide +kernel, rfl⟩
theorem zd_W_law_433 : decode zb_W_law 433 = .ok (.ishr, 1) ∧ 433 + 1 = 434 := ⟨by decide +kernel, rfl⟩
theorem zd_W_law_434 : decode zb_W_law 434 = .ok (.iconst 1, 1) ∧ 434 + 1 = 435 := ⟨by decide +kernel, rfl⟩
theorem zd_W_law_435 : decode zb_W_law 435 = .ok (.iand, 1) ∧ 435 + 1 = 436 := ⟨by decide +kernel, rfl⟩
theorem zd_W_law_436 : decode zb_W_law 436 = .ok (.aload_n 2, 1) ∧ 436 + 1 = 437 := ⟨by decide +kernel, rfl⟩
theorem zd_W_law_437 : decode zb_W_law 437 = .ok (.iload 11, 2) ∧ 437 + 2 = 439 := ⟨by decide +kernel, rfl⟩
theorem zd_W_law_439 : decode zb_W_law 439 = .ok (.invokevirtual 145, 3) ∧ 439 + 3 = 442 := ⟨by decide +kernel, rfl⟩
theorem zd_W_law_442 : decode zb_W_law 442 = .ok (.ifCond .ne 7, 3) ∧ ((442 : Nat) : Int) + (7) = ((449 : Nat) : Int) ∧ 442 + 3 = 445 := ⟨by decide +kernel, by decide, rfl⟩
theorem zd_W_law_445 : decode zb_W_law 445 = .ok (.iconst 0, 1) ∧ 445 + 1 = 446 := ⟨by decide +kernel, rfl⟩
theorem zd_W_law_446 : decode zb_W_law 446 = .ok (.goto 4, 3) ∧ ((446 : Nat) : Int) + (4) = ((450 : Nat) : Int) ∧ 446 + 3 = 449 := ⟨by decide +kernel, by decide, rfl⟩
theorem zd_W_law_449 : decode zb_W_law 449 = .ok (.iconst 1, 1) ∧ 449 + 1 = 450 := ⟨by decide +kernel, rfl⟩
theorem zd_W_law_450 : decode zb_W_law 450 = .ok (.if_icmp .eq 5, 3) ∧ ((450 : Nat) : Int) + (5) = ((455 : Nat) : Int) ∧ 450 + 3 = 453 := ⟨by decide +kernel, by decide, rfl⟩
theorem zd_W_law_453 : decode zb_W_law 453 = .ok (.iconst 0, 1) ∧ 453 + 1 = 454 := ⟨by decide +kernel, rfl⟩
theorem zd_W_law_454 : decode zb_W_law 454 = .ok (.ireturn, 1) ∧ 454 + 1 = 455 := ⟨by decide +kernel, rfl⟩
theorem zd_W_law_455 : decode zb_W_law 455 = .ok (.iinc 11 1, 3) ∧ 455 + 3 = 458 := ⟨by decide +kernel, rfl⟩
theorem zd_W_law_458 : decode zb_W_law 458 = .ok (.goto (-43), 3) ∧ ((458 : Nat) : Int) + (-43) = ((415 : Nat) : Int) ∧ 458 + 3 = 461 := ⟨by decide +kernel, by decide, rfl⟩
theorem zd_W_law_461 : decode zb_W_law 461 = .ok (.iinc 8 1, 3) ∧ 461 + 3 = 464 := ⟨by decide +kernel, rfl⟩
theorem zd_W_law_464 : decode zb_W_law 464 = .ok (.goto (-331), 3) ∧ ((464 : Nat) : Int) + (-331) = ((133 : Nat) : Int) ∧ 464 + 3 = 467 := ⟨by decide +kernel, by decide, rfl⟩
theorem zd_W_law_467 : decode zb_W_law 467 = .ok (.iconst 0, 1) ∧ 467 + 1 = 468 := ⟨by decide +kernel, rfl⟩
theorem zd_W_law_468 : decode zb_W_law 468 = .ok (.istore 8, 2) ∧ 468 + 2 = 470 := ⟨by decide +kernel, rfl⟩
theorem zd_W_law_470 : decode zb_W_law 470 = .ok (.iload 8, 2) ∧ 470 + 2 = 472 := ⟨by decide +kernel, rfl⟩
theorem zd_W_law_472 : decode zb_W_law 472 = .ok (.iload_n 3, 1) ∧ 472 + 1 = 473 := ⟨by decide +kernel, rfl⟩
theorem zd_W_law_473 : decode zb_W_law 473 = .ok (.iload 4, 2) ∧ 473 + 2 = 475 := ⟨by decide +kernel, rfl⟩
theorem zd_W_law_475 : decode zb_W_law 475 = .ok (.imul, 1) ∧ 475 + 1 = 476 := ⟨by decide +kernel, rfl⟩
theorem zd_W_law_476 : decode zb_W_law 476 = .ok (.if_icmp .ge 53, 3) ∧ ((476 : Nat) : Int) + (53) = ((529 : Nat) : Int) ∧ 476 + 3 = 479 := ⟨by decide +kernel, by decide, rfl⟩
theorem zd_W_law_479 : decode zb_W_law 479 = .ok (.iconst 0, 1) ∧ 479 + 1 = 480 := ⟨by decide +kernel, rfl⟩
theorem zd_W_law_480 : decode zb_W_law 480 = .ok (.istore 9, 2) ∧ 480 + 2 = 482 := ⟨by decide +kernel, rfl⟩
theorem zd_W_law_482 : decode zb_W_law 482 = .ok (.iload 9, 2) ∧ 482 + 2 = 484 := ⟨by decide +kernel, rfl⟩
theorem zd_W_law_484 : decode zb_W_law 484 = .ok (.iconst 4, 1) ∧ 484 + 1 = 485 := ⟨by decide +kernel, rfl⟩
theorem zd_W_law_485 : decode zb_W_law 485 = .ok (.if_icmp .ge 38, 3) ∧ ((485 : Nat) : Int) + (38) = ((523 : Nat) : Int) ∧ 485 + 3 = 488 := ⟨by decide +kernel, by decide, rfl⟩
theorem zd_W_law_488 : decode zb_W_law 488 = .ok (.aload_n 1, 1) ∧ 488 + 1 = 489 := ⟨by decide +kernel, rfl⟩
theorem zd_W_law_489 : decode zb_W_law 489 = .ok (.iload 8, 2) ∧ 489 + 2 = 491 := ⟨by decide +kernel, rfl⟩
theorem zd_W_law_491 : decode zb_W_law 491 = .ok (.iload_n 3, 1) ∧ 491 + 1 = 492 := ⟨by decide +kernel, rfl⟩
theorem zd_W_law_492 : decode zb_W_law 492 = .ok (.irem, 1) ∧ 492 + 1 = 493 := ⟨by decide +kernel, rfl⟩
theorem zd_W_law_493 : decode zb_W_law 493 = .ok (.iload 8, 2) ∧ 493 + 2 = 495 := ⟨by decide +kernel, rfl⟩
theorem zd_W_law_495 : decode zb_W_law 495 = .ok (.iload_n 3, 1) ∧ 495 + 1 = 496 := ⟨by decide +kernel, rfl⟩
theorem zd_W_law_496 : decode zb_W_law 496 = .ok (.idiv, 1) ∧ 496 + 1 = 497 := ⟨by decide +kernel, rfl⟩
theorem zd_W_law_497 : decode zb_W_law 497 = .ok (.iload 9, 2) ∧ 497 + 2 = 499 := ⟨by decide +kernel, rfl⟩
theorem zd_W_law_499 : decode zb_W_law 499 = .ok (.invokevirtual 131, 3) ∧ 499 + 3 = 502 := ⟨by decide +kernel, rfl⟩
theorem zd_W_law_502 : decode zb_W_law 502 = .ok (.aload 6, 2) ∧ 502 + 2 = 504 := ⟨by decide +kernel, rfl⟩
theorem zd_W_law_504 : decode zb_W_law 504 = .ok (.iconst 4, 1) ∧ 504 + 1 = 505 := ⟨by decide +kernel, rfl⟩
theorem zd_W_law_505 : decode zb_W_law 505 = .ok (.iload 8, 2) ∧ 505 + 2 = 507 := ⟨by decide +kernel, rfl⟩
theorem zd_W_law_507 : decode zb_W_law 507 = .ok (.imul, 1) ∧ 507 + 1 = 508 := ⟨by decide +kernel, rfl⟩
theorem zd_W_law_508 : decode zb_W_law 508 = .ok (.iload 9, 2) ∧ 508 + 2 = 510 := ⟨by decide +kernel, rfl⟩
theorem zd_W_law_510 : decode zb_W_law 510 = .ok (.iadd, 1) ∧ 510 + 1 = 511 := ⟨by decide +kernel, rfl⟩
theorem zd_W_law_511 : decode zb_W_law 511 = .ok (.iaload, 1) ∧ 511 + 1 = 512 := ⟨by decide +kernel, rfl⟩
theorem zd_W_law_512 : decode zb_W_law 512 = .ok (.if_icmp .eq 5, 3) ∧ ((512 : Nat) : Int) + (5) = ((517 : Nat) : Int) ∧ 512 + 3 = 515 := ⟨by decide +kernel, by decide, rfl⟩
theorem zd_W_law_515 : decode zb_W_law 515 = .ok (.iconst 0, 1) ∧ 515 + 1 = 516 := ⟨by decide +kernel, rfl⟩
theorem zd_W_law_516 : decode zb_W_law 516 = .ok (.ireturn, 1) ∧ 516 + 1 = 517 := ⟨by decide +kernel, rfl⟩
theorem zd_W_law_517 : decode zb_W_law 517 = .ok (.iinc 9 1, 3) ∧ 517 + 3 = 520 := ⟨by decide +kernel, rfl⟩
theorem zd_W_law_520 : decode zb_W_law 520 = .ok (.goto (-38), 3) ∧ ((520 : Nat) : Int) + (-38) = ((482 : Nat) : Int) ∧ 520 + 3 = 523 := ⟨by decide +kernel, by decide, rfl⟩
theorem zd_W_law_523 : decode zb_W_law 523 = .ok (.iinc 8 1, 3) ∧ 523 + 3 = 526 := ⟨by decide +kernel, rfl⟩
theorem zd_W_law_526 : decode zb_W_law 526 = .ok (.goto (-56), 3) ∧ ((526 : Nat) : Int) + (-56) = ((470 : Nat) : Int) ∧ 526 + 3 = 529 := ⟨by decide +kernel, by decide, rfl⟩
theorem zd_W_law_529 : decode zb_W_law 529 = .ok (.iconst 1, 1) ∧ 529 + 1 = 530 := ⟨by decide +kernel, rfl⟩
theorem zd_W_law_530 : decode zb_W_law 530 = .ok (.ireturn, 1) ∧ 530 + 1 = 531 := ⟨by decide +kernel, rfl⟩
