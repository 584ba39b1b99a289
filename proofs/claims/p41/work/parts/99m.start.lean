/-! THE LAW: the start. The heap as a function once both objects are made -/
def zs0 : zPH := fun a => match a with
  | 0 => fun k => if k = 3 then 32 else 0
  | 4 => fun k => if k = 1 then (-1) else if k = 4 then 45 else 0
  | 8 => fun k => if k = 5 then 13 else 0
  | _ => fun _ => 0
def zaddr (r0 r1 r2 r3 r4 r5 r6 r7 r8 r9 r10 r11 r12 r13 r14 r15 r16 r17 r18 r19 r20 r21 r22 r23 r24 r25 r26 r27 r28 r29 r30 r31 r32 r33 r34 r35 r36 r37 r38 r39 r40 r41 r42 r43 r44 r45 r46 r47 r48 r49 r50 r51 r52 r53 r54 r55 r56 r57 : Nat) (a : Nat) : Nat := [r0, r1, r2, r3, r4, r5, r6, r7, r8, r9, r10, r11, r12, r13, r14, r15, r16, r17, r18, r19, r20, r21, r22, r23, r24, r25, r26, r27, r28, r29, r30, r31, r32, r33, r34, r35, r36, r37, r38, r39, r40, r41, r42, r43, r44, r45, r46, r47, r48, r49, r50, r51, r52, r53, r54, r55, r56, r57].getD a 0
set_option maxRecDepth 100000 in
theorem zst_w (D : va_G) (cs : Nat → ClassId) (L : Nat) (r0 r1 r2 r3 r4 r5 r6 r7 r8 r9 r10 r11 r12 r13 r14 r15 r16 r17 r18 r19 r20 r21 r22 r23 r24 r25 r26 r27 r28 r29 r30 r31 r32 r33 r34 r35 r36 r37 r38 r39 r40 r41 r42 r43 r44 r45 r46 r47 r48 r49 r50 r51 r52 r53 r54 r55 r56 r57 : Nat) : zws ((zaddr r0 r1 r2 r3 r4 r5 r6 r7 r8 r9 r10 r11 r12 r13 r14 r15 r16 r17 r18 r19 r20 r21 r22 r23 r24 r25 r26 r27 r28 r29 r30 r31 r32 r33 r34 r35 r36 r37 r38 r39 r40 r41 r42 r43 r44 r45 r46 r47 r48 r49 r50 r51 r52 r53 r54 r55 r56 r57), D, cs, L) zs0 = [(r0, .inr (6, [.ref r1, iZ 0, .ref r4, .ref r32, .ref r14, .ref r24, .ref r2, iZ 0, iZ 0, iZ 0, iZ 0, .ref r29, .ref r3, iZ 0])), (r1, .inl (cs 0, zarr 0 1600 (fun _ => 0))), (r2, .inl (cs 0, zarr 0 144 (fun _ => 0))), (r3, .inl (cs 0, zarr 0 14 (fun _ => 0))), (r4, .inr (2, [iZ 0, iZ (-1), .ref r8, iZ 0, .ref r45, .ref r5, .ref r6, .ref r7, iZ 0])), (r5, .inl (cs 0, zarr 0 160 (fun _ => 0))), (r6, .inl (cs 0, zarr 0 160 (fun _ => 0))), (r7, .inl (cs 0, zarr 0 160 (fun _ => 0))), (r8, .inr (5, [.ref r9, .ref r10, .ref r11, .ref r12, iZ 0, .ref r13])), (r9, .inl (cs 0, zarr 0 1601 (fun _ => 0))), (r10, .inl (cs 0, zarr 0 1601 (fun _ => 0))), (r11, .inl (cs 0, zarr 0 1601 (fun _ => 0))), (r12, .inl (cs 0, zarr 0 1601 (fun _ => 0))), (r13, .inl (cs 0, zarr 0 0 (fun _ => 0))), (r14, .inr (0, [.ref r19, .ref r15, .ref r16, .ref r17, .ref r18, iZ 0, iZ 0])), (r15, .inl (cs 0, zarr 0 64 (fun _ => 0))), (r16, .inl (cs 0, zarr 0 64 (fun _ => 0))), (r17, .inl (cs 0, zarr 0 64 (fun _ => 0))), (r18, .inl (cs 0, zarr 0 64 (fun _ => 0))), (r19, .inr (1, [.ref r20, .ref r21, iZ 0, iZ 0, .ref r22, .ref r23, iZ 0, iZ 0])), (r20, .inl (cs 0, zarr 0 576 (fun _ => 0))), (r21, .inl (cs 0, zarr 0 8 (fun _ => 0))), (r22, .inl (cs 0, zarr 0 1728 (fun _ => 0))), (r23, .inl (cs 0, zarr 0 576 (fun _ => 0))), (r24, .inr (1, [.ref r25, .ref r26, iZ 0, iZ 0, .ref r27, .ref r28, iZ 0, iZ 0])), (r25, .inl (cs 0, zarr 0 576 (fun _ => 0))), (r26, .inl (cs 0, zarr 0 8 (fun _ => 0))), (r27, .inl (cs 0, zarr 0 1728 (fun _ => 0))), (r28, .inl (cs 0, zarr 0 576 (fun _ => 0))), (r29, .inr (3, [.ref r30, .ref r31, iZ 0])), (r30, .inl (cs 0, zarr 0 16 (fun _ => 0))), (r31, .inl (cs 0, zarr 0 16 (fun _ => 0))), (r32, .inr (4, [iZ 0, iZ 0, .ref r33, .ref r34, iZ 0, .ref r35, .ref r36, .ref r37, .ref r38, .ref r39, .ref r40, .ref r41, .ref r42, .ref r43, iZ 0, .ref r44])), (r33, .inl (cs 0, zarr 0 576 (fun _ => 0))), (r34, .inl (cs 0, zarr 0 144 (fun _ => 0))), (r35, .inl (cs 0, zarr 0 60 (fun _ => 0))), (r36, .inl (cs 0, zarr 0 60 (fun _ => 0))), (r37, .inl (cs 0, zarr 0 60 (fun _ => 0))), (r38, .inl (cs 0, zarr 0 60 (fun _ => 0))), (r39, .inl (cs 0, zarr 0 60 (fun _ => 0))), (r40, .inl (cs 0, zarr 0 4 (fun _ => 0))), (r41, .inl (cs 0, zarr 0 32 (fun _ => 0))), (r42, .inl (cs 0, zarr 0 8 (fun _ => 0))), (r43, .inl (cs 0, zarr 0 533 (fun _ => 0))), (r44, .inl (cs 0, zarr 0 6 (fun _ => 0))), (r45, .inr (4, [iZ 0, iZ 0, .ref r46, .ref r47, iZ 0, .ref r48, .ref r49, .ref r50, .ref r51, .ref r52, .ref r53, .ref r54, .ref r55, .ref r56, iZ 0, .ref r57])), (r46, .inl (cs 0, zarr 0 576 (fun _ => 0))), (r47, .inl (cs 0, zarr 0 144 (fun _ => 0))), (r48, .inl (cs 0, zarr 0 60 (fun _ => 0))), (r49, .inl (cs 0, zarr 0 60 (fun _ => 0))), (r50, .inl (cs 0, zarr 0 60 (fun _ => 0))), (r51, .inl (cs 0, zarr 0 60 (fun _ => 0))), (r52, .inl (cs 0, zarr 0 60 (fun _ => 0))), (r53, .inl (cs 0, zarr 0 4 (fun _ => 0))), (r54, .inl (cs 0, zarr 0 32 (fun _ => 0))), (r55, .inl (cs 0, zarr 0 8 (fun _ => 0))), (r56, .inl (cs 0, zarr 0 533 (fun _ => 0))), (r57, .inl (cs 0, zarr 0 6 (fun _ => 0)))] := rfl
def zperm : List Nat := [0, 1, 53, 57, 2, 22, 23, 24, 3, 4, 5, 6, 7, 8, 38, 44, 45, 46, 47, 39, 40, 41, 42, 43, 48, 49, 50, 51, 52, 54, 55, 56, 25, 26, 27, 28, 29, 30, 31, 32, 33, 34, 35, 36, 37, 9, 10, 11, 12, 13, 14, 15, 16, 17, 18, 19, 20, 21]
theorem zperm_p : zperm.Perm (List.range 58) := by decide +kernel
theorem xperm_of {l l2 : va_W} (h1 : (List.range 58).filterMap (fun i => l[i]?) = l) (h2 : zperm.filterMap (fun i => l[i]?) = l2) : l.Perm l2 := by
  have := zperm_p.symm.filterMap (fun i => l[i]?)
  rw [h1, h2] at this
  exact this
set_option maxRecDepth 100000 in
theorem zst_p {D : va_G} {cs : Nat → ClassId} {a : Nat} {w1 : va_W} (h1 : zX_B cs a w1) : ∃ ad : Nat → Nat, ad 0 = a ∧ w1.Perm (zws (ad, D, cs, 0) zs0) := by
  obtain ⟨b1, b2, b3, b4, b5, b6, b7, b8, b9, b10, b11, b12, b13, b14, b15, b16, b17, b18, b19, b20, b21, b22, b23, b24, b25, b26, b27, b28, b29, b30, b31, b32, b33, b34, b35, b36, b37, b38, b39, b40, b41, b42, b43, b44, b45, b46, b47, b48, b49, b50, b51, b52, b53, b54, b55, b56, b57, rfl⟩ := h1
  refine ⟨zaddr a b1 b53 b57 b2 b22 b23 b24 b3 b4 b5 b6 b7 b8 b38 b44 b45 b46 b47 b39 b40 b41 b42 b43 b48 b49 b50 b51 b52 b54 b55 b56 b25 b26 b27 b28 b29 b30 b31 b32 b33 b34 b35 b36 b37 b9 b10 b11 b12 b13 b14 b15 b16 b17 b18 b19 b20 b21, rfl, ?_⟩
  rw [zst_w]
  exact xperm_of rfl rfl
/-! the first board: none -/
def zV0 : zPH := fun _ _ => 0
def zD0 : zPH := fun r k => if r = 0 ∧ k = 5 then -1 else 0
theorem zV0_no {q : Nat} : ¬ zva zV0 q := by
  intro h
  have h1 : ((q % 12 : Nat) : Int) < 0 := h.1
  omega
theorem zBD0 : zBD zV0 zD0 := by
  have c : ∀ e : Nat, ¬ ((e : Int) < 0) := fun e h => by omega
  refine ⟨⟨by decide, by decide, fun q h => absurd h zV0_no, fun e h => absurd h (c e), fun e h => absurd h (c e), fun e h => absurd h (c e)⟩, fun m h => absurd h (c m), ?_⟩
  refine ⟨by decide, by decide, by decide, by decide, by decide, by decide, fun e => ?_, fun j h => absurd h (c j), fun j => ?_⟩
  · have : zD0 1 e = 0 := by simp [zD0]
    omega
  · have : zD0 4 j = 0 := by simp [zD0]
    omega
theorem zs0_z {a : Nat} (h : a ≠ 0 ∧ a ≠ 4 ∧ a ≠ 8) : zs0 a = fun _ => 0 := by
  obtain ⟨h1, h2, h3⟩ := h
  unfold zs0
  split
  · exact absurd rfl h1
  · exact absurd rfl h2
  · exact absurd rfl h3
  · rfl
theorem zpc_0 (n : Nat) : 0 ≤ zpc (fun _ => 0) n := by
  induction n with
  | zero => simp [zpc]
  | succ n ih => simp only [zpc]; have := (zp3_le 0).1; omega
theorem zLG0 {a : Nat} (h : a = 19 ∨ a = 24) : zLG zs0 a := by
  have e0 : zs0 a = fun _ => 0 := zs0_z (by omega)
  have e1 : zs0 (a + 1) = fun _ => 0 := zs0_z (by omega)
  have e3 : zs0 (a + 3) = fun _ => 0 := zs0_z (by omega)
  have nb : ∀ b, ¬ zbt 0 b := fun b => by simp [zbt]
  unfold zLG
  rw [e0, e1, e3]
  dsimp only
  exact ⟨by decide, fun _ => by decide, fun _ => by decide, fun j h => by omega, fun n b h => absurd h (nb b), zpc_0 576, by decide, by decide⟩
theorem zTs0 {t : Nat} (h : t = 32 ∨ t = 45) : zTs zs0 t := by
  have e : ∀ k, k ≤ 12 → zs0 (t + k) = fun _ => 0 := fun k hk => zs0_z (by omega)
  have e0 := e 0 (by decide)
  rw [Nat.add_zero] at e0
  unfold zTs zPc
  rw [e0, e 1 (by decide), e 2 (by decide), e 3 (by decide), e 4 (by decide), e 5 (by decide), e 6 (by decide), e 7 (by decide), e 8 (by decide), e 9 (by decide)]
  dsimp only
  refine ⟨fun _ => by decide, fun _ => by decide, fun _ => by decide, fun _ => by decide, by decide, fun _ => by decide, fun _ => by decide, by decide, fun l h => by omega⟩
theorem zCI0 : zCI zs0 zV0 zD0 32 45 := by
  have c : ∀ e : Nat, ¬ ((e : Int) < 0) := fun e h => by omega
  have e : ∀ k, 1 ≤ k → k ≤ 57 → k ≠ 4 → k ≠ 8 → zs0 k = fun _ => 0 := fun k _ _ _ _ => zs0_z (by omega)
  have nb : ∀ b, ¬ zbt 0 b := fun b => by simp [zbt]
  refine ⟨⟨Or.inl rfl, Or.inr rfl, by decide, rfl, rfl⟩, ⟨⟨zTs0 (Or.inl rfl), by unfold zTd; decide, fun q w h => absurd h zV0_no, fun q h => absurd h zV0_no, fun q h => absurd h zV0_no, ⟨fun q h => absurd h (c q), fun q h => absurd h (c q), fun q h => absurd h (c q)⟩, fun q h => absurd h (c q)⟩, fun p _ => ?_, fun q h => absurd h (c q)⟩, zTs0 (Or.inr rfl), ⟨zLG0 (Or.inl rfl), zLG0 (Or.inr rfl)⟩, by decide, ⟨⟨by decide, fun b => ⟨fun h => absurd h (nb b), fun h => absurd h.1 (c b)⟩⟩, by decide, fun b => ⟨fun h => absurd h (nb b), fun h => absurd h.1 (c b)⟩⟩, fun j h => absurd h (c j), fun j => ?_, fun j h => absurd h (c j)⟩
  · rw [e 34 (by decide) (by decide) (by decide) (by decide)]; dsimp only; decide
  · rw [e 1 (by decide) (by decide) (by decide) (by decide)]; simp [zD0]
