abbrev zPH : Type := Nat → Nat → Int
def zupd (σ : zPH) (a k : Nat) (z : Int) : zPH := fun a' k' => if a' = a ∧ k' = k then z else σ a' k'
theorem zupd_same (σ : zPH) (a k : Nat) (z : Int) : zupd σ a k z a k = z := by simp [zupd]
theorem zupd_na {σ : zPH} {a k : Nat} {z : Int} {a' k' : Nat} (h : a' ≠ a) : zupd σ a k z a' k' = σ a' k' := by simp [zupd, h]
theorem zupd_nk {σ : zPH} {a k : Nat} {z : Int} {a' k' : Nat} (h : k' ≠ k) : zupd σ a k z a' k' = σ a' k' := by simp [zupd, h]
theorem zupd_row {σ : zPH} {a k : Nat} {z : Int} {a' : Nat} (h : a' ≠ a) : zupd σ a k z a' = σ a' := by funext k'; simp [zupd, h]
def iZ (z : Int) : Value := .int (Int32.ofInt z)
def lZ (z : Int) : Value := .long (Int64.ofInt z)
abbrev zSh : Type := (Nat × List Nat) ⊕ (Nat × Nat)
abbrev zG : Type := (Nat → Nat) × va_G × (Nat → ClassId) × Nat
abbrev zr (G : zG) (q : Nat) : Value := .ref (G.1 q)
def zshapes : List zSh := [.inl (6, [5, 0, 8, 3, 18, 28, 6, 0, 0, 0, 0, 33, 7, 0]),
  .inr (0, 1600),
  .inr (0, 144),
  .inr (0, 14),
  .inl (2, [0, 0, 12, 0, 3, 9, 10, 11, 0]),
  .inr (0, 160),
  .inr (0, 160),
  .inr (0, 160),
  .inl (5, [13, 14, 15, 16, 0, 3]),
  .inr (0, 1601),
  .inr (0, 1601),
  .inr (0, 1601),
  .inr (0, 1601),
  .inr (0, 0),
  .inl (0, [23, 19, 20, 21, 22, 0, 0]),
  .inr (0, 64),
  .inr (0, 64),
  .inr (0, 64),
  .inr (0, 64),
  .inl (1, [24, 25, 0, 0, 26, 27, 0, 0]),
  .inr (0, 576),
  .inr (0, 8),
  .inr (0, 1728),
  .inr (0, 576),
  .inl (1, [29, 30, 0, 0, 31, 32, 0, 0]),
  .inr (0, 576),
  .inr (0, 8),
  .inr (0, 1728),
  .inr (0, 576),
  .inl (3, [34, 35, 0]),
  .inr (0, 16),
  .inr (0, 16),
  .inl (4, [0, 0, 37, 38, 0, 39, 40, 41, 42, 43, 44, 45, 46, 47, 0, 48]),
  .inr (0, 576),
  .inr (0, 144),
  .inr (0, 60),
  .inr (0, 60),
  .inr (0, 60),
  .inr (0, 60),
  .inr (0, 60),
  .inr (0, 4),
  .inr (0, 32),
  .inr (0, 8),
  .inr (0, 533),
  .inr (0, 6),
  .inl (4, [0, 0, 50, 51, 0, 52, 53, 54, 55, 56, 57, 58, 59, 60, 0, 61]),
  .inr (0, 576),
  .inr (0, 144),
  .inr (0, 60),
  .inr (0, 60),
  .inr (0, 60),
  .inr (0, 60),
  .inr (0, 60),
  .inr (0, 4),
  .inr (0, 32),
  .inr (0, 8),
  .inr (0, 533),
  .inr (0, 6)]
def zsh (_ a : Nat) : zSh := zshapes.getD a (.inr (0, 0))
theorem zsh_big {L a : Nat} (h : 58 ≤ a) : zsh L a = .inr (0, 0) := by
  have h2 : zshapes[a]? = none := List.getElem?_eq_none (by show 58 ≤ a; omega)
  simp [zsh, List.getD, h2]
theorem zs_58 (L : Nat) : zsh L 58 = .inr (0, 0) := rfl
theorem zs_0 (L : Nat) : zsh L 0 = .inl (6, [5, 0, 8, 3, 18, 28, 6, 0, 0, 0, 0, 33, 7, 0]) := rfl
theorem zs_1 (L : Nat) : zsh L 1 = .inr (0, 1600) := rfl
theorem zs_2 (L : Nat) : zsh L 2 = .inr (0, 144) := rfl
theorem zs_3 (L : Nat) : zsh L 3 = .inr (0, 14) := rfl
theorem zs_4 (L : Nat) : zsh L 4 = .inl (2, [0, 0, 12, 0, 3, 9, 10, 11, 0]) := rfl
theorem zs_5 (L : Nat) : zsh L 5 = .inr (0, 160) := rfl
theorem zs_6 (L : Nat) : zsh L 6 = .inr (0, 160) := rfl
theorem zs_7 (L : Nat) : zsh L 7 = .inr (0, 160) := rfl
theorem zs_8 (L : Nat) : zsh L 8 = .inl (5, [13, 14, 15, 16, 0, 3]) := rfl
theorem zs_9 (L : Nat) : zsh L 9 = .inr (0, 1601) := rfl
theorem zs_10 (L : Nat) : zsh L 10 = .inr (0, 1601) := rfl
theorem zs_11 (L : Nat) : zsh L 11 = .inr (0, 1601) := rfl
theorem zs_12 (L : Nat) : zsh L 12 = .inr (0, 1601) := rfl
theorem zs_13 (L : Nat) : zsh L 13 = .inr (0, 0) := rfl
theorem zs_14 (L : Nat) : zsh L 14 = .inl (0, [23, 19, 20, 21, 22, 0, 0]) := rfl
theorem zs_15 (L : Nat) : zsh L 15 = .inr (0, 64) := rfl
theorem zs_16 (L : Nat) : zsh L 16 = .inr (0, 64) := rfl
theorem zs_17 (L : Nat) : zsh L 17 = .inr (0, 64) := rfl
theorem zs_18 (L : Nat) : zsh L 18 = .inr (0, 64) := rfl
theorem zs_19 (L : Nat) : zsh L 19 = .inl (1, [24, 25, 0, 0, 26, 27, 0, 0]) := rfl
theorem zs_20 (L : Nat) : zsh L 20 = .inr (0, 576) := rfl
theorem zs_21 (L : Nat) : zsh L 21 = .inr (0, 8) := rfl
theorem zs_22 (L : Nat) : zsh L 22 = .inr (0, 1728) := rfl
theorem zs_23 (L : Nat) : zsh L 23 = .inr (0, 576) := rfl
theorem zs_24 (L : Nat) : zsh L 24 = .inl (1, [29, 30, 0, 0, 31, 32, 0, 0]) := rfl
theorem zs_25 (L : Nat) : zsh L 25 = .inr (0, 576) := rfl
theorem zs_26 (L : Nat) : zsh L 26 = .inr (0, 8) := rfl
theorem zs_27 (L : Nat) : zsh L 27 = .inr (0, 1728) := rfl
theorem zs_28 (L : Nat) : zsh L 28 = .inr (0, 576) := rfl
theorem zs_29 (L : Nat) : zsh L 29 = .inl (3, [34, 35, 0]) := rfl
theorem zs_30 (L : Nat) : zsh L 30 = .inr (0, 16) := rfl
theorem zs_31 (L : Nat) : zsh L 31 = .inr (0, 16) := rfl
theorem zs_32 (L : Nat) : zsh L 32 = .inl (4, [0, 0, 37, 38, 0, 39, 40, 41, 42, 43, 44, 45, 46, 47, 0, 48]) := rfl
theorem zs_33 (L : Nat) : zsh L 33 = .inr (0, 576) := rfl
theorem zs_34 (L : Nat) : zsh L 34 = .inr (0, 144) := rfl
theorem zs_35 (L : Nat) : zsh L 35 = .inr (0, 60) := rfl
theorem zs_36 (L : Nat) : zsh L 36 = .inr (0, 60) := rfl
theorem zs_37 (L : Nat) : zsh L 37 = .inr (0, 60) := rfl
theorem zs_38 (L : Nat) : zsh L 38 = .inr (0, 60) := rfl
theorem zs_39 (L : Nat) : zsh L 39 = .inr (0, 60) := rfl
theorem zs_40 (L : Nat) : zsh L 40 = .inr (0, 4) := rfl
theorem zs_41 (L : Nat) : zsh L 41 = .inr (0, 32) := rfl
theorem zs_42 (L : Nat) : zsh L 42 = .inr (0, 8) := rfl
theorem zs_43 (L : Nat) : zsh L 43 = .inr (0, 533) := rfl
theorem zs_44 (L : Nat) : zsh L 44 = .inr (0, 6) := rfl
theorem zs_45 (L : Nat) : zsh L 45 = .inl (4, [0, 0, 50, 51, 0, 52, 53, 54, 55, 56, 57, 58, 59, 60, 0, 61]) := rfl
theorem zs_46 (L : Nat) : zsh L 46 = .inr (0, 576) := rfl
theorem zs_47 (L : Nat) : zsh L 47 = .inr (0, 144) := rfl
theorem zs_48 (L : Nat) : zsh L 48 = .inr (0, 60) := rfl
theorem zs_49 (L : Nat) : zsh L 49 = .inr (0, 60) := rfl
theorem zs_50 (L : Nat) : zsh L 50 = .inr (0, 60) := rfl
theorem zs_51 (L : Nat) : zsh L 51 = .inr (0, 60) := rfl
theorem zs_52 (L : Nat) : zsh L 52 = .inr (0, 60) := rfl
theorem zs_53 (L : Nat) : zsh L 53 = .inr (0, 4) := rfl
theorem zs_54 (L : Nat) : zsh L 54 = .inr (0, 32) := rfl
theorem zs_55 (L : Nat) : zsh L 55 = .inr (0, 8) := rfl
theorem zs_56 (L : Nat) : zsh L 56 = .inr (0, 533) := rfl
theorem zs_57 (L : Nat) : zsh L 57 = .inr (0, 6) := rfl
def zisT (t : Nat) : Prop := t = 32 ∨ t = 45
def zisL (a : Nat) : Prop := a = 19 ∨ a = 24
theorem zsT_0 {L t : Nat} (h : zisT t) : zsh L t = .inl (4, [0, 0, (t + 1) + 4, (t + 2) + 4, 0, (t + 3) + 4, (t + 4) + 4, (t + 5) + 4, (t + 6) + 4, (t + 7) + 4, (t + 8) + 4, (t + 9) + 4, (t + 10) + 4, (t + 11) + 4, 0, (t + 12) + 4]) := by rcases h with rfl | rfl <;> rfl
theorem zsT_1 {L t : Nat} (h : zisT t) : zsh L (t + 1) = .inr (0, 576) := by rcases h with rfl | rfl <;> rfl
theorem zsT_2 {L t : Nat} (h : zisT t) : zsh L (t + 2) = .inr (0, 144) := by rcases h with rfl | rfl <;> rfl
theorem zsT_3 {L t : Nat} (h : zisT t) : zsh L (t + 3) = .inr (0, 60) := by rcases h with rfl | rfl <;> rfl
theorem zsT_4 {L t : Nat} (h : zisT t) : zsh L (t + 4) = .inr (0, 60) := by rcases h with rfl | rfl <;> rfl
theorem zsT_5 {L t : Nat} (h : zisT t) : zsh L (t + 5) = .inr (0, 60) := by rcases h with rfl | rfl <;> rfl
theorem zsT_6 {L t : Nat} (h : zisT t) : zsh L (t + 6) = .inr (0, 60) := by rcases h with rfl | rfl <;> rfl
theorem zsT_7 {L t : Nat} (h : zisT t) : zsh L (t + 7) = .inr (0, 60) := by rcases h with rfl | rfl <;> rfl
theorem zsT_8 {L t : Nat} (h : zisT t) : zsh L (t + 8) = .inr (0, 4) := by rcases h with rfl | rfl <;> rfl
theorem zsT_9 {L t : Nat} (h : zisT t) : zsh L (t + 9) = .inr (0, 32) := by rcases h with rfl | rfl <;> rfl
theorem zsT_10 {L t : Nat} (h : zisT t) : zsh L (t + 10) = .inr (0, 8) := by rcases h with rfl | rfl <;> rfl
theorem zsT_11 {L t : Nat} (h : zisT t) : zsh L (t + 11) = .inr (0, 533) := by rcases h with rfl | rfl <;> rfl
theorem zsT_12 {L t : Nat} (h : zisT t) : zsh L (t + 12) = .inr (0, 6) := by rcases h with rfl | rfl <;> rfl
theorem zsL_0 {L a : Nat} (h : zisL a) : zsh L a = .inl (1, [(a + 1) + 4, (a + 2) + 4, 0, 0, (a + 3) + 4, (a + 4) + 4, 0, 0]) := by rcases h with rfl | rfl <;> rfl
theorem zsL_1 {L a : Nat} (h : zisL a) : zsh L (a + 1) = .inr (0, 576) := by rcases h with rfl | rfl <;> rfl
theorem zsL_2 {L a : Nat} (h : zisL a) : zsh L (a + 2) = .inr (0, 8) := by rcases h with rfl | rfl <;> rfl
theorem zsL_3 {L a : Nat} (h : zisL a) : zsh L (a + 3) = .inr (0, 1728) := by rcases h with rfl | rfl <;> rfl
theorem zsL_4 {L a : Nat} (h : zisL a) : zsh L (a + 4) = .inr (0, 576) := by rcases h with rfl | rfl <;> rfl
def zsv (G : zG) (ty : Nat) (z : Int) : Value := match ty with
  | 0 => iZ z
  | 1 => lZ z
  | 2 => iZ z
  | 3 => zr G z.toNat
  | n + 4 => zr G n
def zety (e : Nat) : FieldType := match e with
  | 0 => .int
  | _ => .byte
def ztys (G : zG) : List (ClassId × FieldType) := [(G.2.2.1 0, .int), (G.2.2.1 1, .byte)]
def zfs (G : zG) (tys : List Nat) (f : Nat → Int) : List Value := (List.range tys.length).map (fun k => zsv G (tys.getD k 0) (f k))
def zarr (_ n : Nat) (f : Nat → Int) : vp_A := (n, .inl (fun k => Int32.ofInt (f k)))
def zent (G : zG) (s : zSh) (f : Nat → Int) : va_E := match s with
  | .inl (ci, tys) => .inr (ci, zfs G tys f)
  | .inr (e, n) => .inl (G.2.2.1 e, zarr e n f)
def zcell (G : zG) (σ : zPH) (a : Nat) : Nat × va_E := (G.1 a, zent G (zsh G.2.2.2 a) (σ a))
def zws (G : zG) (σ : zPH) : va_W := (List.range 58).map (zcell G σ)
theorem zws_at {G : zG} {σ : zPH} {a : Nat} (h : a < 58) : (zws G σ)[a]? = some (zcell G σ a) := by
  simp [zws, h]
theorem zws_set {G : zG} {σ : zPH} {a k : Nat} {z : Int} {e : va_E} (he : zent G (zsh G.2.2.2 a) (zupd σ a k z a) = e) : (zws G σ).set a (G.1 a, e) = zws G (zupd σ a k z) := by
  apply List.ext_getElem?
  intro i
  by_cases hi : i < 58
  · by_cases hia : i = a
    · subst hia
      rw [List.getElem?_set_self (by simpa [zws] using hi), zws_at hi, ← he]; rfl
    · rw [List.getElem?_set_ne (Ne.symm hia), zws_at hi, zws_at hi]
      simp only [zcell, zupd_row hia]
  · have h1 : (zws G σ).length = 58 := by simp [zws]
    rw [List.getElem?_eq_none (by rw [List.length_set, h1]; omega), List.getElem?_eq_none (by simp [zws]; omega)]
theorem zfs_at {G : zG} {tys : List Nat} {f : Nat → Int} {k ty : Nat} (h : tys[k]? = some ty) : (zfs G tys f)[k]? = some (zsv G ty (f k)) := by
  obtain ⟨hk, he⟩ := List.getElem?_eq_some_iff.mp h
  simp [zfs, hk, he]
theorem zfs_set {G : zG} {tys : List Nat} {σ : zPH} {a k ty : Nat} {z : Int} {v : Value} (h : tys[k]? = some ty) (hv : zsv G ty z = v) : zfs G tys (zupd σ a k z a) = (zfs G tys (σ a)).set k v := by
  have hk := (List.getElem?_eq_some_iff.mp h).1
  apply List.ext_getElem?
  intro i
  by_cases hik : i = k
  · subst hik
    rw [List.getElem?_set_self (by simpa [zfs] using hk), zfs_at h, zupd_same, hv]
  · rw [List.getElem?_set_ne (Ne.symm hik)]
    by_cases hi : i < tys.length
    · simp [zfs, hi, zupd, hik]
    · rw [List.getElem?_eq_none (by simp [zfs]; omega), List.getElem?_eq_none (by simp [zfs]; omega)]
theorem zfs_len {G : zG} {tys : List Nat} {f : Nat → Int} : (zfs G tys f).length = tys.length := by simp [zfs]
theorem zlt94 {L q ci : Nat} {tys : List Nat} (h : zsh L q = .inl (ci, tys)) : q < 58 := by
  rcases Nat.lt_or_ge q 58 with h1 | h1
  · exact h1
  · rw [zsh_big h1] at h; cases h
theorem zlt94a {L q e n : Nat} (h : zsh L q = .inr (e, n)) (hn : 0 < n) : q < 58 := by
  rcases Nat.lt_or_ge q 58 with h1 | h1
  · exact h1
  · rw [zsh_big h1] at h; cases h; omega
def zOwnT : String := "size lamp mirror half glass prism wall eye shutter vane at when red green blue white up right down left slash back or and not all sees "
def zOwnB : List Int32 := [115, 105, 122, 101, 32, 108, 97, 109, 112, 32, 109, 105, 114, 114, 111, 114, 32, 104, 97, 108, 102, 32, 103, 108, 97, 115, 115, 32, 112, 114, 105, 115, 109, 32, 119, 97, 108, 108, 32, 101, 121, 101, 32, 115, 104, 117, 116, 116, 101, 114, 32, 118, 97, 110, 101, 32, 97, 116, 32, 119, 104, 101, 110, 32, 114, 101, 100, 32, 103, 114, 101, 101, 110, 32, 98, 108, 117, 101, 32, 119, 104, 105, 116, 101, 32, 117, 112, 32, 114, 105, 103, 104, 116, 32, 100, 111, 119, 110, 32, 108, 101, 102, 116, 32, 115, 108, 97, 115, 104, 32, 98, 97, 99, 107, 32, 111, 114, 32, 97, 110, 100, 32, 110, 111, 116, 32, 97, 108, 108, 32, 115, 101, 101, 115, 32]
def zStr (A : Nat → Prop) (U : State) (H : Heap) : Prop := (∃ adK adV : Nat → Nat, vk_R "BeamBoard$Tokens" 58 zOwnT (adK 0) U ∧ vk_S 1 [135] [zOwnB] adK adV A U H) ∧ va_Z "java/lang/String" "COMPACT_STRINGS" "Z" (.int 1) A U H ∧ va_Zq "jdk/internal/util/Preconditions" "SIOOBE_FORMATTER" "Ljava/util/function/BiFunction;" A U H
theorem zStr_to {A B : Nat → Prop} {s U : State} {H : Heap} (h : zStr A s s.heap) (hS : ∀ a : Nat, a < s.heap.size → ¬ A a → H[a]? = s.heap[a]?) (hAB : ∀ q, B q → A q) (hW : s.WarmedH U.vm) : zStr B U H := by
  obtain ⟨⟨adK, adV, h1, h2⟩, h3, h4⟩ := h
  exact ⟨⟨adK, adV, h1.warm hW, ((h2.kept hS).narrow hAB).moved hW.alike⟩, ((h3.kept hS).narrow hAB).moved hW.alike, ((h4.kept hS).narrow hAB).moved hW.alike⟩
def zrm (fr : Nat) : Room := { frames := fr, cells := 0, slots := 0, locals := 40 * fr }
def zwd (M : zMi) : List Cond := .code M.1 M.2.1 M.2.2.1 M.2.2.2 :: zU
def zA (G : zG) (q : Nat) : Prop := ∃ a : Nat, a < 58 ∧ q = G.1 a
def zB (G : zG) (σ : zPH) (U : State) : Prop := va_P G.2.1 zcl (zws G σ) U.heap ∧ va_K G.2.1 zcl (ztys G) U ∧ va_D (fun _ => True) (zws G σ) ∧ zStr (zA G) U U.heap
abbrev zX : Type := Option Value → zPH → Prop
def zQ (G : zG) (X : zX) : Array Value → State → Outcome → State → Prop := fun _ st o t => (∃ (v : Option Value) (σ' : zPH), o = .returned v ∧ X v σ' ∧ zB G σ' t) ∧ va_F (zA G) st t
/-- a method's run, told by what it answers and leaves: total -/
def MS (G : zG) (M : zMi) (fr : Nat) (as : List Value) (σ : zPH) (X : zX) : Prop := ∀ l : Launch, Met l M.1 (zwd M) (zrm fr) (va_Pc as (zB G σ)) (zQ G X) 0 0 (zA G)
def zRet (cc : ByteArray) (ret : Option FieldType) (pc : Nat) (v : Option Value) : Prop :=
  (decode cc pc = .ok (.ireturn, 1) ∧ ∃ (z : Int) (ty : FieldType), v = some (iZ z) ∧ ret = some ty ∧ narrow ty (iZ z) = iZ z) ∨ (decode cc pc = .ok (.areturn, 1) ∧ ∃ (q : Nat) (C : String), v = some (.ref q) ∧ ret = some (.object C)) ∨ (decode cc pc = .ok (.return_, 1) ∧ v = none ∧ ret = none)
def zHas (la : Array Slot) (nL : Nat) (ls : List (Option Value)) : Prop := la.size = nL ∧ lv_wf la ∧ ∀ (j : Nat) (w : Value), ls[j]? = some (some w) → la[j]? = some (.val w)
def zC (G : zG) (M : zMi) (fr : Nat) (X : zX) (p : Program) (l : Launch) (e : Env) (R : Room) (s : State) (m : MethodId) (args : Array Value) (below : List Frame) (meth : Method) (c : Code) (Z : State → Prop) (A : Nat → Prop) (H0 : Heap) : Prop :=
  p.tables.exec = Jvm.exec ∧ c.code = M.2.1 ∧ c.maxLocals = M.2.2.1 ∧ s.vm.findClass M.1.cls = some m.cls ∧ (∀ w ∈ zU, w.before args s = true) ∧ va_K G.2.1 zcl (ztys G) s ∧ (fr ≤ R.frames ∧ H0 = s.heap ∧ zStr A s s.heap) ∧ 40 * fr ≤ R.locals ∧ (∀ q, zA G q → A q) ∧
  (∀ (v : Option Value) (σ : zPH) (H : Heap) (locs : List Loc) (pc : Nat) (la : Array Slot), X v σ → va_P G.2.1 zcl (zws G σ) H → va_D A (zws G σ) → va_S A H0 H locs → zRet M.2.1 M.2.2.2 pc v → W p l e R s m args below meth c H locs 0 0 Z (F0 m pc la v.toList))
/-- from pc on, with these locals and this stack, the method comes to its end with X -/
def PW (G : zG) (M : zMi) (fr : Nat) (X : zX) (pc : Nat) (ls : List (Option Value)) (st : List Value) (σ : zPH) : Prop :=
  ∀ (p : Program) (l : Launch) (e : Env) (R : Room) (s : State) (m : MethodId) (args : Array Value) (below : List Frame) (meth : Method) (c : Code) (Z : State → Prop) (A : Nat → Prop) (H0 : Heap), zC G M fr X p l e R s m args below meth c Z A H0 →
    ∀ (H : Heap) (la : Array Slot) (locs : List Loc), va_P G.2.1 zcl (zws G σ) H → va_D A (zws G σ) → va_S A H0 H locs → zHas la M.2.2.1 ls → W p l e R s m args below meth c H locs 0 0 Z (F0 m pc la st)
def zargs (n : Nat) (as : List Value) : List (Option Value) := (List.range n).map (fun j => ((lv_args 0 as).find? (fun q => q.1 == j)).map (·.2))
theorem zargs_in {n : Nat} {as : List Value} {j : Nat} {w : Value} (h : (zargs n as)[j]? = some (some w)) : (j, w) ∈ lv_args 0 as := by
  rw [zargs, List.getElem?_map] at h
  by_cases hj : j < n
  · rw [List.getElem?_range hj] at h
    simp only [Option.map_some, Option.some.injEq, Option.map_eq_some_iff] at h
    obtain ⟨⟨a, b⟩, h1, h2⟩ := h
    have h3 := List.find?_some h1
    have h4 := List.mem_of_find?_eq_some h1
    simp only [beq_iff_eq] at h3
    subst h3
    simp only at h2
    subst h2
    exact h4
  · rw [List.getElem?_eq_none (by simpa using hj)] at h
    cases h
