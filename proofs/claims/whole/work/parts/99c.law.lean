/-! THE LAW: what a call leaves of the other side; each answer is told once -/
theorem zCI_A {σ σ' V D : zPH} {t u : Nat} (f : zfA σ σ') (h : zCI σ V D t u) : zCI σ' V D t u :=
  h.to (fun q _ _ h3 => f q h3) (zLG_to h.2.2.2.1.1 (fun q h1 h2 => f q (by omega))) (zLG_to h.2.2.2.1.2 (fun q h1 h2 => f q (by omega)))
theorem zMI_B {σ σ' V D : zPH} (f : zfB σ σ') (h : zMI σ V D) : zMI σ' V D := by
  obtain ⟨h1, h2, h3, h4, h5⟩ := h
  have e := f 58 (by decide)
  refine ⟨h1.to (fun q a b => f q (by omega)) (fun k hk => by rw [e]), ?_, h3.to (fun q hq => f q (by omega)) (fun k hk => by rw [e]), ?_, h5.to (fun q a b => f q (by omega)) (by rw [e])⟩
  · unfold zMR at *; rw [e]; exact h2
  · unfold zMN at *; rw [e, f 71 (by decide)]; exact h4
theorem zMI_no {σ V D : zPH} (h : zMI σ V D) : ∀ e : Nat, (e : Int) < V 0 5 → V 5 e ≠ -1 := by
  intro e he
  have := h.2.2.2.2.2.2.2.2.1 e he
  omega
theorem zFee_u {D D' D'' : zPH} {a b c d e x y : Int} (h : zFee D a b c d e x D') (h' : zFee D a b c d e y D'') : x = y ∧ D' = D'' := by
  rcases h with ⟨p, rfl, rfl⟩ | ⟨p, rfl, rfl⟩ <;> rcases h' with ⟨p', rfl, rfl⟩ | ⟨p', rfl, rfl⟩ <;> first | exact ⟨rfl, rfl⟩ | exact absurd p p' | exact absurd p' p
theorem zEnf_u {D D' D'' : zPH} {n x y : Int} (h : zEnf D n x D') (h' : zEnf D n y D'') : x = y ∧ D' = D'' := by
  rcases h with ⟨p, rfl, rfl⟩ | ⟨p, rfl, rfl⟩ <;> rcases h' with ⟨p', rfl, rfl⟩ | ⟨p', rfl, rfl⟩ <;> first | exact ⟨rfl, rfl⟩ | exact absurd p p' | exact absurd p' p
theorem zTrn_u {V D D' D'' : zPH} {m x y : Int} (h : zTrn V D m x D') (h' : zTrn V D m y D'') : x = y ∧ D' = D'' := by
  rcases h with ⟨p, rfl, rfl⟩ | ⟨p, rfl, rfl⟩ <;> rcases h' with ⟨p', rfl, rfl⟩ | ⟨p', rfl, rfl⟩ <;> first | exact ⟨rfl, rfl⟩ | exact absurd p p' | exact absurd p' p
theorem zStt_u {V D D' D'' : zPH} {m x y : Int} (h : zStt V D m x D') (h' : zStt V D m y D'') : x = y ∧ D' = D'' := by
  rcases h with ⟨p, rfl, rfl⟩ | ⟨p, rfl, rfl⟩ <;> rcases h' with ⟨p', rfl, rfl⟩ | ⟨p', rfl, rfl⟩ <;> first | exact ⟨rfl, rfl⟩ | exact absurd p p' | exact absurd p' p
theorem zStp_u {V D D' D'' : zPH} {m x y : Int} (h : zStp V D m x D') (h' : zStp V D m y D'') : x = y ∧ D' = D'' := by
  rcases h with ⟨p, rfl, rfl⟩ | ⟨p, rfl, rfl⟩ <;> rcases h' with ⟨p', rfl, rfl⟩ | ⟨p', rfl, rfl⟩ <;> first | exact ⟨rfl, rfl⟩ | exact absurd p p' | exact absurd p' p
theorem zWsh_u {V D D' D'' : zPH} {e w x y : Int} (h : zWsh V D e w x D') (h' : zWsh V D e w y D'') : x = y ∧ D' = D'' := by
  rcases h with ⟨p, rfl, rfl⟩ | ⟨p, rfl, rfl⟩ <;> rcases h' with ⟨p', rfl, rfl⟩ | ⟨p', rfl, rfl⟩ <;> first | exact ⟨rfl, rfl⟩ | exact absurd p p' | exact absurd p' p
theorem zBck_u {V D D' D'' : zPH} {x y : Int} (h : zBck V D x D') (h' : zBck V D y D'') : x = y ∧ D' = D'' := by
  rcases h with ⟨p, rfl, rfl⟩ | ⟨p, rfl, rfl⟩ <;> rcases h' with ⟨p', rfl, rfl⟩ | ⟨p', rfl, rfl⟩ <;> first | exact ⟨rfl, rfl⟩ | exact absurd p p' | exact absurd p' p
theorem zOnn_u {V D D' D'' : zPH} {x y : Int} (h : zOnn V D x D') (h' : zOnn V D y D'') : x = y ∧ D' = D'' := by
  rcases h with ⟨p, rfl, rfl⟩ | ⟨p, rfl, rfl⟩ <;> rcases h' with ⟨p', rfl, rfl⟩ | ⟨p', rfl, rfl⟩ <;> first | exact ⟨rfl, rfl⟩ | exact absurd p p' | exact absurd p' p
theorem zIma_u {V D D' D'' : zPH} {x y : Int} (h : zIma V D x D') (h' : zIma V D y D'') : x = y ∧ D' = D'' := by
  obtain ⟨rfl, rfl⟩ := h
  obtain ⟨rfl, rfl⟩ := h'
  exact ⟨rfl, rfl⟩
theorem yRes_u {V D V' D' V'' D'' : zPH} {x y : Int} (h : yRes V D V' D' x) (h' : yRes V D V'' D'' y) : x = y ∧ V' = V'' ∧ D' = D'' := by
  unfold yRes at h h'
  split at h
  · next W k e => rw [e] at h'; obtain ⟨rfl, rfl, rfl⟩ := h; obtain ⟨rfl, rfl, rfl⟩ := h'; exact ⟨rfl, rfl, rfl⟩
  · next a b e => rw [e] at h'; obtain ⟨rfl, rfl, rfl⟩ := h; obtain ⟨rfl, rfl, rfl⟩ := h'; exact ⟨rfl, rfl, rfl⟩
theorem zSqr_u {V D : zPH} {c r w x y : Int} (h : zSqr V D c r w x) (h' : zSqr V D c r w y) : x = y := by
  rcases h with ⟨p, rfl⟩ | ⟨p, rfl⟩ <;> rcases h' with ⟨p', rfl⟩ | ⟨p', rfl⟩ <;> first | rfl | exact absurd p p' | exact absurd p' p
theorem zLgt_u {V D : zPH} {c r w x y : Int} (h : zLgt V D c r w x) (h' : zLgt V D c r w y) : x = y := by
  rcases h with ⟨p, q, rfl⟩ | ⟨p, rfl⟩ <;> rcases h' with ⟨p', q', rfl⟩ | ⟨p', rfl⟩ <;> first | rfl | exact absurd ⟨p, q⟩ p' | exact absurd ⟨p', q'⟩ p
theorem zLtt_u {V D : zPH} {c x y : Int} (h : zLtt V D c x) (h' : zLtt V D c y) : x = y := by
  rcases h with ⟨p, e1⟩ | ⟨p, e1⟩ <;> rcases h' with ⟨p', e2⟩ | ⟨p', e2⟩
  · exact e1.trans e2.symm
  · exact absurd p p'
  · exact absurd p' p
  · exact e1.trans e2.symm
theorem zSee_u {V D : zPH} {e x y : Int} (h : zSee V D e x) (h' : zSee V D e y) : x = y := by
  rcases h with ⟨p, rfl⟩ | ⟨p, rfl⟩ <;> rcases h' with ⟨p', rfl⟩ | ⟨p', rfl⟩ <;> first | rfl | exact absurd p p' | exact absurd p' p
theorem zRnd_u {V D : zPH} {w x y : Int} (h : zRnd V D w x) (h' : zRnd V D w y) : x = y := by
  rcases h with ⟨p, rfl⟩ | ⟨p, rfl⟩ | ⟨p, rfl⟩ | ⟨p, m⟩ | ⟨p, rfl⟩ <;> rcases h' with ⟨p', rfl⟩ | ⟨p', rfl⟩ | ⟨p', rfl⟩ | ⟨p', m'⟩ | ⟨p', rfl⟩ <;> first | rfl | exact zMn_u m m' | exact absurd p' (by omega)
theorem zDrw_u {V D : zPH} {e x y : Int} (h : zDrw V D e x) (h' : zDrw V D e y) : x = y := by
  rcases h with ⟨p, e1⟩ | ⟨p, e1⟩ <;> rcases h' with ⟨p', e2⟩ | ⟨p', e2⟩
  · exact e1.trans e2.symm
  · exact absurd p p'
  · exact absurd p' p
  · exact e1.trans e2.symm
theorem zMet_u {V D : zPH} {x y : Int} (h : zMet V D x) (h' : zMet V D y) : x = y := by
  rcases h with ⟨p, rfl⟩ | ⟨p, rfl⟩ <;> rcases h' with ⟨p', rfl⟩ | ⟨p', rfl⟩ <;> first | rfl | exact absurd p p' | exact absurd p' p
theorem zNed_u {V D : zPH} {c r x y : Int} (h : zNed V D c r x) (h' : zNed V D c r y) : x = y := by
  rcases h with ⟨p, rfl⟩ | ⟨p, rfl⟩ <;> rcases h' with ⟨p', rfl⟩ | ⟨p', rfl⟩ <;> first | rfl | exact absurd p p' | exact absurd p' p
theorem zSha_u {V D : zPH} {c r x y : Int} (h : zSha V D c r x) (h' : zSha V D c r y) : x = y := by
  rcases h with ⟨p, rfl⟩ | ⟨p, rfl⟩ <;> rcases h' with ⟨p', rfl⟩ | ⟨p', rfl⟩ <;> first | rfl | exact absurd p p' | exact absurd p' p
theorem zSwd_u {V D : zPH} {c r c' r' x y : Int} (h : zSwd V D c r c' r' x) (h' : zSwd V D c r c' r' y) : x = y := by
  rcases h with ⟨p, ⟨q, rfl⟩ | ⟨q, rfl⟩⟩ | ⟨p, rfl⟩ <;> rcases h' with ⟨p', ⟨q', rfl⟩ | ⟨q', rfl⟩⟩ | ⟨p', rfl⟩ <;> first | rfl | exact absurd p p' | exact absurd p' p | exact absurd q q' | exact absurd q' q
theorem zOct_u {D : zPH} {k x y : Int} (h : zOct D k x) (h' : zOct D k y) : x = y := by
  rcases h with ⟨p, rfl⟩ | ⟨p, rfl⟩ <;> rcases h' with ⟨p', rfl⟩ | ⟨p', rfl⟩ <;> first | rfl | exact absurd p p' | exact absurd p' p
theorem zd27_m (E : Int) {n m : Nat} (h : E / 27 ^ n = 0) (hm : n ≤ m) : E / 27 ^ m = 0 := by
  induction m with
  | zero => rw [show n = 0 by omega] at h; exact h
  | succ m ih =>
    by_cases q : n = m + 1
    · rw [← q]; exact h
    · rw [← zd27, ih (by omega)]; rfl
theorem zLen_u {E : Int} {L M : Nat} (h : E / 27 ^ L = 0 ∧ (L = 0 ∨ E / 27 ^ (L - 1) ≠ 0)) (h' : E / 27 ^ M = 0 ∧ (M = 0 ∨ E / 27 ^ (M - 1) ≠ 0)) : L = M := by
  rcases Nat.lt_trichotomy L M with q | q | q
  · rcases h'.2 with z | z
    · omega
    · exact absurd (zd27_m E h.1 (by omega)) z
  · exact q
  · rcases h.2 with z | z
    · omega
    · exact absurd (zd27_m E h'.1 (by omega)) z
theorem zLet_u {V : zPH} {e k x y : Int} (h : zLet V e k x) (h' : zLet V e k y) : x = y := by
  rcases h with ⟨p, L, hL, q⟩ | ⟨p, rfl⟩
  · rcases h' with ⟨-, M, hM, q'⟩ | ⟨p', -⟩
    · have := zLen_u hL hM
      subst this
      rcases q with ⟨q, rfl⟩ | ⟨q, rfl⟩ <;> rcases q' with ⟨q', rfl⟩ | ⟨q', rfl⟩ <;> first | rfl | exact absurd q q' | exact absurd q' q
    · exact absurd p p'
  · rcases h' with ⟨p', -⟩ | ⟨p', rfl⟩
    · exact absurd p' p
    · rfl
