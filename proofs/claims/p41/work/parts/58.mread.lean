/-- the packed own word of a number -/
def zoc (i : Int) : Int := if i = 0 then 1936292453 else if i = 1 then 1818324336 else if i = 2 then 120299659095922 else if i = 3 then 1751215206 else if i = 4 then 444199957363 else if i = 5 then 482955850605 else if i = 6 then 2002873452 else if i = 7 then 6650213 else if i = 8 then 32484475995972978 else if i = 9 then 1986096741 else if i = 10 then 24948 else if i = 11 then 2003330414 else if i = 12 then 7497060 else if i = 13 then 444300879214 else if i = 14 then 1651275109 else if i = 15 then 512852849765 else if i = 16 then 30064 else if i = 17 then 491394656372 else if i = 18 then 1685026670 else if i = 19 then 1818584692 else if i = 20 then 495739564904 else if i = 21 then 1650549611 else if i = 22 then 28530 else if i = 23 then 6385252 else if i = 24 then 7237492 else if i = 25 then 6384748 else if i = 26 then 1936024947 else 0
theorem zoc_s {w : Int} (h : zow w ≠ -1) : zoc (zow w) = w := by
  unfold zow at h ⊢
  by_cases q0 : w = 1936292453
  · rw [if_pos q0, q0]; rfl
  rw [if_neg q0] at h ⊢
  by_cases q1 : w = 1818324336
  · rw [if_pos q1, q1]; rfl
  rw [if_neg q1] at h ⊢
  by_cases q2 : w = 120299659095922
  · rw [if_pos q2, q2]; rfl
  rw [if_neg q2] at h ⊢
  by_cases q3 : w = 1751215206
  · rw [if_pos q3, q3]; rfl
  rw [if_neg q3] at h ⊢
  by_cases q4 : w = 444199957363
  · rw [if_pos q4, q4]; rfl
  rw [if_neg q4] at h ⊢
  by_cases q5 : w = 482955850605
  · rw [if_pos q5, q5]; rfl
  rw [if_neg q5] at h ⊢
  by_cases q6 : w = 2002873452
  · rw [if_pos q6, q6]; rfl
  rw [if_neg q6] at h ⊢
  by_cases q7 : w = 6650213
  · rw [if_pos q7, q7]; rfl
  rw [if_neg q7] at h ⊢
  by_cases q8 : w = 32484475995972978
  · rw [if_pos q8, q8]; rfl
  rw [if_neg q8] at h ⊢
  by_cases q9 : w = 1986096741
  · rw [if_pos q9, q9]; rfl
  rw [if_neg q9] at h ⊢
  by_cases q10 : w = 24948
  · rw [if_pos q10, q10]; rfl
  rw [if_neg q10] at h ⊢
  by_cases q11 : w = 2003330414
  · rw [if_pos q11, q11]; rfl
  rw [if_neg q11] at h ⊢
  by_cases q12 : w = 7497060
  · rw [if_pos q12, q12]; rfl
  rw [if_neg q12] at h ⊢
  by_cases q13 : w = 444300879214
  · rw [if_pos q13, q13]; rfl
  rw [if_neg q13] at h ⊢
  by_cases q14 : w = 1651275109
  · rw [if_pos q14, q14]; rfl
  rw [if_neg q14] at h ⊢
  by_cases q15 : w = 512852849765
  · rw [if_pos q15, q15]; rfl
  rw [if_neg q15] at h ⊢
  by_cases q16 : w = 30064
  · rw [if_pos q16, q16]; rfl
  rw [if_neg q16] at h ⊢
  by_cases q17 : w = 491394656372
  · rw [if_pos q17, q17]; rfl
  rw [if_neg q17] at h ⊢
  by_cases q18 : w = 1685026670
  · rw [if_pos q18, q18]; rfl
  rw [if_neg q18] at h ⊢
  by_cases q19 : w = 1818584692
  · rw [if_pos q19, q19]; rfl
  rw [if_neg q19] at h ⊢
  by_cases q20 : w = 495739564904
  · rw [if_pos q20, q20]; rfl
  rw [if_neg q20] at h ⊢
  by_cases q21 : w = 1650549611
  · rw [if_pos q21, q21]; rfl
  rw [if_neg q21] at h ⊢
  by_cases q22 : w = 28530
  · rw [if_pos q22, q22]; rfl
  rw [if_neg q22] at h ⊢
  by_cases q23 : w = 6385252
  · rw [if_pos q23, q23]; rfl
  rw [if_neg q23] at h ⊢
  by_cases q24 : w = 7237492
  · rw [if_pos q24, q24]; rfl
  rw [if_neg q24] at h ⊢
  by_cases q25 : w = 6384748
  · rw [if_pos q25, q25]; rfl
  rw [if_neg q25] at h ⊢
  by_cases q26 : w = 1936024947
  · rw [if_pos q26, q26]; rfl
  rw [if_neg q26] at h ⊢
  exact absurd rfl h
theorem ztK_r (T : Nat → Int) (n p : Nat) : 0 ≤ ztK T n p ∧ ztK T n p ≤ 5 := by
  unfold ztK
  split
  · decide
  · split
    · split
      · decide
      · split
        · decide
        · split <;> decide
    · split
      · split
        · decide
        · split <;> decide
      · decide
section MJ
variable {G : zG} {σ V D : zPH} {X : zX}
end MJ
