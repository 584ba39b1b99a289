/-- D behind a board() that reads a board; that finds a fault -/
def yDn (D : zPH) : zPH := fun r k => if r = 0 then (if k ≤ 4 then 0 else if k = 5 then -1 else D 0 k) else if r = 1 then 0 else D r k
def yDf (D : zPH) (e pl : Int) : zPH := fun r k => if r = 0 then (if k = 3 then 0 else if k = 4 then e else if k = 5 then pl else D 0 k) else D r k
/-- what board() does -/
def yRes (V D V' D' : zPH) (x : Int) : Prop := match yAll (fun k => D 4 k) (D 0 3).toNat with
  | .inl (W, k) => x = (k : Int) ∧ V' = W ∧ D' = yDn D
  | .inr (e, pl) => x = -1 ∧ V' = V ∧ D' = yDf D e pl
section MB1
variable {G : zG} {σ V D W : zPH} {X : zX} {T : Nat → Int} {n i : Nat}
end MB1
