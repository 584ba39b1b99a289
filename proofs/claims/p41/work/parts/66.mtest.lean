section MU
variable {G : zG} {X : zX} {mover : Int} {T : Nat → Int} {n i : Nat}
theorem tSimple {d : Nat} {W : zPH} {p : Nat} (q1 : ¬ yIs T n p 0 24) (q2 : ¬ yIs T n p 3 91) : yFact T n d W p = if yIs T n p 0 26 then ySees T n W (ztE T n p) else ybn (yEx T n 0 25 W p) (fun W p => .inl (yadd W 0 0, p)) := by
  cases d with
  | zero => unfold yFact; rw [if_neg (fun z => z.elim q1 q2)]
  | succ d => unfold yFact; rw [if_neg q1, if_neg q2]
end MU
