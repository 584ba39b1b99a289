/-! What board() reads: W the board under construction (rows as V; row 0 7 the code's length; 13, 14 the name asked and its place), p the place behind the token ahead -/
abbrev zPR : Type := (zPH × Nat) ⊕ (Int × Int)
def ybn (r : zPR) (f : zPH → Nat → zPR) : zPR := match r with
  | .inl (W, p) => f W p
  | .inr e => .inr e
/-- no BOARD goes on with this token -/
def yNo (T : Nat → Int) (n p : Nat) : zPR := .inr (1, (ztF T n p : Int))
abbrev yIs (T : Nat → Int) (n p : Nat) (k v : Int) : Prop := ztK T n p = k ∧ ztV T n p = v

def yEx (T : Nat → Int) (n : Nat) (k v : Int) (W : zPH) (p : Nat) : zPR := if yIs T n p k v then .inl (W, ztE T n p) else yNo T n p
def yNum (T : Nat → Int) (n : Nat) (lo hi : Int) (f : Int → zPH → Nat → zPR) (W : zPH) (p : Nat) : zPR := if ztK T n p ≠ 2 then yNo T n p else if ztV T n p < lo ∨ hi < ztV T n p then .inr (2, (ztS T n p : Int)) else f (ztV T n p) W (ztE T n p)
def yCh (T : Nat → Int) (n : Nat) (a b : Int) (f : Int → zPH → Nat → zPR) (W : zPH) (p : Nat) : zPR := if ztK T n p = 0 ∧ a ≤ ztV T n p ∧ ztV T n p ≤ b then f (ztV T n p - a) W (ztE T n p) else yNo T n p
def yco (x : Int) : Int := if x = 3 then 7 else 2 ^ x.toNat
def ySize (T : Nat → Int) (n : Nat) (W : zPH) (p : Nat) : zPR := ybn (yEx T n 0 0 W p) (yNum T n 2 12 (fun c => yNum T n 2 12 (fun r W p => .inl (zupd (zupd W 0 0 c) 0 1 r, p))))
def ySq (T : Nat → Int) (n : Nat) (f : Nat → zPH → Nat → zPR) (W : zPH) (p : Nat) : zPR := ybn (yEx T n 0 10 W p) (fun W p1 => yNum T n 0 (W 0 0 - 1) (fun c W p2 => if ztK T n p2 ≠ 2 then yNo T n p2 else if ztV T n p2 < 0 ∨ W 0 1 - 1 < ztV T n p2 then .inr (2, (ztS T n p2 : Int)) else if W 1 (zqo c (ztV T n p2)) ≠ 0 then .inr (3, (ztS T n p1 : Int)) else f (zqo c (ztV T n p2)) W (ztE T n p2)) W p1)
/-- a piece's group in row 0, none for glass, prism, wall -/
def ygr (s : Int) : Nat := if s = 1 then 2 else if s = 2 ∨ s = 3 then 3 else if s = 8 ∨ s = 9 then 4 else if s = 7 then 5 else 8
def ymx (g : Nat) : Int := if g = 4 then 6 else 8
def yput (W : zPH) (s f w : Int) (q : Nat) : zPH := fun r k =>
  if r = 0 then (if k = 6 then W 0 6 + 1 else if k = ygr s then W 0 k + 1 else W 0 k)
  else if r = 1 ∧ k = q then s
  else if r = 2 ∧ k = q then (if ygr s = 8 then -1 else W 0 (ygr s))
  else if r = 3 ∧ k = q then f
  else if r = 4 ∧ k = q then w
  else if r = 5 ∧ s = 7 ∧ (k : Int) = W 0 5 then (q : Int)
  else if r = 6 ∧ (s = 8 ∨ s = 9) ∧ (k : Int) = W 0 4 then (q : Int)
  else if r = 12 ∧ s = 1 ∧ (k : Int) = W 0 2 then (q : Int)
  else if r = 8 ∧ (s = 8 ∨ s = 9) ∧ (k : Int) = W 0 4 then W 0 7
  else W r k
/-- a part of the code -/
def yadd (W : zPH) (s c : Int) : zPH := zupd (zupd (zupd (zupd W 9 (W 0 7).toNat s) 10 (W 0 7).toNat c) 11 (W 0 7).toNat 0) 0 7 (W 0 7 + 1)
def yask (W : zPH) (e at0 : Int) : zPH := zupd (zupd W 13 (W 0 7).toNat e) 14 (W 0 7).toNat at0
def ySees (T : Nat → Int) (n : Nat) (W : zPH) (p : Nat) : zPR := if ztK T n p ≠ 1 then yNo T n p else yCh T n 12 15 (fun c W p => .inl (yadd W 1 (yco c), p)) (yask W (ztV T n p) (ztS T n p)) (ztE T n p)
/-- facts joined by and; by or -/
def yAnds (T : Nat → Int) (n : Nat) (fact : zPH → Nat → zPR) : Nat → Bool → zPH → Nat → zPR
  | 0, _, W, p => .inl (W, p)
  | f + 1, k, W, p => ybn (fact W p) (fun W p => if yIs T n p 0 23 then yAnds T n fact f true (if k then yadd W 2 0 else W) (ztE T n p) else .inl (if k then yadd W 2 0 else W, p))
def yOrs (T : Nat → Int) (n : Nat) (both : zPH → Nat → zPR) : Nat → Bool → zPH → Nat → zPR
  | 0, _, W, p => .inl (W, p)
  | f + 1, k, W, p => ybn (both W p) (fun W p => if yIs T n p 0 22 then yOrs T n both f true (if k then yadd W 3 0 else W) (ztE T n p) else .inl (if k then yadd W 3 0 else W, p))
def yTest (T : Nat → Int) (n : Nat) (fact : zPH → Nat → zPR) (W : zPH) (p : Nat) : zPR := yOrs T n (yAnds T n fact 1600 false) 1600 false W p
def yFact (T : Nat → Int) (n : Nat) : Nat → zPH → Nat → zPR
  | 0, W, p => if yIs T n p 0 24 ∨ yIs T n p 3 91 then .inr (4, (ztS T n p : Int)) else if yIs T n p 0 26 then ySees T n W (ztE T n p) else ybn (yEx T n 0 25 W p) (fun W p => .inl (yadd W 0 0, p))
  | d + 1, W, p => if yIs T n p 0 24 then ybn (yFact T n d W (ztE T n p)) (fun W p => .inl (yadd W 4 0, p)) else if yIs T n p 3 91 then ybn (yTest T n (yFact T n d) W (ztE T n p)) (yEx T n 3 93) else if yIs T n p 0 26 then ySees T n W (ztE T n p) else ybn (yEx T n 0 25 W p) (fun W p => .inl (yadd W 0 0, p))
/-- an eye of that name, -1 without -/
def yeN (W : zPH) (e : Int) : Nat → Int
  | 0 => -1
  | k + 1 => if yeN W e k ≠ -1 then yeN W e k else if W 20 k = e then (k : Int) else -1
def yName (T : Nat → Int) (n : Nat) (W : zPH) (p : Nat) : zPR := if ztK T n p ≠ 1 then yNo T n p else if yeN W (ztV T n p) (W 0 5).toNat ≠ -1 then .inr (3, (ztS T n p : Int)) else .inl (zupd W 20 (W 0 5).toNat (ztV T n p), ztE T n p)
def yfrom (W : zPH) : zPH := zupd W 7 (W 0 4).toNat (W 0 7)
/-- a piece, from its own word on -/
def yPiece (T : Nat → Int) (n : Nat) (W : zPH) (p : Nat) : zPR :=
  if ¬ (ztK T n p = 0 ∧ 1 ≤ ztV T n p ∧ ztV T n p ≤ 9) then yNo T n p
  else if ygr (ztV T n p) ≠ 8 ∧ ymx (ygr (ztV T n p)) ≤ W 0 (ygr (ztV T n p)) then .inr (5, (ztS T n p : Int))
  else if ztV T n p = 1 then yCh T n 12 15 (fun c => yCh T n 16 19 (fun w => ySq T n (fun q W p => .inl (yput W 1 (yco c) w q, p)))) W (ztE T n p)
  else if ztV T n p = 2 ∨ ztV T n p = 3 then yCh T n 20 21 (fun f => ySq T n (fun q W p' => .inl (yput W (ztV T n p) f (-1) q, p'))) W (ztE T n p)
  else if ztV T n p = 4 then yCh T n 12 15 (fun c => ySq T n (fun q W p => .inl (yput W 4 (yco c) (-1) q, p))) W (ztE T n p)
  else if ztV T n p = 5 ∨ ztV T n p = 6 then ySq T n (fun q W p' => .inl (yput W (ztV T n p) (-1) (-1) q, p')) W (ztE T n p)
  else if ztV T n p = 7 then ybn (yName T n W (ztE T n p)) (ySq T n (fun q W p => .inl (yput W 7 (-1) (-1) q, p)))
  else if ztV T n p = 8 then ybn (yEx T n 0 11 W (ztE T n p)) (fun W p => ybn (yTest T n (yFact T n 6) (yfrom W) p) (ySq T n (fun q W p => .inl (yput W 8 0 (-1) q, p))))
  else yCh T n 20 21 (fun f W p => ybn (yEx T n 0 11 W p) (fun W p => ybn (yTest T n (yFact T n 6) (yfrom W) p) (ySq T n (fun q W p => .inl (yput W 9 f (-1) q, p))))) W (ztE T n p)
/-- statements from the second on -/
def yMore (T : Nat → Int) (n : Nat) : Nat → Nat → zPH → Nat → (zPH × Nat × Nat) ⊕ (Int × Int)
  | 0, _, _, p => .inr (5, (ztS T n p : Int))
  | f + 1, k, W, p => if ztK T n p = 4 then .inl (W, p, k) else if k = 60 then .inr (5, (ztS T n p : Int)) else match ybn (yPiece T n W p) (yEx T n 3 59) with
    | .inl (W, p) => yMore T n f (k + 1) W p
    | .inr e => .inr e
/-- eyes of the tests -/
def yEyes (W : zPH) : Nat → zPH ⊕ (Int × Int)
  | 0 => .inl W
  | k + 1 => match yEyes W k with
    | .inr e => .inr e
    | .inl W' => if W 9 k ≠ 1 then .inl W' else if yeN W (W 13 k) (W 0 5).toNat = -1 then .inr (6, W 14 k) else .inl (zupd W' 11 k (yeN W (W 13 k) (W 0 5).toNat))
def yW0 : zPH := fun _ _ => 0
/-- the whole text -/
def yAll (T : Nat → Int) (n : Nat) : (zPH × Nat) ⊕ (Int × Int) := match ybn (ySize T n yW0 0) (yEx T n 3 59) with
  | .inr e => .inr e
  | .inl (W, p) => match yMore T n 61 1 W p with
    | .inr e => .inr e
    | .inl (W, _, k) => match yEyes W (W 0 7).toNat with
      | .inr e => .inr e
      | .inl W' => .inl (W', k)
