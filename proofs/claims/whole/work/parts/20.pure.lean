/-! the pure state: M j i is place i of row j; rows: 0 varIs, 1 varHas, 2 name, 3 sort, 4 many, 5 is, 6 has, 7 keys, 8 mark, 9 regName, 10 regTag, 11 waitName, 12 waitTag, 13 numbers (0 objects, 1 made, 2 registered, 3 waits, 4 runs) -/
abbrev MM : Type := Nat → Int → Int
def u2 (M : MM) (j : Nat) (i v : Int) : MM := fun j' i' => if j' = j ∧ i' = i then v else M j' i'
def lp {α : Type} (f : Nat → α → α) : Nat → α → α
  | 0, a => a
  | n + 1, a => f n (lp f n a)
def atR (M : MM) (h : Int) : Nat → Int
  | 0 => -1
  | o + 1 => if M 2 (o : Int) = h then (o : Int) else atR M h o
def aAt (M : MM) (h : Int) : Int := atR M h (M 13 0).toNat
def aObj (M : MM) (v : Int) : Int := if 0 ≤ v ∧ v ≤ 5 ∧ M 0 v = 9 then aAt M (M 1 v) else -1
def aObjOf (M : MM) (v s : Int) : Int := if 0 ≤ aObj M v ∧ M 3 (aObj M v) = s then aObj M v else -1
def aHold (M : MM) (v a b : Int) : MM := u2 (u2 M 0 v a) 1 v b
def aCells (M : MM) (o : Int) : Int := if M 3 o = 2 then 2 + M 4 o else if M 3 o = 3 then 3 else 8
def aCb (M : MM) : Nat → Int
  | 0 => 0
  | k + 1 => aCb M k + aCells M (k : Int)
def aUsed (M : MM) : Int := aCb M (M 13 0).toNat
-- marks
def bI (b : Bool) : Int := cond b 1 0
def aAdd (M : MM) (h : Int) : Bool × MM := if aAt M h < 0 ∨ ¬ M 8 (aAt M h) = 0 then (false, M) else (true, u2 M 8 (aAt M h) 1)
def aIsM (M : MM) (h : Int) : Bool := decide (0 ≤ aAt M h ∧ ¬ M 8 (aAt M h) = 0)
def aClear (M : MM) : MM := lp (fun o M => u2 M 8 (o : Int) 0) (M 13 0).toNat M
def aWaits (M : MM) : MM := lp (fun k M => (aAdd M (M 11 (k : Int))).2) (M 13 3).toNat M
def aVr (v : Nat) (M : MM) : MM := if M 0 (v : Int) = 9 then (aAdd M (M 1 (v : Int))).2 else M
def aVars (M : MM) : MM := lp aVr 6 M
def aRoots (M : MM) : MM := aWaits (aVars M)
def aCnt (all : Bool) (M : MM) (o f : Int) : Bool := decide (M 3 o = 2) || (decide (M 3 o = 4) && (all || aIsM M (M 7 (4 * o + f))))
def aSprF (all : Bool) (o f : Nat) (p : Bool × MM) : Bool × MM :=
  if ¬ p.2 8 (o : Int) = 0 ∧ aCnt all p.2 o f = true ∧ p.2 5 (4 * (o : Int) + f) = 9 then (p.1 || (aAdd p.2 (p.2 6 (4 * (o : Int) + f))).1, (aAdd p.2 (p.2 6 (4 * (o : Int) + f))).2) else p
def aSprO (all : Bool) (o : Nat) (p : Bool × MM) : Bool × MM := lp (aSprF all o) (p.2 4 (o : Int)).toNat p
def aSpr (all : Bool) (M : MM) : Bool × MM := lp (aSprO all) (M 13 0).toNat (false, M)
def aClo (all : Bool) : Nat → MM → MM
  | 0, M => M
  | r + 1, M => if (aSpr all M).1 then aClo all r (aSpr all M).2 else (aSpr all M).2
def aLsW (o : Nat) (M : MM) : MM := if M 3 (o : Int) = 3 ∧ M 5 (4 * (o : Int)) = 9 ∧ aIsM M (M 6 (4 * (o : Int))) = false then u2 (u2 M 5 (4 * (o : Int)) 0) 6 (4 * (o : Int)) 0 else M
def aLsE (o e : Nat) (p : Int × MM) : Int × MM := if aIsM p.2 (p.2 7 (4 * (o : Int) + e)) = true then (p.1 + 1, u2 (u2 (u2 p.2 7 (4 * (o : Int) + p.1) (p.2 7 (4 * (o : Int) + e))) 5 (4 * (o : Int) + p.1) (p.2 5 (4 * (o : Int) + e))) 6 (4 * (o : Int) + p.1) (p.2 6 (4 * (o : Int) + e))) else p
def aLsT (o : Nat) (M : MM) : MM := if M 3 (o : Int) = 4 then u2 (lp (aLsE o) (M 4 (o : Int)).toNat (0, M)).2 4 (o : Int) (lp (aLsE o) (M 4 (o : Int)).toNat (0, M)).1 else M
def aLsS (o : Nat) (M : MM) : MM := aLsT o (aLsW o M)
def aLoose (M : MM) : MM := lp aLsS (M 13 0).toNat M
def aCwK (k : Nat) (p : Int × MM) : Int × MM := if aIsM p.2 (p.2 9 (k : Int)) = true then (p.1 + 1, u2 (u2 p.2 9 p.1 (p.2 9 (k : Int))) 10 p.1 (p.2 10 (k : Int))) else (p.1, u2 (u2 (u2 p.2 11 (p.2 13 3) (p.2 9 (k : Int))) 12 (p.2 13 3) (p.2 10 (k : Int))) 13 3 (p.2 13 3 + 1))
def aCallW (M : MM) : MM := u2 (lp aCwK (M 13 2).toNat (0, M)).2 13 2 (lp aCwK (M 13 2).toNat (0, M)).1
def aSwF (o : Nat) (l : Int) (f : Nat) (M : MM) : MM := u2 (u2 (u2 M 5 (4 * l + f) (M 5 (4 * (o : Int) + f))) 6 (4 * l + f) (M 6 (4 * (o : Int) + f))) 7 (4 * l + f) (M 7 (4 * (o : Int) + f))
def aSwO (o : Nat) (p : Int × MM) : Int × MM := if ¬ p.2 8 (o : Int) = 0 then (p.1 + 1, lp (aSwF o p.1) 4 (u2 (u2 (u2 p.2 2 p.1 (p.2 2 (o : Int))) 3 p.1 (p.2 3 (o : Int))) 4 p.1 (p.2 4 (o : Int)))) else p
def aSweep (M : MM) : Int × MM := (M 13 0 - (lp aSwO (M 13 0).toNat (0, M)).1, u2 (lp aSwO (M 13 0).toNat (0, M)).2 13 0 (lp aSwO (M 13 0).toNat (0, M)).1)
def aC1 (M : MM) : MM := aClear (u2 M 13 4 (M 13 4 + 1))
def aC2 (M : MM) : MM := aClo false 21 (aRoots (aC1 M))
def aC3 (M : MM) : MM := aCallW (aLoose (aC2 M))
def aC4 (M : MM) : MM := aClo true 21 (aWaits (aC3 M))
def aColl (M : MM) : Int × MM := aSweep (aC4 M)
-- making
def aMkF (o : Int) (f : Nat) (M : MM) : MM := u2 (u2 (u2 M 5 (4 * o + f) 0) 6 (4 * o + f) 0) 7 (4 * o + f) 0
def aMkO (M : MM) (s n : Int) : MM := lp (aMkF (M 13 0)) 4 (u2 (u2 (u2 (u2 (u2 M 13 0 (M 13 0 + 1)) 13 1 (M 13 1 + 1)) 2 (M 13 0) (M 13 1 + 1)) 3 (M 13 0) s) 4 (M 13 0) n)
def aRoom (M : MM) (room : Int) : MM := if 60 < aUsed M + room then (aColl M).2 else M
def aMake (M : MM) (s n room : Int) : Int × MM := if 60 < aUsed (aRoom M room) + room then (-1, aRoom M room) else ((aRoom M room) 13 0, aMkO (aRoom M room) s n)
-- the calls: an answer and a state
def aNumber (M : MM) (v n : Int) : Int × MM := if v < 0 ∨ 5 < v ∨ n < -1000000 ∨ 1000000 < n then (0, M) else (1, aHold M v 1 n)
def aAssign (M : MM) (v w : Int) : Int × MM := if v < 0 ∨ 5 < v ∨ w < -1 ∨ 5 < w then (0, M) else (1, if w < 0 then aHold M v 0 0 else aHold M v (M 0 w) (M 1 w))
def aNew (M : MM) (v s n room : Int) (f : MM → Int → MM) : Int × MM := if (aMake M s n room).1 < 0 then (-2, (aMake M s n room).2) else ((aMake M s n room).2 2 (aMake M s n room).1, aHold (f (aMake M s n room).2 (aMake M s n room).1) v 9 ((aMake M s n room).2 2 (aMake M s n room).1))
def aVector (M : MM) (v n : Int) : Int × MM := if v < 0 ∨ 5 < v ∨ n < 1 ∨ 4 < n then (-1, M) else aNew M v 2 n (2 + n) (fun M _ => M)
def aWeak (M : MM) (v w : Int) : Int × MM := if v < 0 ∨ 5 < v ∨ aObj M w < 0 then (-1, M) else aNew M v 3 1 3 (fun M' o => u2 (u2 M' 5 (4 * o) 9) 6 (4 * o) (M' 1 w))
def aTable (M : MM) (v : Int) : Int × MM := if v < 0 ∨ 5 < v then (-1, M) else aNew M v 4 0 8 (fun M _ => M)
def aSet (M : MM) (v k w : Int) : Int × MM := if aObjOf M v 2 < 0 ∨ k < 0 ∨ M 4 (aObjOf M v 2) ≤ k ∨ w < 0 ∨ 5 < w then (0, M) else (1, u2 (u2 M 5 (4 * aObjOf M v 2 + k) (M 0 w)) 6 (4 * aObjOf M v 2 + k) (M 1 w))
def aGet (M : MM) (w v k : Int) : Int × MM := if w < 0 ∨ 5 < w ∨ aObj M v < 0 ∨ M 3 (aObj M v) = 4 ∨ k < 0 ∨ M 4 (aObj M v) ≤ k then (0, M) else (1, aHold M w (M 5 (4 * aObj M v + k)) (M 6 (4 * aObj M v + k)))
def entR (M : MM) (o key : Int) : Nat → Int
  | 0 => -1
  | e + 1 => if M 7 (4 * o + e) = key then (e : Int) else entR M o key e
def aEnt (M : MM) (o key : Int) : Int := entR M o key (M 4 o).toNat
def aPutAt (M : MM) (o e k w : Int) : MM := u2 (u2 (u2 M 7 (4 * o + e) (M 1 k)) 5 (4 * o + e) (M 0 w)) 6 (4 * o + e) (M 1 w)
def aPut (M : MM) (t k w : Int) : Int × MM := if aObjOf M t 4 < 0 ∨ aObj M k < 0 ∨ w < 0 ∨ 5 < w then (0, M) else
  if aEnt M (aObjOf M t 4) (M 1 k) < 0 then (if M 4 (aObjOf M t 4) = 3 then (0, M) else (1, aPutAt (u2 M 4 (aObjOf M t 4) (M 4 (aObjOf M t 4) + 1)) (aObjOf M t 4) (M 4 (aObjOf M t 4)) k w))
  else (1, aPutAt M (aObjOf M t 4) (aEnt M (aObjOf M t 4) (M 1 k)) k w)
def aFind (M : MM) (w t k : Int) : Int × MM := if aObjOf M t 4 < 0 ∨ aObj M k < 0 ∨ w < 0 ∨ 5 < w then (0, M) else
  if aEnt M (aObjOf M t 4) (M 1 k) < 0 then (1, aHold M w 0 0) else (1, aHold M w (M 5 (4 * aObjOf M t 4 + aEnt M (aObjOf M t 4) (M 1 k))) (M 6 (4 * aObjOf M t 4 + aEnt M (aObjOf M t 4) (M 1 k))))
def aIn (M : MM) (j : Nat) (h : Int) : Nat → Bool
  | 0 => false
  | q + 1 => decide (M j (q : Int) = h) || aIn M j h q
def aReg (M : MM) (v tag : Int) : Int × MM := if aObj M v < 0 ∨ tag < 0 ∨ 99 < tag ∨ 8 ≤ M 13 2 + M 13 3 ∨ aIn M 9 (M 2 (aObj M v)) (M 13 2).toNat = true ∨ aIn M 11 (M 2 (aObj M v)) (M 13 3).toNat = true then (0, M) else (1, u2 (u2 (u2 M 9 (M 13 2) (M 2 (aObj M v))) 10 (M 13 2) tag) 13 2 (M 13 2 + 1))
def aNxF (k : Nat) (M : MM) : MM := u2 (u2 M 11 (k : Int) (M 11 ((k : Int) + 1))) 12 (k : Int) (M 12 ((k : Int) + 1))
def aNext (M : MM) (v : Int) : Int × MM := if v < 0 ∨ 5 < v ∨ M 13 3 = 0 then (-1, M) else (M 12 0, lp aNxF (M 13 3 - 1).toNat (u2 (aHold M v 9 (M 11 0)) 13 3 (M 13 3 - 1)))
def aKind (M : MM) (v : Int) : Int := if v < 0 ∨ 5 < v then -1 else if 0 ≤ aObj M v then M 3 (aObj M v) else M 0 v
def aValue (M : MM) (v : Int) : Int := if 0 ≤ v ∧ v ≤ 5 ∧ M 0 v = 1 then M 1 v else 0
def aHash (M : MM) (v : Int) : Int := if 0 ≤ aObj M v then M 1 v else 0
def aPlace (M : MM) (v : Int) : Int := if aObj M v < 0 then -1 else aCb M (aObj M v).toNat
def aSize (M : MM) (v : Int) : Int := if aObj M v < 0 then -1 else if M 3 (aObj M v) = 3 then (if M 5 (4 * aObj M v) = 9 then 1 else 0) else M 4 (aObj M v)
