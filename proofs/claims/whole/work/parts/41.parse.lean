/-! ===== the two languages, as they are meant: from tokens (codes c, numbers v) to what they say ===== -/
abbrev DS : Type := (Nat → Int64) → Option Int64
abbrev DB : Type := (Nat → Int64) → Option Bool
/-- at which token it can't go on; or the next token, how many leaves were read, what it says -/
abbrev PR (α : Type) : Type := Nat ⊕ (Nat × Nat × α)
def bnd (x : Int64) : Option Int64 := if 1000000000 < x ∨ x < -1000000000 then none else some x
def bin (f : Int64 → Int64 → Option Int64) (A B : DS) : DS := fun e => (A e).bind (fun x => (B e).bind (fun y => f x y))
def orD (A B : DB) : DB := fun e => (A e).bind (fun x => if x then some true else B e)
def andD (A B : DB) : DB := fun e => (A e).bind (fun x => if x then B e else some false)
def notD (n : Bool) (A : DB) : DB := fun e => (A e).map (fun x => x != n)
def cmpD (k : Int32) (A B : DS) : DB := fun e => (A e).bind (fun x => (B e).bind (fun y => some (if k = 160 then decide (x < y) else if k = 162 then decide (y < x) else decide (x = y))))
def fS (c : Int32) (x y : Int64) : Option Int64 := bnd (if c = 143 then x + y else x - y)
def fM (c : Int32) (x y : Int64) : Option Int64 := if c = 142 then bnd (x * y) else if y = 0 then none else bnd (if c = 147 then x / y else jlrem x y)
def opS (c : Int32) : Option (DS → DS → DS) := if c = 143 ∨ c = 145 then some (bin (fS c)) else none
def opM (c : Int32) : Option (DS → DS → DS) := if c = 142 ∨ c = 147 ∨ c = 137 then some (bin (fM c)) else none
def opO (c : Int32) : Option (DB → DB → DB) := if c = 5 then some orD else none
def opA (c : Int32) : Option (DB → DB → DB) := if c = 6 then some andD else none
/-- items with signs between them -/
def pJ {α : Type} (op : Int32 → Option (α → α → α)) (c : Nat → Int32) (item : Nat → Nat → PR α) : Nat → Nat → Nat → α → PR α
  | 0, i, l, A => .inr (i, l, A)
  | n + 1, i, l, A => match op (c i) with
    | none => .inr (i, l, A)
    | some f => match item (i + 1) l with
      | .inl e => .inl e
      | .inr (j, l', B) => pJ op c item n j l' (f A B)
def pSeq {α : Type} (op : Int32 → Option (α → α → α)) (c : Nat → Int32) (item : Nat → Nat → PR α) (i l : Nat) : PR α := match item i l with
  | .inl e => .inl e
  | .inr (j, l', A) => pJ op c item 401 j l' A
/-- what stands in brackets -/
def pBr {α : Type} (c : Nat → Int32) (close : Int32) (br : Option (Nat → Nat → PR α)) (i l : Nat) : PR α := match br with
  | none => .inl i
  | some p => match p (i + 1) l with
    | .inl e => .inl e
    | .inr (j, l', A) => if c j = close then .inr (j + 1, l', A) else .inl j
def fw (o : Bool) : Int32 := if o then 16 else 8
def lw (o : Bool) : Int32 := if o then 21 else 15
/-- a word with a number behind it -/
def pNum (c v : Nat → Int32) (i l at' hi : Nat) : PR DS := if c i = 50 ∧ 0 ≤ v i ∧ v i ≤ nI hi then .inr (i + 1, l, fun e => some (e (at' + (v i).toNatClampNeg))) else .inl i
def pLeaf (o : Bool) (c v : Nat → Int32) (i l : Nat) : PR DS :=
  if (c i = 50 ∧ v i ≤ 1000) ∨ (fw o ≤ c i ∧ c i ≤ lw o) then
    if l = 50 then .inl i
    else if c i = 20 then pNum c v (i + 1) (l + 1) 4 7
    else if c i = 21 then pNum c v (i + 1) (l + 1) 12 3
    else .inr (i + 1, l + 1, if c i = 50 then (fun _ => some (i2l (v i))) else fun e => some (e (c i - fw o).toNatClampNeg))
  else .inl i
def pPart (o : Bool) (c v : Nat → Int32) (br : Option (Nat → Nat → PR DS)) (i l : Nat) : PR DS := if c i = 191 then pBr c 193 br i l else pLeaf o c v i l
def pSumB (o : Bool) (c v : Nat → Int32) (br : Option (Nat → Nat → PR DS)) : Nat → Nat → PR DS := pSeq opS c (pSeq opM c (pPart o c v br))
/-- sums; so many brackets may still open -/
def pSum (o : Bool) (c v : Nat → Int32) : Nat → Nat → Nat → PR DS
  | 0 => pSumB o c v none
  | d + 1 => pSumB o c v (some (pSum o c v d))
def pCmp (c : Nat → Int32) (p : Nat → Nat → PR DS) (i l : Nat) : PR DB := match p i l with
  | .inl e => .inl e
  | .inr (j, l1, A) => if c j = 160 ∨ c j = 162 ∨ c j = 161 then match p (j + 1) l1 with
      | .inl e => .inl e
      | .inr (k, l2, B) => .inr (k, l2, cmpD (c j) A B)
    else .inl j
def pPos (c : Nat → Int32) (p : Nat → Nat → PR DS) (br : Option (Nat → Nat → PR DB)) (i l : Nat) : PR DB := if c i = 140 then pBr c 141 br i l else pCmp c p i l
/-- how many nots stand there -/
def pNots (c : Nat → Int32) : Nat → Nat → Nat × Bool
  | 0, i => (i, false)
  | n + 1, i => if c i = 7 then ((pNots c n (i + 1)).1, !(pNots c n (i + 1)).2) else (i, false)
def pPlain (c : Nat → Int32) (p : Nat → Nat → PR DS) (br : Option (Nat → Nat → PR DB)) (i l : Nat) : PR DB := match pPos c p br (pNots c 401 i).1 l with
  | .inl e => .inl e
  | .inr (j, l', A) => .inr (j, l', notD (pNots c 401 i).2 A)
def pTestB (c : Nat → Int32) (p : Nat → Nat → PR DS) (br : Option (Nat → Nat → PR DB)) : Nat → Nat → PR DB := pSeq opO c (pSeq opA c (pPlain c p br))
def pTest (o : Bool) (c v : Nat → Int32) : Nat → Nat → Nat → PR DB
  | 0 => pTestB c (pSum o c v 0) none
  | d + 1 => pTestB c (pSum o c v (d + 1)) (some (pTest o c v d))
/-- a clause or an order: its head, its sums, how many times, its test -/
abbrev CLS : Type := Int32 × DS × DS × Int32 × DB
def pIf (o : Bool) (c v : Nat → Int32) (h : Int32) (A B : DS) (t : Int32) (i l : Nat) : PR CLS :=
  if c i = 4 then match pTest o c v 8 (i + 1) l with
    | .inl e => .inl e
    | .inr (j, l', C) => .inr (j, l', h, A, B, t, C)
  else .inr (i, l, h, A, B, t, fun _ => some true)
def pTimes (o : Bool) (c v : Nat → Int32) (h : Int32) (A B : DS) (i l : Nat) : PR CLS :=
  if c i = 25 then (if c (i + 1) = 50 ∧ 1 ≤ v (i + 1) ∧ v (i + 1) ≤ 20 then pIf o c v h A B (v (i + 1)) (i + 2) l else .inl (i + 1))
  else pIf o c v h A B 1 i l
def d1 : DS := fun _ => some 1
def pClause (c v : Nat → Int32) (i l : Nat) : PR CLS :=
  if c i = 1 ∨ c i = 2 then match pSum false c v 8 (i + 1) l with
    | .inl e => .inl e
    | .inr (j, l', A) => pIf false c v (c i) A d1 1 j l'
  else if c i = 3 then pIf false c v 3 d1 d1 1 (i + 1) l
  else .inl i
def pOrder (c v : Nat → Int32) (i l : Nat) : PR CLS :=
  if c i = 22 then match pSum true c v 8 (i + 1) l with
    | .inl e => .inl e
    | .inr (j, l1, A) => if c j = 23 then match pSum true c v 8 (j + 1) l1 with
        | .inl e => .inl e
        | .inr (k, l2, B) => pTimes true c v 22 A B k l2
      else .inl j
  else if c i = 24 then pTimes true c v 24 d1 d1 (i + 1) l
  else .inl i
def pOne (o : Bool) (c v : Nat → Int32) : Nat → Nat → PR CLS := if o then pOrder c v else pClause c v
/-- .. with ; between them: so many more may come -/
def pMore (o : Bool) (c v : Nat → Int32) (N : Nat) : Nat → Nat → Nat → Nat ⊕ List CLS
  | 0, i, _ => if c i = 159 then .inl (i + 1) else if i < N then .inl i else .inr []
  | n + 1, i, l => if c i = 159 then match pOne o c v (i + 1) l with
      | .inl e => .inl e
      | .inr (j, l', x) => match pMore o c v N n j l' with
        | .inl e => .inl e
        | .inr xs => .inr (x :: xs)
    else if i < N then .inl i else .inr []
def pAll (o : Bool) (c v : Nat → Int32) (N : Nat) : Nat ⊕ List CLS := match pOne o c v 0 0 with
  | .inl e => .inl e
  | .inr (j, l', x) => match pMore o c v N 11 j l' with
    | .inl e => .inl e
    | .inr xs => .inr (x :: xs)
