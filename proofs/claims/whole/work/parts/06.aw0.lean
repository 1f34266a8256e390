/-! A pure machine: typed values, cells, heaps; programs as functions of a heap; and what it means that the bytecode does as such a program says. -/
abbrev TV : Type := Int32 ⊕ Int64 ⊕ Option Nat ⊕ Unit
abbrev vi (x : Int32) : TV := .inl x
abbrev vl (x : Int64) : TV := .inr (.inl x)
abbrev vr (r : Option Nat) : TV := .inr (.inr (.inl r))
abbrev vu : TV := .inr (.inr (.inr ()))
def toV : TV → Value
  | .inl x => .int x
  | .inr (.inl x) => .long x
  | .inr (.inr (.inl r)) => va_rf r
  | .inr (.inr (.inr _)) => .null
def isU : TV → Bool
  | .inr (.inr (.inr _)) => true
  | _ => false
def isW : TV → Bool
  | .inr (.inl _) => true
  | _ => false
def catT : TV → Nat
  | .inr (.inl _) => 2
  | _ => 1
theorem cat_toV (v : TV) : (toV v).category = catT v := by
  rcases v with x | x | r | u
  · rfl
  · rfl
  · cases r <;> rfl
  · rfl
abbrev AC : Type := (Nat × List TV) ⊕ (Nat × List Int32) ⊕ (List Int64) ⊕ (Nat × List (Option Nat))
abbrev ob (ci : Nat) (fs : List TV) : AC := .inl (ci, fs)
abbrev ai (t : Nat) (xs : List Int32) : AC := .inr (.inl (t, xs))
abbrev al (xs : List Int64) : AC := .inr (.inr (.inl xs))
abbrev aq (t : Nat) (xs : List (Option Nat)) : AC := .inr (.inr (.inr (t, xs)))
/-- cells by address; the next address; how many slots were made so far -/
abbrev Hp : Type := (Nat → Option AC) × Nat × Nat
abbrev Mo (R : Type) : Type := Hp → Option (R × Hp)
def up (h : Hp) (a : Nat) (c : AC) : Hp := (fun b => if b = a then some c else h.1 b, h.2)
def mk (h : Hp) (c : AC) (n : Nat) : Hp := (fun b => if b = h.2.1 then some c else h.1 b, h.2.1 + 1, h.2.2 + n)
def rn {R : Type} (r : R) : Mo R := fun h => some (r, h)
def fl {R : Type} : Mo R := fun _ => none
def bd {A B : Type} (p : Mo A) (k : A → Mo B) : Mo B := fun h => match p h with
  | some (r, h') => k r h'
  | none => none
/-- the object at r, if it is one of kind ci -/
def obOf (h : Hp) (r : Option Nat) (ci : Nat) : Option (Nat × List TV) := match r with
  | none => none
  | some a => match h.1 a with
    | some (.inl (c, fs)) => if c = ci then some (a, fs) else none
    | _ => none
def gI (r : Option Nat) (ci k : Nat) : Mo Int32 := fun h => match obOf h r ci with
  | some (_, fs) => match fs[k]? with
    | some (.inl x) => some (x, h)
    | _ => none
  | none => none
def gL (r : Option Nat) (ci k : Nat) : Mo Int64 := fun h => match obOf h r ci with
  | some (_, fs) => match fs[k]? with
    | some (.inr (.inl x)) => some (x, h)
    | _ => none
  | none => none
def gA (r : Option Nat) (ci k : Nat) : Mo (Option Nat) := fun h => match obOf h r ci with
  | some (_, fs) => match fs[k]? with
    | some (.inr (.inr (.inl x))) => some (x, h)
    | _ => none
  | none => none
def pF (r : Option Nat) (ci k : Nat) (v : TV) : Mo Unit := fun h => match obOf h r ci with
  | some (a, fs) => if k < fs.length then some ((), up h a (ob ci (fs.set k v))) else none
  | none => none
def iaOf (h : Hp) (r : Option Nat) (t : Nat) : Option (Nat × List Int32) := match r with
  | none => none
  | some a => match h.1 a with
    | some (.inr (.inl (t', xs))) => if t' = t then some (a, xs) else none
    | _ => none
def laOf (h : Hp) (r : Option Nat) : Option (Nat × List Int64) := match r with
  | none => none
  | some a => match h.1 a with
    | some (.inr (.inr (.inl xs))) => some (a, xs)
    | _ => none
def qaOf (h : Hp) (r : Option Nat) (t : Nat) : Option (Nat × List (Option Nat)) := match r with
  | none => none
  | some a => match h.1 a with
    | some (.inr (.inr (.inr (t', xs)))) => if t' = t then some (a, xs) else none
    | _ => none
/-- int (t = 0) and boolean (t = 2) arrays -/
def ldI (t : Nat) (r : Option Nat) (i : Int32) : Mo Int32 := fun h => match iaOf h r t with
  | some (_, xs) => if i < 0 ∨ xs.length ≤ i.toNatClampNeg then none else some (xs.getD i.toNatClampNeg 0, h)
  | none => none
def ldL (r : Option Nat) (i : Int32) : Mo Int64 := fun h => match laOf h r with
  | some (_, xs) => if i < 0 ∨ xs.length ≤ i.toNatClampNeg then none else some (xs.getD i.toNatClampNeg 0, h)
  | none => none
def ldQ (t : Nat) (r : Option Nat) (i : Int32) : Mo (Option Nat) := fun h => match qaOf h r t with
  | some (_, xs) => if i < 0 ∨ xs.length ≤ i.toNatClampNeg then none else some (xs.getD i.toNatClampNeg none, h)
  | none => none
def stI (r : Option Nat) (i x : Int32) : Mo Unit := fun h => match iaOf h r 0 with
  | some (a, xs) => if i < 0 ∨ xs.length ≤ i.toNatClampNeg then none else some ((), up h a (ai 0 (xs.set i.toNatClampNeg x)))
  | none => none
def stZ (r : Option Nat) (i x : Int32) : Mo Unit := fun h => match iaOf h r 2 with
  | some (a, xs) => if (i < 0 ∨ xs.length ≤ i.toNatClampNeg) ∨ ¬ (x = 0 ∨ x = 1) then none else some ((), up h a (ai 2 (xs.set i.toNatClampNeg x)))
  | none => none
def stL (r : Option Nat) (i : Int32) (x : Int64) : Mo Unit := fun h => match laOf h r with
  | some (a, xs) => if i < 0 ∨ xs.length ≤ i.toNatClampNeg then none else some ((), up h a (al (xs.set i.toNatClampNeg x)))
  | none => none
/-- a reference to an object of kind ci goes into an array of kind t -/
def stQ (t ci : Nat) (r : Option Nat) (i : Int32) (v : Option Nat) : Mo Unit := fun h => match qaOf h r t, obOf h v ci with
  | some (a, xs), some (b, _) => if i < 0 ∨ xs.length ≤ i.toNatClampNeg then none else some ((), up h a (aq t (xs.set i.toNatClampNeg (some b))))
  | _, _ => none
/-- a row of longs goes into an array of rows (kind 6) -/
def stR (r : Option Nat) (i : Int32) (v : Option Nat) : Mo Unit := fun h => match qaOf h r 6, laOf h v with
  | some (a, xs), some (b, _) => if i < 0 ∨ xs.length ≤ i.toNatClampNeg then none else some ((), up h a (aq 6 (xs.set i.toNatClampNeg (some b))))
  | _, _ => none
def aln (r : Option Nat) : Mo Int32 := fun h => match r with
  | none => none
  | some a => match h.1 a with
    | some (.inr (.inl (t, xs))) => if t = 0 then some (Int32.ofNat xs.length, h) else none
    | some (.inr (.inr (.inl xs))) => some (Int32.ofNat xs.length, h)
    | _ => none
def nwO (ci : Nat) (fs : List TV) : Mo (Option Nat) := fun h => some (some h.2.1, mk h (ob ci fs) fs.length)
def nwI (t : Nat) (n : Int32) : Mo (Option Nat) := fun h => if n < 0 ∨ 1000 < n.toNatClampNeg then none else some (some h.2.1, mk h (ai t (List.replicate n.toNatClampNeg 0)) n.toNatClampNeg)
def nwL (n : Int32) : Mo (Option Nat) := fun h => if n < 0 ∨ 5000 < n.toNatClampNeg then none else some (some h.2.1, mk h (al (List.replicate n.toNatClampNeg 0)) n.toNatClampNeg)
def nwQ (t : Nat) (n : Int32) : Mo (Option Nat) := fun h => if n < 0 ∨ 1000 < n.toNatClampNeg then none else some (some h.2.1, mk h (aq t (List.replicate n.toNatClampNeg none)) n.toNatClampNeg)
/-- new long[n][k]: the outer array at the next address, its rows behind it -/
def nwM (n k : Int32) : Mo (Option Nat) := fun h => if n < 0 ∨ k < 0 ∨ 1000 < n.toNatClampNeg ∨ 1000 < k.toNatClampNeg then none else
  some (some h.2.1, (fun b => if b = h.2.1 then some (aq 6 ((List.range n.toNatClampNeg).map (fun j => some (h.2.1 + 1 + j)))) else if h.2.1 < b ∧ b < h.2.1 + 1 + n.toNatClampNeg then some (al (List.replicate k.toNatClampNeg 0)) else h.1 b, h.2.1 + 1 + n.toNatClampNeg, h.2.2 + n.toNatClampNeg + n.toNatClampNeg * k.toNatClampNeg))
def dvI (x y : Int32) : Mo Int32 := fun h => if y = 0 then none else some (x / y, h)
def dvL (x y : Int64) : Mo Int64 := fun h => if y = 0 then none else some (x / y, h)
def rmL (x y : Int64) : Mo Int64 := fun h => if y = 0 then none else some (x - x / y * y, h)
/-- a boolean answer -/
def rnZ (x : Int32) : Mo Int32 := fun h => if x = 0 ∨ x = 1 then some (x, h) else none
/-- a method called on the object r of kind ci -/
def vc {R : Type} (ci : Nat) (r : Option Nat) (f : Nat → Mo R) : Mo R := fun h => match obOf h r ci with
  | some (a, _) => f a h
  | none => none
/-- a new object's constructor: the object is not null -/
def vn {R : Type} (r : Option Nat) (f : Nat → Mo R) : Mo R := match r with
  | some a => f a
  | none => fl
/-- a small table of ints, not in the heap -/
def tb (xs : List Int32) (i : Int32) : Mo Int32 := fun h => if i < 0 ∨ xs.length ≤ i.toNatClampNeg then none else some (xs.getD i.toNatClampNeg 0, h)
