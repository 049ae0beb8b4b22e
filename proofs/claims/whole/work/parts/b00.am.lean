/-! Working out, on trees: values, what is bound, and the moves. -/
abbrev Va : Type := Std.Format
def vN (z : Int) : Va := .tag 0 (.nest z .nil)
def vB (z : Int) : Va := .tag 1 (.nest z .nil)
def vR (b : UInt64) : Va := .tag 2 (.nest (b.toNat : Int) .nil)
def vE : Va := .tag 3 .nil
def vI (z : Int) : Va := .tag 4 (.nest z .nil)
def vC (v w : Va) : Va := .append v w
/-- a function with what is bound around it -/
def vF (lam ρ : Std.Format) : Va := .tag 5 (.append lam ρ)
/-- one that knows itself by the name f -/
def vG (f : Int) (lam ρ : Std.Format) : Va := .tag 6 (.nest f (.append lam ρ))
/-- what is bound: the innermost first -/
abbrev En : Type := Std.Format
def eN : En := .nil
def eC (z : Int) (v : Va) (ρ : En) : En := .nest z (.append v ρ)
def lkp (z : Int) : En → Va
  | .nest y (.append v ρ) => if y = z then v else lkp z ρ
  | _ => .nil
def drp : Nat → En → En
  | 0, ρ => ρ
  | n + 1, .nest _ (.append _ ρ) => drp n ρ
  | _ + 1, ρ => ρ
def isV (k : Nat) (z : Int) : Va → Bool
  | .tag j (.nest y _) => j == k && y == z
  | _ => false
def isVE : Va → Bool
  | .tag j _ => j == 3
  | _ => false
/-- a pattern fits: what is bound then -/
def fitE : Tr → Va → En → Option En
  | .tag k (.nest z (.append A (.append B _))), v, ρ => match k with
    | 0 => if isV 0 z v then some ρ else none
    | 2 => if isV 1 z v then some ρ else none
    | 3 => if isVE v then some ρ else none
    | 6 => some (eC z v ρ)
    | 7 => some ρ
    | 10 => match v with
      | .append a b => match fitE A a ρ with
        | some ρ1 => fitE B b ρ1
        | none => none
      | _ => none
    | _ => none
  | _, _, _ => none
/-- the first branch that fits -/
def brF : Tr → Va → En → Option (Tr × Tr × En)
  | .tag 17 (.nest z (.append P (.append E C))), v, ρ => match fitE P v ρ with
    | some ρ' => some (E, nd 17 z P E C, ρ')
    | none => brF C v ρ
  | _, _, _ => none
def toI : Va → Int
  | .tag _ (.nest z _) => z
  | _ => 0
def toR : Va → UInt64
  | .tag _ (.nest z _) => UInt64.ofNat z.toNat
  | _ => 0
def i32 (z : Int) : Int := (Int32.ofInt z).toInt
def dLt (a b : UInt64) : Bool := FP.dcmp a b == some .lt
def big9 : UInt64 := FP.i2d 1000000000
def opD (z : Int) (a b : UInt64) : UInt64 := if z = 171 then FP.dadd a b else if z = 173 then FP.dsub a b else if z = 170 then FP.dmul a b else FP.ddiv a b
/-- what an operation gives, or with what it fails -/
def opV (z : Int) (a b : Va) : Va ⊕ Int :=
  if z = 188 then .inl (vB (if dLt (toR a) (toR b) then 1 else 0))
  else if 128 ≤ z then
    (if z = 175 ∧ FP.dcmp (toR b) 0 = some .eq then .inr 1
     else if dLt big9 (opD z (toR a) (toR b)) ∨ dLt (opD z (toR a) (toR b)) (FP.dneg big9) then .inr 3 else .inl (vR (opD z (toR a) (toR b))))
  else if z = 60 then .inl (vB (if toI a < toI b then 1 else 0))
  else if z = 61 then .inl (vB (if toI a = toI b then 1 else 0))
  else if z = 43 then .inl (vN (i32 (toI a + toI b)))
  else if z = 45 then .inl (vN (i32 (toI a - toI b)))
  else if z = 42 then .inl (vN (i32 (toI a * toI b)))
  else if toI b = 0 then .inr 1 else .inl (vN (i32 (Int.tdiv (toI a) (toI b))))
/-- what is still to be done in a function: (0, T) T is to be worked out, (1, T) its step, (2, T) what it bound is taken away -/
abbrev Wl : Type := List (Nat × Tr)
/-- the work, what is bound, the values that wait, who called -/
abbrev AS : Type := Wl × En × List Va × List (Wl × En)
/-- a leaf's value -/
def lfV (k : Nat) (z : Int) (T : Tr) (ρ : En) : Va := if k = 0 then vN z else if k = 1 then vR (FP.ddiv (FP.i2d (Int32.ofInt z)) (FP.i2d 1000)) else if k = 2 then vB z else if k = 3 then vE else if k = 4 then vI z else if k = 5 then lkp z ρ else vF T ρ
def numB : Tr → Nat
  | .tag k (.nest z _) => if k = 17 then z.toNat else 1
  | _ => 0
/-- a move that is no step -/
def mvA : AS → Option AS
  | ((0, .tag k (.nest z (.append A (.append B C)))) :: w, ρ, vs, fs) =>
    if k ≤ 5 ∨ k = 12 then some (w, ρ, lfV k z (nd k z A B C) ρ :: vs, fs)
    else if k = 9 ∨ k = 10 ∨ k = 11 then some ((0, A) :: (0, B) :: (1, nd k z A B C) :: w, ρ, vs, fs)
    else if k = 8 ∨ k = 13 ∨ k = 14 ∨ k = 15 ∨ k = 16 then some ((0, A) :: (1, nd k z A B C) :: w, ρ, vs, fs)
    else none
  | ((2, T) :: w, ρ, vs, fs) => some (w, drp (numB T) ρ, vs, fs)
  | ([], _, vs, (w, ρ) :: fs) => some (w, ρ, vs, fs)
  | _ => none
/-- a step: what is then, with how many names are bound in it; or with what it fails -/
def spA : AS → Option ((AS × Nat) ⊕ Int)
  | ((1, .tag k (.nest z (.append A (.append B C)))) :: w, ρ, vs, fs) => match k, vs with
    | 8, v :: vs => some (.inl ((w, ρ, vR (FP.dneg (toR v)) :: vs, fs), 0))
    | 9, b :: a :: vs => match opV z a b with
      | .inl v => some (.inl ((w, ρ, v :: vs, fs), 0))
      | .inr e => some (.inr e)
    | 10, b :: a :: vs => some (.inl ((w, ρ, vC a b :: vs, fs), 0))
    | 11, x :: f :: vs => match f with
      | .tag 4 (.nest y _) => some (.inl ((w, ρ, (if y = 82 then vR (FP.i2d (Int32.ofInt (toI x))) else vN (FP.d2i (toR x)).toInt) :: vs, fs), 0))
      | .tag 5 (.append (.tag 12 (.nest y (.append b _))) ρ') => some (.inl (([(0, b)], eC y x ρ', vs, (w, ρ) :: fs), 1))
      | .tag 6 (.nest g (.append (.tag 12 (.nest y (.append b _))) ρ')) => some (.inl (([(0, b)], eC y x (eC g f ρ'), vs, (w, ρ) :: fs), 1))
      | _ => none
    | 13, v :: vs => some (.inl (((0, B) :: (2, nd k z A B C) :: w, eC z v ρ, vs, fs), 1))
    | 14, v :: vs => match v with
      | .tag 5 (.append lam ρ') => some (.inl (((0, B) :: (2, nd k z A B C) :: w, eC z (vG z lam ρ') ρ, vs, fs), 1))
      | _ => none
    | 15, v :: vs => some (.inl (((0, if toI v = 1 then B else C) :: w, ρ, vs, fs), 0))
    | 16, v :: vs => match brF B v ρ with
      | some (E, br, ρ') => some (.inl (((0, E) :: (2, br) :: w, ρ', vs, fs), numB br))
      | none => some (.inr 2)
    | _, _ => none
  | _ => none
