/-! The grammar: trees, and how a line is read. ch: the character at a place, -1 behind the end. -/
abbrev Tr : Type := Std.Format
abbrev nl : Tr := Std.Format.nil
/-- a node: kind, number, three parts -/
def nd (k : Nat) (z : Int) (a b c : Tr) : Tr := .tag k (.nest z (.append a (.append b c)))
def skf (ch : Int → Int) : Nat → Int → Int
  | 0, p => p
  | n + 1, p => if ch p = 32 then skf ch n (p + 1) else p
/-- blanks left out -/
def sk (ch : Int → Int) (p : Int) : Int := skf ch 60 p
def nx (ch : Int → Int) (p : Int) : Int := ch (sk ch p)
def pEx (ch : Int → Int) (c p : Int) : Option Int := if nx ch p = c then some (sk ch p + 1) else none
def pNm (ch : Int → Int) (p : Int) : Option (Int × Int) := if 97 ≤ nx ch p ∧ nx ch p ≤ 122 then some (nx ch p, sk ch p + 1) else none
/-- at most n digits more: the number, how many there were, the place behind -/
def dgf (ch : Int → Int) : Nat → Int → Int → Int → Int × Int × Int
  | 0, v, c, p => (v, c, p)
  | n + 1, v, c, p => if 48 ≤ ch p ∧ ch p ≤ 57 then dgf ch n (v * 10 + ch p - 48) (c + 1) (p + 1) else (v, c, p)
def pDg (ch : Int → Int) (most : Nat) (p : Int) : Option (Int × Int) :=
  if (dgf ch (most + 1) 0 0 p).2.1 = 0 ∨ (most : Int) < (dgf ch (most + 1) 0 0 p).2.1 then none else some ((dgf ch (most + 1) 0 0 p).1, (dgf ch (most + 1) 0 0 p).2.2)
def ten (v n : Int) : Int := if n = 1 then v * 100 else if n = 2 then v * 10 else v
def pNum (ch : Int → Int) (p : Int) : Option (Tr × Int) := match pDg ch 4 p with
  | none => none
  | some (w, q) => if ch q = 46 then (match pDg ch 3 (q + 1) with
    | none => none
    | some (t, r) => some (nd 1 (w * 1000 + ten t (r - (q + 1))) nl nl nl, r))
    else some (nd 0 w nl nl nl, q)
def pCon (ch : Int → Int) (p : Int) : Option (Tr × Int) :=
  if nx ch p = 84 then some (nd 2 1 nl nl nl, sk ch p + 1) else if nx ch p = 70 then some (nd 2 0 nl nl nl, sk ch p + 1)
  else if nx ch p = 91 ∧ ch (sk ch p + 1) = 93 then some (nd 3 0 nl nl nl, sk ch p + 2) else none
def pPlain (ch : Int → Int) (E : Int → Option (Tr × Int)) (p : Int) : Option (Tr × Int) :=
  if 97 ≤ nx ch p ∧ nx ch p ≤ 122 then some (nd 5 (nx ch p) nl nl nl, sk ch p + 1)
  else if 48 ≤ nx ch p ∧ nx ch p ≤ 57 then pNum ch (sk ch p)
  else if nx ch p = 82 then some (nd 4 82 nl nl nl, sk ch p + 1)
  else if nx ch p = 73 then some (nd 4 73 nl nl nl, sk ch p + 1)
  else if nx ch p = 40 then (E (sk ch p + 1)).bind fun t => (pEx ch 41 t.2).map fun r => (t.1, r)
  else pCon ch p
def pAtom (ch : Int → Int) (E : Int → Option (Tr × Int)) : Nat → Int → Option (Tr × Int)
  | 0, p => pPlain ch E p
  | n + 1, p => if nx ch p = 126 then (pAtom ch E n (sk ch p + 1)).map (fun q => (nd 8 0 q.1 nl nl, q.2)) else pPlain ch E p
def stb (c : Int) : Bool := decide (c = 84 ∨ c = 70 ∨ c = 82 ∨ c = 73 ∨ c = 126 ∨ c = 91 ∨ c = 40 ∨ (48 ≤ c ∧ c ≤ 57) ∨ (97 ≤ c ∧ c ≤ 122))
/-- from the left: how another part is added as long as one comes -/
def pAppL (ch : Int → Int) (A : Int → Option (Tr × Int)) : Nat → Tr → Int → Option (Tr × Int)
  | 0, T, p => some (T, p)
  | n + 1, T, p => if stb (nx ch p) = true then (A (sk ch p)).bind fun U => pAppL ch A n (nd 11 0 T U.1 nl) U.2 else some (T, sk ch p)
def pApp (ch : Int → Int) (E : Int → Option (Tr × Int)) (p : Int) : Option (Tr × Int) := (pAtom ch E 60 p).bind fun t => pAppL ch (pAtom ch E 60) 60 t.1 t.2
/-- one of two signs, with a point right behind it -/
def pOp (ch : Int → Int) (u v p : Int) : Option (Int × Int) :=
  if nx ch p = u ∨ nx ch p = v then (if ch (sk ch p + 1) = 46 then some (nx ch p + 128, sk ch p + 2) else some (nx ch p, sk ch p + 1)) else none
def pOpL (ch : Int → Int) (A : Int → Option (Tr × Int)) (u v : Int) : Nat → Tr → Int → Option (Tr × Int)
  | 0, _, _ => none
  | n + 1, T, p => match pOp ch u v p with
    | none => some (T, sk ch p)
    | some o => (A o.2).bind fun U => pOpL ch A u v n (nd 9 o.1 T U.1 nl) U.2
def pProd (ch : Int → Int) (E : Int → Option (Tr × Int)) (p : Int) : Option (Tr × Int) := (pApp ch E p).bind fun t => pOpL ch (pApp ch E) 42 47 60 t.1 t.2
def pSum (ch : Int → Int) (E : Int → Option (Tr × Int)) (p : Int) : Option (Tr × Int) := (pProd ch E p).bind fun t => pOpL ch (pProd ch E) 43 45 60 t.1 t.2
def pCmp (ch : Int → Int) (E : Int → Option (Tr × Int)) (p : Int) : Option (Tr × Int) := (pSum ch E p).bind fun t =>
  if nx ch t.2 = 61 then (pSum ch E (sk ch t.2 + 1)).map (fun r => (nd 9 61 t.1 r.1 nl, r.2)) else match pOp ch 60 60 t.2 with
    | none => some (t.1, sk ch t.2)
    | some o => (pSum ch E o.2).map (fun r => (nd 9 o.1 t.1 r.1 nl, r.2))
def pList (ch : Int → Int) (E : Int → Option (Tr × Int)) : Nat → Int → Option (Tr × Int)
  | 0, _ => none
  | n + 1, p => (pCmp ch E p).bind fun t => if nx ch t.2 = 44 then (pList ch E n (sk ch t.2 + 1)).map (fun r => (nd 10 0 t.1 r.1 nl, r.2)) else some (t.1, sk ch t.2)
/-- a pattern; L: the names that it has so far, the last one first -/
abbrev PaR : Type := Option (Tr × Int × List Int)
def pPart (ch : Int → Int) (P : Int → List Int → PaR) (p : Int) (L : List Int) : PaR :=
  if 97 ≤ nx ch p ∧ nx ch p ≤ 122 then (if nx ch p ∈ L then none else some (nd 6 (nx ch p) nl nl nl, sk ch p + 1, nx ch p :: L))
  else if 48 ≤ nx ch p ∧ nx ch p ≤ 57 then (pDg ch 4 (sk ch p)).map (fun q => (nd 0 q.1 nl nl nl, q.2, L))
  else if nx ch p = 95 then some (nd 7 0 nl nl nl, sk ch p + 1, L)
  else if nx ch p = 40 then (P (sk ch p + 1) L).bind fun t => (pEx ch 41 t.2.1).map fun r => (t.1, r, t.2.2)
  else (pCon ch p).map (fun q => (q.1, q.2, L))
def pPat (ch : Int → Int) : Nat → Int → List Int → PaR
  | 0, _, _ => none
  | k + 1, p, L => (pPart ch (pPat ch k) p L).bind fun t => if nx ch t.2.1 = 44 then (pPat ch k (sk ch t.2.1 + 1) t.2.2).map (fun r => (nd 10 0 t.1 r.1 nl, r.2)) else some (t.1, sk ch t.2.1, t.2.2)
def pBr (ch : Int → Int) (P : Int → List Int → PaR) (E : Int → Option (Tr × Int)) : Nat → Int → Option (Tr × Int)
  | 0, _ => none
  | n + 1, p => (P p []).bind fun a => (pEx ch 58 a.2.1).bind fun r => (E r).bind fun b =>
    if nx ch b.2 = 124 then (pBr ch P E n (sk ch b.2 + 1)).map (fun x => (nd 17 a.2.2.length a.1 b.1 x.1, x.2))
    else (pEx ch 125 b.2).map (fun t => (nd 17 a.2.2.length a.1 b.1 nl, t))
def pFn (ch : Int → Int) (E : Int → Option (Tr × Int)) (p : Int) : Option (Tr × Int) := (pEx ch 92 p).bind fun a => (pNm ch a).bind fun n => (pEx ch 46 n.2).bind fun b => (E b).map fun x => (nd 12 n.1 x.1 nl nl, x.2)
def pLet (ch : Int → Int) (E : Int → Option (Tr × Int)) (p : Int) : Option (Tr × Int) := (pEx ch 33 p).bind fun a => (pNm ch a).bind fun n => (pEx ch 61 n.2).bind fun b => (E b).bind fun x => (pEx ch 59 x.2).bind fun c => (E c).map fun y => (nd 13 n.1 x.1 y.1 nl, y.2)
def pRec (ch : Int → Int) (E : Int → Option (Tr × Int)) (p : Int) : Option (Tr × Int) := (pEx ch 64 p).bind fun a => (pNm ch a).bind fun n => (pEx ch 61 n.2).bind fun b => (if nx ch b = 92 then E (sk ch b) else none).bind fun x => (pEx ch 59 x.2).bind fun c => (E c).map fun y => (nd 14 n.1 x.1 y.1 nl, y.2)
def pIf (ch : Int → Int) (E : Int → Option (Tr × Int)) (p : Int) : Option (Tr × Int) := (pEx ch 63 p).bind fun a => (E a).bind fun x => (pEx ch 58 x.2).bind fun b => (E b).bind fun y => (pEx ch 124 y.2).bind fun c => (E c).map fun z => (nd 15 0 x.1 y.1 z.1, z.2)
def pCase (ch : Int → Int) (P : Int → List Int → PaR) (E : Int → Option (Tr × Int)) (p : Int) : Option (Tr × Int) := (pEx ch 35 p).bind fun a => (E a).bind fun x => (pEx ch 123 x.2).bind fun b => (pBr ch P E 5 b).map fun y => (nd 16 0 x.1 y.1 nl, y.2)
/-- an expression, k of them may lie inside one another -/
def pE (ch : Int → Int) : Nat → Int → Option (Tr × Int)
  | 0, _ => none
  | k + 1, p =>
    if nx ch p = 33 then pLet ch (pE ch k) p
    else if nx ch p = 35 then pCase ch (pPat ch k) (pE ch k) p
    else if nx ch p = 63 then pIf ch (pE ch k) p
    else if nx ch p = 64 then pRec ch (pE ch k) p
    else if nx ch p = 92 then pFn ch (pE ch k) p
    else pList ch (pE ch k) 60 p
def pLine (ch : Int → Int) : Option Tr := match pE ch 16 0 with
  | none => none
  | some (T, q) => if nx ch q = -1 then some T else none
