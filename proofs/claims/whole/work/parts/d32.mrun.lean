/-! What a run of the model's types does to its store: RT; room for what it makes: rmC. -/
/-- the nodes of names with one type (flag 0; 1: many) -/
def mnF : List (Int × Int) → List Int → Int → Prop
  | e :: E, f :: F, m => (f = 0 ∧ m = e.2) ∨ mnF E F m
  | _, _, _ => False
def lkF (z : Int) : List (Int × Int) → List Int → Int
  | e :: E, f :: F => if e.1 = z then f else lkF z E F
  | _, _ => 0
/-- two nodes are made one -/
def unR (S : TS) (a b : Int) (S' : TS) : Prop := (∀ h, TSt S S' (fun m => m = a ∨ m = b) h) ∧ S'.2.1 = S.2.1 ∧ ∀ ρ, VS S'.1 S'.2.1 ρ ↔ (VS S.1 S.2.1 ρ ∧ ρ a = ρ b)
/-- the levels after t was made general -/
def genR (S : TS) (M : Int → Prop) (t : Int) (lev : Int → Int) : Prop := (∀ u, gv S M t u → lev u = 1000) ∧ ∀ u, oP S u → ¬ gv S M t u → lev u = S.2.2 u
/-- r is a copy of n -/
def insR (S : TS) (n : Int) (S' : TS) (r : Int) : Prop := ∃ D cp, CpT S S' D cp n ∧ Cq S D cp n r
def shN (S : TS) (r : Int) : Prop := ∀ μ, MinV S.1 S.2.1 μ → gw (μ r) ≤ 80
/-- the pattern A is made one with l -/
def patR (S : TS) (E : List (Int × Int)) (F : List Int) (A : Tr) (l r : Int) (S1 : TS) (nu : Int → Int) : Prop := ∃ P, QRes S S1 (fun m => (mnF E F m ∨ m = l) ∨ m = r) 0 A P nu l ∧ S1.2.1 ≤ S.2.1 + 2 * pn A ∧ ∀ p, P p → shN S1 p
def nwS (S : TS) : TS := adT S (0, -1, 0) 0
/-- one run: from the store S, names E with their flags F, to S' with the node r (of branches: l what is looked at, r what comes out) -/
def RT : Tr → Int → TS → List (Int × Int) → List Int → TS → Int → Prop
  | .tag k (.nest z (.append A (.append B C))) => fun l S E F S' r => match k with
    | 0 => S' = S ∧ r = 0
    | 1 => S' = S ∧ r = 2
    | 2 => S' = S ∧ r = 1
    | 3 => S' = adT (nwS S) (4, S.2.1, 0) 0 ∧ r = S.2.1 + 1
    | 4 => (∃ lv, S' = adT S (5, (if z = 82 then 0 else 2), (if z = 82 then 2 else 0)) lv) ∧ r = S.2.1
    | 5 => shN S' r ∧ ((lkF z E F = 0 ∧ S' = S ∧ r = lkE z E) ∨ (lkF z E F = 1 ∧ insR S (lkE z E) S' r))
    | 8 => ∃ S1 a, RT A 0 S E F S1 a ∧ unR S1 a 2 S' ∧ r = 2
    | 9 => ∃ S1 a S2 b S3, RT A 0 S E F S1 a ∧ RT B 0 S1 E F S2 b ∧ unR S2 b (oqN z) S3 ∧ unR S3 a (oqN z) S' ∧ r = orN z
    | 10 => ∃ S1 a S2 b, RT A 0 S E F S1 a ∧ RT B 0 S1 E F S2 b ∧ unR (adT S2 (4, a, 0) 0) b S2.2.1 S' ∧ r = S2.2.1 ∧ shN S' r
    | 11 => ∃ S1 a S2 b lv, RT A 0 S E F S1 a ∧ RT B 0 S1 E F S2 b ∧ unR (adT (nwS S2) (5, b, S2.2.1) lv) a (S2.2.1 + 1) S' ∧ r = S2.2.1 ∧ shN S' r
    | 12 => ∃ S2 b lv, RT A 0 (nwS S) ((z, S.2.1) :: E) (0 :: F) S2 b ∧ S' = adT S2 (5, S.2.1, b) lv ∧ r = S2.2.1 ∧ shN S' r
    | 13 => ∃ S1 t lev, RT A 0 S E F S1 t ∧ genR S1 (mnF E F) t lev ∧ RT B 0 (S1.1, S1.2.1, lev) ((z, t) :: E) (1 :: F) S' r
    | 14 => ∃ S2 a S3 lev, RT A 0 (nwS S) ((z, S.2.1) :: E) (0 :: F) S2 a ∧ unR S2 S.2.1 a S3 ∧ genR S3 (mnF E F) S.2.1 lev ∧ RT B 0 (S3.1, S3.2.1, lev) ((z, S.2.1) :: E) (1 :: F) S' r
    | 15 => ∃ S1 a S2 S4 b S5 S6 c, RT A 0 S E F S1 a ∧ unR S1 a 1 S2 ∧ RT B 0 (nwS S2) E F S4 b ∧ unR S4 S2.2.1 b S5 ∧ RT C 0 S5 E F S6 c ∧ unR S6 S2.2.1 c S' ∧ r = S2.2.1 ∧ shN S' r
    | 16 => ∃ S1 a, RT A 0 S E F S1 a ∧ RT B a (nwS S1) E F S' S1.2.1 ∧ r = S1.2.1 ∧ shN S' r
    | 17 => ∃ S1 nu S2 b S3, patR S E F A l r S1 nu ∧ RT B 0 S1 (pnE A nu E) (List.replicate (bnd A).length 0 ++ F) S2 b ∧ unR S2 r b S3 ∧ RT C l S3 E F S' r
    | _ => False
  | .nil => fun _ S _ _ S' _ => S' = S
  | _ => fun _ _ _ _ _ _ => False
/-- room -/
def rmC : Tr → Int → Int → TS → List (Int × Int) → List Int → Prop
  | .tag k (.nest z (.append A (.append B C))) => fun l r S E F => match k with
    | 3 => S.2.1 + 2 ≤ 1300
    | 4 => S.2.1 + 1 ≤ 1300
    | 5 => lkF z E F = 1 → S.2.1 + 40 ≤ 1300
    | 8 => rmC A 0 0 S E F
    | 9 => rmC A 0 0 S E F ∧ ∀ S1 a, RT A 0 S E F S1 a → rmC B 0 0 S1 E F
    | 10 => rmC A 0 0 S E F ∧ ∀ S1 a, RT A 0 S E F S1 a → rmC B 0 0 S1 E F ∧ ∀ S2 b, RT B 0 S1 E F S2 b → S2.2.1 + 1 ≤ 1300
    | 11 => rmC A 0 0 S E F ∧ ∀ S1 a, RT A 0 S E F S1 a → rmC B 0 0 S1 E F ∧ ∀ S2 b, RT B 0 S1 E F S2 b → S2.2.1 + 2 ≤ 1300
    | 12 => S.2.1 + 1 ≤ 1300 ∧ rmC A 0 0 (nwS S) ((z, S.2.1) :: E) (0 :: F) ∧ ∀ S2 b, RT A 0 (nwS S) ((z, S.2.1) :: E) (0 :: F) S2 b → S2.2.1 + 1 ≤ 1300
    | 13 => rmC A 0 0 S E F ∧ ∀ S1 t lev, RT A 0 S E F S1 t → genR S1 (mnF E F) t lev → rmC B 0 0 (S1.1, S1.2.1, lev) ((z, t) :: E) (1 :: F)
    | 14 => S.2.1 + 1 ≤ 1300 ∧ rmC A 0 0 (nwS S) ((z, S.2.1) :: E) (0 :: F) ∧ ∀ S2 a S3 lev, RT A 0 (nwS S) ((z, S.2.1) :: E) (0 :: F) S2 a → unR S2 S.2.1 a S3 → genR S3 (mnF E F) S.2.1 lev → rmC B 0 0 (S3.1, S3.2.1, lev) ((z, S.2.1) :: E) (1 :: F)
    | 15 => rmC A 0 0 S E F ∧ ∀ S1 a, RT A 0 S E F S1 a → S1.2.1 + 1 ≤ 1300 ∧ ∀ S2, unR S1 a 1 S2 → rmC B 0 0 (nwS S2) E F ∧ ∀ S4 b S5, RT B 0 (nwS S2) E F S4 b → unR S4 S2.2.1 b S5 → rmC C 0 0 S5 E F
    | 16 => rmC A 0 0 S E F ∧ ∀ S1 a, RT A 0 S E F S1 a → S1.2.1 + 1 ≤ 1300 ∧ rmC B a S1.2.1 (nwS S1) E F
    | 17 => S.2.1 + 2 * pn A ≤ 1300 ∧ ∀ S1 nu, patR S E F A l r S1 nu → rmC B 0 0 S1 (pnE A nu E) (List.replicate (bnd A).length 0 ++ F) ∧ ∀ S2 b S3, RT B 0 S1 (pnE A nu E) (List.replicate (bnd A).length 0 ++ F) S2 b → unR S2 r b S3 → rmC C l r S3 E F
    | _ => True
  | _ => fun _ _ _ _ _ => True
/-! The loop over the code of a tree: what it needs, what it leaves. -/
abbrev tfL (p : Int) (σ : Mem) (o : Option Int) (s' : Mem) : Prop := Lb 20 yMo_typesFound 57 [(0, .ref 58), (4, vi p)] [] σ o s'
def tP (i : Nat) : Bool := i == 58 || (Nat.ble 76 i && Nat.ble i 87)
def tK (k : Int) : Bool := [30, 35, 37, 38, 39, 41, 43, 44, 45].contains k
def fT (σ σ' : Mem) : Prop := (∀ i, tP i = false → σ' i = σ i) ∧ ∀ k, tK k = false → σ' 58 k = σ 58 k
def tmR (σ : Mem) : List (Int × Int) → List Int → Prop
  | e :: E, f :: F => (σ 76 (E.length : Int) = e.1 ∧ σ 77 (E.length : Int) = e.2 ∧ σ 78 (E.length : Int) = f ∧ (f = 0 ∨ f = 1)) ∧ tmR σ E F
  | [], [] => True
  | _, _ => False
def tmE (σ : Mem) (E : List (Int × Int)) (F : List Int) : Prop := σ 58 30 = E.length ∧ tmR σ E F
/-- the parts so far are short -/
def smP (σ : Mem) : Prop := ∀ k, 0 ≤ k → k < σ 58 43 → shN (mS σ) (σ 85 k)
def inPt (σ : Mem) : Prop := ∀ k, 0 ≤ k → k < σ 58 43 → 0 ≤ σ 85 k ∧ σ 85 k < σ 58 35
/-- at the head of the loop -/
def TH (σ : Mem) (E : List (Int × Int)) (F : List Int) : Prop := MT σ ∧ tmE σ E F ∧ EnvI (mS σ) 0 E (mnF E F) ∧ σ 58 44 = 0 ∧ inPt σ ∧ smP σ
def RmT (σ : Mem) (w : Int) : Prop := (0 ≤ σ 58 37 ∧ σ 58 37 + w ≤ 100) ∧ (0 ≤ σ 58 43 ∧ σ 58 43 + 2 * w ≤ 250) ∧ (0 ≤ σ 58 41 ∧ σ 58 41 + w ≤ 60) ∧ σ 58 30 + w ≤ 64
/-- what stays below -/
def Blw (σ σ' : Mem) : Prop := (∀ k, k < σ 58 37 → σ' 83 k = σ 83 k) ∧ (∀ k, k < σ 58 41 → σ' 84 k = σ 84 k) ∧ (σ 58 43 ≤ σ' 58 43 ∧ ∀ k, k < σ 58 43 → σ' 85 k = σ 85 k) ∧ ∀ k, k < σ 58 30 → σ' 76 k = σ 76 k ∧ σ' 77 k = σ 77 k ∧ σ' 78 k = σ 78 k
/-- T is done: its node r lies on top -/
def TD (σ σ' : Mem) (E : List (Int × Int)) (F : List Int) (T : Tr) (r : Int) : Prop := fT σ σ' ∧ TH σ' E F ∧ Blw σ σ' ∧ (σ' 58 30 = σ 58 30 ∧ σ' 58 37 = σ 58 37 + 1 ∧ σ' 58 41 = σ 58 41 ∧ σ' 58 43 ≤ σ 58 43 + 2 * rwl T - 1) ∧ σ' 83 (σ 58 37) = r ∧ PsA σ σ' r ∧ TRes (mS σ) (mS σ') E (mnF E F) 0 T (PsA σ σ') r ∧ RT T 0 (mS σ) E F (mS σ') r
/-- it is refused -/
def TZ (σ : Mem) (p : Int) : Prop := ∃ s', tfL p σ (some 0) s' ∧ fT σ s'
def PMs (σ : Mem) (E : List (Int × Int)) (F : List Int) : Int → Prop := fun m => (∃ k, (0 ≤ k ∧ k < σ 58 43) ∧ m = σ 85 k) ∨ mnF E F m
def PMT (T : Tr) : Prop := ∀ (p s : Int) (σ : Mem) (E : List (Int × Int)) (F : List Int), isC σ T p s → isN σ T p (E.map Prod.fst) → clo T (inE E) = true → (0 ≤ p ∧ p + ln T ≤ σ 58 7 ∧ σ 58 7 ≤ 124) → (0 ≤ s ∧ s + sn T ≤ 80) → TH σ E F → RmT σ (rwl T) → rmC T 0 0 (mS σ) E F → (∃ σ' r, TD σ σ' E F T r ∧ ∀ o s', tfL (p + ln T) σ' o s' → tfL p σ o s') ∨ (TZ σ p ∧ NoM (mS σ) (PMs σ E F) E T)
/-- the same of branches -/
def BD (σ σ' : Mem) (E : List (Int × Int)) (F : List Int) (T : Tr) (l r : Int) : Prop := fT σ σ' ∧ TH σ' E F ∧ Blw σ σ' ∧ (σ' 58 30 = σ 58 30 ∧ σ' 58 37 = σ 58 37 ∧ σ' 58 41 = σ 58 41 ∧ σ' 58 43 ≤ σ 58 43 + 2 * rwl T) ∧ BRes (mS σ) (mS σ') E (fun m => (mnF E F m ∨ m = l) ∨ m = r) 0 (fun w G a b => tyE T w G (gA a b)) (PsA σ σ') l r ∧ RT T l (mS σ) E F (mS σ') r
def PMB (T : Tr) : Prop := ∀ (p s : Int) (σ : Mem) (E : List (Int × Int)) (F : List Int) (l r : Int), isC σ T p s → isN σ T p (E.map Prod.fst) → clo T (inE E) = true → (0 ≤ p ∧ p + ln T ≤ σ 58 7 ∧ σ 58 7 ≤ 124) → (0 ≤ s ∧ s + sn T ≤ 80) → TH σ E F → RmT σ (rwl T) → 2 ≤ σ 58 41 → σ 84 (σ 58 41 - 2) = l → σ 84 (σ 58 41 - 1) = r → EnvI (mS σ) 0 E (fun m => (mnF E F m ∨ m = l) ∨ m = r) → rmC T l r (mS σ) E F → (∃ σ', BD σ σ' E F T l r ∧ ∀ o s', tfL (p + ln T) σ' o s' → tfL p σ o s') ∨ (TZ σ p ∧ ∀ ρ, VS (mS σ).1 (mS σ).2.1 ρ → (∀ q, PMs σ E F q → gw (ρ q) ≤ 80) → ¬ tyE T true (Gam (mS σ) ρ E) (gA (ρ l) (ρ r)))
