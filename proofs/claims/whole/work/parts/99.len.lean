/-! How many characters a tree needs at least: rwl; a part that binds less than its place wants ( ). -/
def oz (z : Int) : Int := if 128 ≤ z then z - 128 else z
/-- how far a tree binds: 0 an EXPR, 1 a CONS, 2 a COMPARE, 3 a SUM, 4 a PRODUCT, 5 an APPLY, 6 an ATOM, 7 without ~ -/
def prc : Tr → Int
  | .tag k (.nest z _) => if k ≤ 7 then 7 else if k = 8 then 6 else if k = 11 then 5 else if k = 9 then (if oz z = 42 ∨ oz z = 47 then 4 else if oz z = 43 ∨ oz z = 45 then 3 else 2) else if k = 10 then 1 else 0
  | _ => 7
def up (l : Int) (T : Tr) (r : Int) : Int := if prc T < l then r + 2 else r
def lf9 (z : Int) : Int := if oz z = 42 ∨ oz z = 47 then 4 else 3
def rt9 (z : Int) : Int := if oz z = 42 ∨ oz z = 47 then 5 else if oz z = 43 ∨ oz z = 45 then 4 else 3
def isCo : Tr → Bool
  | .tag k _ => k == 10
  | _ => false
def rpl : Tr → Int
  | .tag k (.nest _ (.append A (.append B _))) => match k with
    | 10 => (if isCo A then rpl A + 2 else rpl A) + 1 + rpl B
    | 3 => 2
    | _ => 1
  | _ => 0
def rwl : Tr → Int
  | .tag k (.nest z (.append A (.append B C))) => match k with
    | 1 => 3
    | 3 => 2
    | 8 => 1 + up 6 A (rwl A)
    | 9 => 1 + up (lf9 z) A (rwl A) + up (rt9 z) B (rwl B)
    | 10 => 1 + up 2 A (rwl A) + up 1 B (rwl B)
    | 11 => up 5 A (rwl A) + up 6 B (rwl B)
    | 12 => 3 + rwl A
    | 13 => 4 + rwl A + rwl B
    | 14 => 4 + rwl A + rwl B
    | 15 => 3 + rwl A + rwl B + rwl C
    | 16 => 2 + rwl A + rwl B
    | 17 => rpl A + 2 + rwl B + rwl C
    | _ => 1
  | _ => 0
section LQ
variable {ch : Int → Int} {E A : Int → Option (Tr × Int)} {l : Int}
theorem up_ge {T : Tr} {r : Int} : r ≤ up l T r ∧ up l T r ≤ r + 2 := by unfold up; split <;> omega
theorem up_mono {l' : Int} {T : Tr} {r : Int} (h : l ≤ l') : up l T r ≤ up l' T r := by
  unfold up; split <;> split <;> omega
theorem up_eq {T : Tr} {r : Int} (h : l ≤ prc T) : up l T r = r := if_neg (by omega)
def lq (l : Int) (f : Int → Option (Tr × Int)) : Prop := ∀ p T q, f p = some (T, q) → up l T (rwl T) ≤ q - p
theorem lq.le {l' : Int} {f : Int → Option (Tr × Int)} (h : l' ≤ l) (H : lq l f) : lq l' f := fun p T q e => Int.le_trans (up_mono h) (H p T q e)
theorem prc_nd {k : Nat} {z : Int} {a b c : Tr} : prc (nd k z a b c) = if k ≤ 7 then 7 else if k = 8 then 6 else if k = 11 then 5 else if k = 9 then (if oz z = 42 ∨ oz z = 47 then 4 else if oz z = 43 ∨ oz z = 45 then 3 else 2) else if k = 10 then 1 else 0 := rfl
theorem lf_7 {k : Nat} {z : Int} (hk : k ≤ 5) : up 7 (nd k z nl nl nl) (rwl (nd k z nl nl nl)) = rwl (nd k z nl nl nl) :=
  up_eq (by rw [prc_nd, if_pos (by omega)]; decide)
theorem pNum_q : lq 7 (pNum ch) := by
  intro p T q h
  unfold pNum at h
  split at h
  · cases h
  · next w r e =>
    have l1 := pDg_l e
    split at h
    · split at h
      · cases h
      · next t r' e' =>
        have l2 := pDg_l e'
        cases h
        rw [lf_7 (by decide)]
        show (3 : Int) ≤ _
        omega
    · cases h
      rw [lf_7 (by decide)]
      show (1 : Int) ≤ _
      omega
theorem pCon_q : lq 7 (pCon ch) := by
  intro p T q h
  have ge := sk_ge (ch := ch) (p := p)
  unfold pCon at h
  split at h
  · cases h; rw [lf_7 (by decide)]; show (1 : Int) ≤ _; omega
  split at h
  · cases h; rw [lf_7 (by decide)]; show (1 : Int) ≤ _; omega
  split at h
  · cases h; rw [lf_7 (by decide)]; show (2 : Int) ≤ _; omega
  · cases h
theorem pPlain_q (hE : lq 0 E) : lq 7 (pPlain ch E) := by
  intro p T q h
  have ge := sk_ge (ch := ch) (p := p)
  unfold pPlain at h
  split at h
  · cases h; rw [lf_7 (by decide)]; show (1 : Int) ≤ _; omega
  split at h
  · have := pNum_q _ _ _ h; omega
  split at h
  · cases h; rw [lf_7 (by decide)]; show (1 : Int) ≤ _; omega
  split at h
  · cases h; rw [lf_7 (by decide)]; show (1 : Int) ≤ _; omega
  split at h
  · obtain ⟨t, h1, h⟩ := Option.bind_eq_some_iff.mp h
    obtain ⟨r, h2, h⟩ := Option.map_eq_some_iff.mp h
    have a := hE _ _ _ h1
    have b := pEx_l h2
    cases h
    have u := up_ge (l := 7) (T := t.1) (r := rwl t.1)
    have v := up_ge (l := 0) (T := t.1) (r := rwl t.1)
    omega
  · exact pCon_q _ _ _ h
theorem pAtom_q (hE : lq 0 E) : ∀ n, lq 6 (pAtom ch E n)
  | 0 => (pPlain_q hE).le (by decide)
  | n + 1 => by
    intro p T q h
    have ge := sk_ge (ch := ch) (p := p)
    unfold pAtom at h
    split at h
    · obtain ⟨t, h1, h⟩ := Option.map_eq_some_iff.mp h
      have a := pAtom_q hE n _ _ _ h1
      cases h
      have e : rwl (nd 8 0 t.1 nl nl) = 1 + up 6 t.1 (rwl t.1) := rfl
      rw [up_eq (by rw [prc_nd]; decide), e]; omega
    · exact (pPlain_q hE).le (by decide) _ _ _ h
theorem pAppL_q (hA : lq 6 A) : ∀ (n : Nat) (T : Tr) (p p0 : Int), up 5 T (rwl T) ≤ p - p0 → ∀ U q, pAppL ch A n T p = some (U, q) → up 5 U (rwl U) ≤ q - p0
  | 0, T, p, p0, h1, U, q, h => by cases h; exact h1
  | n + 1, T, p, p0, h1, U, q, h => by
    have ge := sk_ge (ch := ch) (p := p)
    unfold pAppL at h
    split at h
    · obtain ⟨t, e1, h⟩ := Option.bind_eq_some_iff.mp h
      have a := hA _ _ _ e1
      have e : rwl (nd 11 0 T t.1 nl) = up 5 T (rwl T) + up 6 t.1 (rwl t.1) := rfl
      exact pAppL_q hA n _ _ p0 (by rw [up_eq (by rw [prc_nd]; decide), e]; omega) U q h
    · cases h; omega
theorem pApp_q (hE : lq 0 E) : lq 5 (pApp ch E) := by
  intro p T q h
  obtain ⟨t, e1, h⟩ := Option.bind_eq_some_iff.mp h
  have a := (pAtom_q hE 60).le (l' := 5) (by decide) _ _ _ e1
  exact pAppL_q (pAtom_q hE 60) 60 _ _ p a T q h
theorem pOp_q {u v p : Int} {o : Int × Int} (h : pOp ch u v p = some o) : p < o.2 ∧ (o.1 = u ∨ o.1 = v ∨ o.1 = u + 128 ∨ o.1 = v + 128) := by
  have ge := sk_ge (ch := ch) (p := p)
  unfold pOp at h
  split at h
  · split at h
    · cases h; dsimp only; omega
    · cases h; dsimp only; omega
  · cases h
theorem oz_of {o u v : Int} (h : o = u ∨ o = v ∨ o = u + 128 ∨ o = v + 128) (hu : 0 ≤ u ∧ u < 128) (hv : 0 ≤ v ∧ v < 128) : oz o = u ∨ oz o = v := by
  unfold oz
  split <;> omega
theorem pOpL_q {l r u v : Int} (huv : (l = 4 ∧ r = 5 ∧ u = 42 ∧ v = 47) ∨ (l = 3 ∧ r = 4 ∧ u = 43 ∧ v = 45)) (hA : lq r A) : ∀ (n : Nat) (T : Tr) (p p0 : Int), up l T (rwl T) ≤ p - p0 → ∀ U q, pOpL ch A u v n T p = some (U, q) → up l U (rwl U) ≤ q - p0
  | 0, T, p, p0, h1, U, q, h => by cases h
  | n + 1, T, p, p0, h1, U, q, h => by
    have ge := sk_ge (ch := ch) (p := p)
    unfold pOpL at h
    split at h
    · cases h; omega
    · next o eo =>
      obtain ⟨lo, zo⟩ := pOp_q eo
      obtain ⟨t, e1, h⟩ := Option.bind_eq_some_iff.mp h
      have a := hA _ _ _ e1
      have e : rwl (nd 9 o.1 T t.1 nl) = 1 + up (lf9 o.1) T (rwl T) + up (rt9 o.1) t.1 (rwl t.1) := rfl
      have z := oz_of zo (by omega) (by omega)
      have f1 : lf9 o.1 = l := by unfold lf9; split <;> omega
      have f2 : rt9 o.1 = r := by unfold rt9; split <;> (try split) <;> omega
      have f3 : prc (nd 9 o.1 T t.1 nl) = l := by
        rw [prc_nd, if_neg (by decide), if_neg (by decide), if_neg (by decide), if_pos rfl]
        split <;> (try split) <;> omega
      exact pOpL_q huv hA n _ _ p0 (by rw [up_eq (by omega), e, f1, f2]; omega) U q h
theorem pProd_q (hE : lq 0 E) : lq 4 (pProd ch E) := by
  intro p T q h
  obtain ⟨t, e1, h⟩ := Option.bind_eq_some_iff.mp h
  have a := (pApp_q hE).le (l' := 4) (by decide) _ _ _ e1
  exact pOpL_q (Or.inl ⟨rfl, rfl, rfl, rfl⟩) (pApp_q hE) 60 _ _ p a T q h
theorem pSum_q (hE : lq 0 E) : lq 3 (pSum ch E) := by
  intro p T q h
  obtain ⟨t, e1, h⟩ := Option.bind_eq_some_iff.mp h
  have a := (pProd_q hE).le (l' := 3) (by decide) _ _ _ e1
  exact pOpL_q (Or.inr ⟨rfl, rfl, rfl, rfl⟩) (pProd_q hE) 60 _ _ p a T q h
theorem cmp_q {o : Int} {T U : Tr} (h : o = 60 ∨ o = 61 ∨ o = 188) : rwl (nd 9 o T U nl) = 1 + up 3 T (rwl T) + up 3 U (rwl U) ∧ prc (nd 9 o T U nl) = 2 := by
  rcases h with rfl | rfl | rfl <;> exact ⟨rfl, rfl⟩
theorem pCmp_q (hE : lq 0 E) : lq 2 (pCmp ch E) := by
  intro p T q h
  obtain ⟨t, e1, h⟩ := Option.bind_eq_some_iff.mp h
  have a := pSum_q hE _ _ _ e1
  have a2 := up_mono (l := 2) (l' := 3) (T := t.1) (r := rwl t.1) (by decide)
  have ge := sk_ge (ch := ch) (p := t.2)
  split at h
  · obtain ⟨r, e2, h⟩ := Option.map_eq_some_iff.mp h
    have b := pSum_q hE _ _ _ e2
    obtain ⟨e3, e4⟩ := cmp_q (o := 61) (T := t.1) (U := r.1) (by decide)
    cases h
    rw [up_eq (by omega), e3]; omega
  · split at h
    · cases h; omega
    · next o eo =>
      obtain ⟨lo, zo⟩ := pOp_q eo
      obtain ⟨r, e2, h⟩ := Option.map_eq_some_iff.mp h
      have b := pSum_q hE _ _ _ e2
      obtain ⟨e3, e4⟩ := cmp_q (o := o.1) (T := t.1) (U := r.1) (by omega)
      cases h
      rw [up_eq (by omega), e3]; omega
theorem pList_q (hE : lq 0 E) : ∀ n, lq 1 (pList ch E n)
  | 0 => by intro p T q h; cases h
  | n + 1 => by
    intro p T q h
    unfold pList at h
    obtain ⟨t, e1, h⟩ := Option.bind_eq_some_iff.mp h
    have a := pCmp_q hE _ _ _ e1
    have a2 := up_mono (l := 1) (l' := 2) (T := t.1) (r := rwl t.1) (by decide)
    have ge := sk_ge (ch := ch) (p := t.2)
    split at h
    · obtain ⟨r, e2, h⟩ := Option.map_eq_some_iff.mp h
      have b := pList_q hE n _ _ _ e2
      have e : rwl (nd 10 0 t.1 r.1 nl) = 1 + up 2 t.1 (rwl t.1) + up 1 r.1 (rwl r.1) := rfl
      cases h
      rw [up_eq (by rw [prc_nd]; decide), e]; omega
    · cases h; omega
def lqp (P : Int → List Int → PaR) : Prop := ∀ p L t, P p L = some t → rpl t.1 ≤ t.2.1 - p
def lqa (P : Int → List Int → PaR) : Prop := ∀ p L t, P p L = some t → (if isCo t.1 then rpl t.1 + 2 else rpl t.1) ≤ t.2.1 - p
theorem pPart_q {P : Int → List Int → PaR} (hP : lqp P) : lqa (pPart ch P) := by
  intro p L t h
  have ge := sk_ge (ch := ch) (p := p)
  unfold pPart at h
  split at h
  · split at h
    · cases h
    · cases h; show (1 : Int) ≤ sk ch p + 1 - p; omega
  split at h
  · obtain ⟨r, e2, h⟩ := Option.map_eq_some_iff.mp h
    have a := pDg_l (q := r.2) (v := r.1) e2
    cases h; show (1 : Int) ≤ r.2 - p; omega
  split at h
  · cases h; show (1 : Int) ≤ sk ch p + 1 - p; omega
  split at h
  · obtain ⟨s, e1, h⟩ := Option.bind_eq_some_iff.mp h
    obtain ⟨r, e2, h⟩ := Option.map_eq_some_iff.mp h
    have a := hP _ _ _ e1
    have b := pEx_l e2
    cases h
    dsimp only
    split <;> omega
  · obtain ⟨r, e2, h⟩ := Option.map_eq_some_iff.mp h
    cases h
    unfold pCon at e2
    split at e2
    · cases e2; show (1 : Int) ≤ sk ch p + 1 - p; omega
    split at e2
    · cases e2; show (1 : Int) ≤ sk ch p + 1 - p; omega
    split at e2
    · cases e2; show (2 : Int) ≤ sk ch p + 2 - p; omega
    · cases e2
theorem pPat_q : ∀ k, lqp (pPat ch k)
  | 0 => by intro p L t h; cases h
  | k + 1 => by
    intro p L t h
    unfold pPat at h
    obtain ⟨s, e1, h⟩ := Option.bind_eq_some_iff.mp h
    have a := pPart_q (pPat_q k) _ _ _ e1
    have ge := sk_ge (ch := ch) (p := s.2.1)
    split at h
    · obtain ⟨r, e2, h⟩ := Option.map_eq_some_iff.mp h
      have b := pPat_q k _ _ _ e2
      cases h
      show (if isCo s.1 then rpl s.1 + 2 else rpl s.1) + 1 + rpl r.1 ≤ r.2.1 - p
      omega
    · cases h
      dsimp only
      split at a <;> omega
theorem pBr_q {P : Int → List Int → PaR} (hP : lqp P) (hE : lq 0 E) : ∀ (n : Nat) (p : Int) (T : Tr) (q : Int), pBr ch P E n p = some (T, q) → rwl T ≤ q - p
  | 0, p, T, q, h => by cases h
  | n + 1, p, T, q, h => by
    unfold pBr at h
    obtain ⟨a, e1, h⟩ := Option.bind_eq_some_iff.mp h
    obtain ⟨r, e2, h⟩ := Option.bind_eq_some_iff.mp h
    obtain ⟨b, e3, h⟩ := Option.bind_eq_some_iff.mp h
    have l1 := hP _ _ _ e1
    have l2 := pEx_l e2
    have l3 := hE _ _ _ e3
    have g := up_ge (l := 0) (T := b.1) (r := rwl b.1)
    have ge := sk_ge (ch := ch) (p := b.2)
    split at h
    · obtain ⟨x, e4, h⟩ := Option.map_eq_some_iff.mp h
      have l4 := pBr_q hP hE n _ _ _ e4
      cases h
      show rpl a.1 + 2 + rwl b.1 + rwl x.1 ≤ _
      omega
    · obtain ⟨x, e4, h⟩ := Option.map_eq_some_iff.mp h
      have l4 := pEx_l e4
      cases h
      show rpl a.1 + 2 + rwl b.1 + 0 ≤ _
      omega
theorem up0 {T : Tr} {r : Int} : up 0 T r = r := up_eq (by
  unfold prc
  split
  · split <;> (try split) <;> (try split) <;> (try split) <;> (try split) <;> (try split) <;> omega
  · decide)
theorem pE_q : ∀ k, lq 0 (pE ch k)
  | 0 => by intro p T q h; cases h
  | k + 1 => by
    have ih := pE_q k
    intro p T q h
    unfold pE at h
    rw [up0]
    have rr : ∀ {p T q}, pE ch k p = some (T, q) → rwl T ≤ q - p := fun h => by have := ih _ _ _ h; rwa [up0] at this
    split at h
    · obtain ⟨a, e1, h⟩ := Option.bind_eq_some_iff.mp h
      obtain ⟨n, e2, h⟩ := Option.bind_eq_some_iff.mp h
      obtain ⟨b, e3, h⟩ := Option.bind_eq_some_iff.mp h
      obtain ⟨x, e4, h⟩ := Option.bind_eq_some_iff.mp h
      obtain ⟨c, e5, h⟩ := Option.bind_eq_some_iff.mp h
      obtain ⟨y, e6, h⟩ := Option.map_eq_some_iff.mp h
      have := pEx_l e1
      have := pNm_l e2
      have := pEx_l e3
      have := rr e4
      have := pEx_l e5
      have := rr e6
      cases h
      show 4 + rwl x.1 + rwl y.1 ≤ _
      omega
    split at h
    · obtain ⟨a, e1, h⟩ := Option.bind_eq_some_iff.mp h
      obtain ⟨x, e2, h⟩ := Option.bind_eq_some_iff.mp h
      obtain ⟨b, e3, h⟩ := Option.bind_eq_some_iff.mp h
      obtain ⟨y, e4, h⟩ := Option.map_eq_some_iff.mp h
      have := pEx_l e1
      have := rr e2
      have := pEx_l e3
      have := pBr_q (pPat_q k) ih _ _ _ _ e4
      cases h
      show 2 + rwl x.1 + rwl y.1 ≤ _
      omega
    split at h
    · obtain ⟨a, e1, h⟩ := Option.bind_eq_some_iff.mp h
      obtain ⟨x, e2, h⟩ := Option.bind_eq_some_iff.mp h
      obtain ⟨b, e3, h⟩ := Option.bind_eq_some_iff.mp h
      obtain ⟨y, e4, h⟩ := Option.bind_eq_some_iff.mp h
      obtain ⟨c, e5, h⟩ := Option.bind_eq_some_iff.mp h
      obtain ⟨z, e6, h⟩ := Option.map_eq_some_iff.mp h
      have := pEx_l e1
      have := rr e2
      have := pEx_l e3
      have := rr e4
      have := pEx_l e5
      have := rr e6
      cases h
      show 3 + rwl x.1 + rwl y.1 + rwl z.1 ≤ _
      omega
    split at h
    · obtain ⟨a, e1, h⟩ := Option.bind_eq_some_iff.mp h
      obtain ⟨n, e2, h⟩ := Option.bind_eq_some_iff.mp h
      obtain ⟨b, e3, h⟩ := Option.bind_eq_some_iff.mp h
      obtain ⟨x, e4, h⟩ := Option.bind_eq_some_iff.mp h
      obtain ⟨c, e5, h⟩ := Option.bind_eq_some_iff.mp h
      obtain ⟨y, e6, h⟩ := Option.map_eq_some_iff.mp h
      have ge := sk_ge (ch := ch) (p := b)
      have := pEx_l e1
      have := pNm_l e2
      have := pEx_l e3
      have := pEx_l e5
      have := rr e6
      split at e4
      · have := rr e4
        cases h
        show 4 + rwl x.1 + rwl y.1 ≤ _
        omega
      · cases e4
    split at h
    · obtain ⟨a, e1, h⟩ := Option.bind_eq_some_iff.mp h
      obtain ⟨n, e2, h⟩ := Option.bind_eq_some_iff.mp h
      obtain ⟨b, e3, h⟩ := Option.bind_eq_some_iff.mp h
      obtain ⟨x, e4, h⟩ := Option.map_eq_some_iff.mp h
      have := pEx_l e1
      have := pNm_l e2
      have := pEx_l e3
      have := rr e4
      cases h
      show 3 + rwl x.1 ≤ _
      omega
    · have := pList_q ih 60 _ _ _ h
      have g := up_ge (l := 1) (T := T) (r := rwl T)
      omega
end LQ
