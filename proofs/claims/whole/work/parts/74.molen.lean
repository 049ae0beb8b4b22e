/-! How long a tree is against what it is read from. -/
section LEN
variable {ch : Int → Int} {E : Int → Option (Tr × Int)} {A : Int → Option (Tr × Int)}
def lp (f : Int → Option (Tr × Int)) : Prop := ∀ p T q, f p = some (T, q) → ln T + 1 ≤ 2 * (q - p) ∧ sn T ≤ q - p
theorem lf_l {k : Nat} {z : Int} (hk : k ≤ 5) : ln (nd k z nl nl nl) = 1 ∧ sn (nd k z nl nl nl) = 0 := by
  match k, hk with
  | 0, _ => exact ⟨rfl, rfl⟩
  | 1, _ => exact ⟨rfl, rfl⟩
  | 2, _ => exact ⟨rfl, rfl⟩
  | 3, _ => exact ⟨rfl, rfl⟩
  | 4, _ => exact ⟨rfl, rfl⟩
  | 5, _ => exact ⟨rfl, rfl⟩
theorem dgf_ps : ∀ (n : Nat) (v c p : Int), (dgf ch n v c p).2.2 - p = (dgf ch n v c p).2.1 - c ∧ p ≤ (dgf ch n v c p).2.2
  | 0, v, c, p => by show p - p = c - c ∧ p ≤ p; omega
  | n + 1, v, c, p => by
    unfold dgf
    split
    · have := dgf_ps n (v * 10 + ch p - 48) (c + 1) (p + 1); omega
    · dsimp only; omega
theorem pDg_l {m : Nat} {p v q : Int} (h : pDg ch m p = some (v, q)) : p < q := by
  unfold pDg at h
  have := dgf_ps (ch := ch) (m + 1) 0 0 p
  split at h
  · cases h
  · next w => cases h; omega
theorem pNum_l {p : Int} {T : Tr} {q : Int} (h : pNum ch p = some (T, q)) : ln T = 1 ∧ sn T = 0 ∧ p < q := by
  unfold pNum at h
  split at h
  · cases h
  · next w r e =>
    have l1 := pDg_l e
    split at h
    · split at h
      · cases h
      · next t r' e' =>
        have l2 := pDg_l e'
        cases h
        exact ⟨(lf_l (by decide)).1, (lf_l (by decide)).2, by omega⟩
    · cases h
      exact ⟨(lf_l (by decide)).1, (lf_l (by decide)).2, l1⟩
theorem pCon_l {p : Int} {T : Tr} {q : Int} (h : pCon ch p = some (T, q)) : ln T = 1 ∧ sn T = 0 ∧ pn T = 1 ∧ p < q := by
  have ge := sk_ge (ch := ch) (p := p)
  unfold pCon at h
  split at h
  · cases h; exact ⟨(lf_l (by decide)).1, (lf_l (by decide)).2, rfl, by omega⟩
  split at h
  · cases h; exact ⟨(lf_l (by decide)).1, (lf_l (by decide)).2, rfl, by omega⟩
  split at h
  · cases h; exact ⟨(lf_l (by decide)).1, (lf_l (by decide)).2, rfl, by omega⟩
  · cases h
theorem pEx_l {c p q : Int} (h : pEx ch c p = some q) : p < q := by
  have ge := sk_ge (ch := ch) (p := p)
  unfold pEx at h
  split at h
  · cases h; omega
  · cases h
theorem pNm_l {p : Int} {r : Int × Int} (h : pNm ch p = some r) : p < r.2 := by
  have ge := sk_ge (ch := ch) (p := p)
  unfold pNm at h
  split at h
  · cases h; dsimp only; omega
  · cases h
theorem pPlain_l (hE : lp E) : lp (pPlain ch E) := by
  intro p T q h
  have ge := sk_ge (ch := ch) (p := p)
  unfold pPlain at h
  split at h
  · cases h; rw [(lf_l (by decide)).1, (lf_l (by decide)).2]; omega
  split at h
  · obtain ⟨h1, h2, h3⟩ := pNum_l h; omega
  split at h
  · cases h; rw [(lf_l (by decide)).1, (lf_l (by decide)).2]; omega
  split at h
  · cases h; rw [(lf_l (by decide)).1, (lf_l (by decide)).2]; omega
  split at h
  · obtain ⟨t, h1, h⟩ := Option.bind_eq_some_iff.mp h
    obtain ⟨r, h2, h⟩ := Option.map_eq_some_iff.mp h
    have := hE _ _ _ h1
    have := pEx_l h2
    cases h; omega
  · obtain ⟨h1, h2, -, h3⟩ := pCon_l h; omega
theorem pAtom_l (hE : lp E) : ∀ n, lp (pAtom ch E n)
  | 0 => pPlain_l hE
  | n + 1 => by
    intro p T q h
    have ge := sk_ge (ch := ch) (p := p)
    unfold pAtom at h
    split at h
    · obtain ⟨t, h1, h⟩ := Option.map_eq_some_iff.mp h
      have l := pAtom_l hE n _ _ _ h1
      cases h
      have e1 : ln (nd 8 0 t.1 nl nl) = ln t.1 + 1 := rfl
      have e2 : sn (nd 8 0 t.1 nl nl) = sn t.1 + 0 + 0 := rfl
      omega
    · exact pPlain_l hE _ _ _ h
theorem two_l {k : Nat} {z : Int} {T U : Tr} (hk : k = 9 ∨ k = 10 ∨ k = 11) : ln (nd k z T U nl) = ln T + ln U + 1 ∧ sn (nd k z T U nl) = sn T + sn U := by
  have e : ∀ {x y : Int}, x + y + 0 = x + y := by intro x y; omega
  rcases hk with rfl | rfl | rfl
  · exact ⟨rfl, e⟩
  · exact ⟨rfl, e⟩
  · exact ⟨rfl, e⟩
theorem pAppL_l (hA : lp A) : ∀ (n : Nat) (T : Tr) (p p0 : Int), ln T + 1 ≤ 2 * (p - p0) → sn T ≤ p - p0 → ∀ U q, pAppL ch A n T p = some (U, q) → ln U + 1 ≤ 2 * (q - p0) ∧ sn U ≤ q - p0
  | 0, T, p, p0, h1, h2, U, q, h => by cases h; exact ⟨h1, h2⟩
  | n + 1, T, p, p0, h1, h2, U, q, h => by
    have ge := sk_ge (ch := ch) (p := p)
    unfold pAppL at h
    split at h
    · obtain ⟨t, e1, h⟩ := Option.bind_eq_some_iff.mp h
      have l := hA _ _ _ e1
      obtain ⟨e2, e3⟩ := two_l (k := 11) (z := 0) (T := T) (U := t.1) (by decide)
      exact pAppL_l hA n _ _ p0 (by omega) (by omega) U q h
    · cases h; omega
theorem pOp_l {u v p : Int} {o : Int × Int} (h : pOp ch u v p = some o) : p < o.2 := by
  have ge := sk_ge (ch := ch) (p := p)
  unfold pOp at h
  split at h
  · split at h
    · cases h; dsimp only; omega
    · cases h; dsimp only; omega
  · cases h
theorem pOpL_l {u v : Int} (hA : lp A) : ∀ (n : Nat) (T : Tr) (p p0 : Int), ln T + 1 ≤ 2 * (p - p0) → sn T ≤ p - p0 → ∀ U q, pOpL ch A u v n T p = some (U, q) → ln U + 1 ≤ 2 * (q - p0) ∧ sn U ≤ q - p0
  | 0, T, p, p0, h1, h2, U, q, h => by cases h
  | n + 1, T, p, p0, h1, h2, U, q, h => by
    have ge := sk_ge (ch := ch) (p := p)
    unfold pOpL at h
    split at h
    · cases h; omega
    · next o e =>
      have lo := pOp_l e
      obtain ⟨t, e1, h⟩ := Option.bind_eq_some_iff.mp h
      have l := hA _ _ _ e1
      obtain ⟨e2, e3⟩ := two_l (k := 9) (z := o.1) (T := T) (U := t.1) (by decide)
      exact pOpL_l hA n _ _ p0 (by omega) (by omega) U q h
theorem pApp_l (hE : lp E) : lp (pApp ch E) := by
  intro p T q h
  obtain ⟨t, e1, h⟩ := Option.bind_eq_some_iff.mp h
  have l := pAtom_l hE 60 _ _ _ e1
  exact pAppL_l (pAtom_l hE 60) 60 _ _ p l.1 l.2 T q h
theorem pProd_l (hE : lp E) : lp (pProd ch E) := by
  intro p T q h
  obtain ⟨t, e1, h⟩ := Option.bind_eq_some_iff.mp h
  have l := pApp_l hE _ _ _ e1
  exact pOpL_l (pApp_l hE) 60 _ _ p l.1 l.2 T q h
theorem pSum_l (hE : lp E) : lp (pSum ch E) := by
  intro p T q h
  obtain ⟨t, e1, h⟩ := Option.bind_eq_some_iff.mp h
  have l := pProd_l hE _ _ _ e1
  exact pOpL_l (pProd_l hE) 60 _ _ p l.1 l.2 T q h
theorem pCmp_l (hE : lp E) : lp (pCmp ch E) := by
  intro p T q h
  obtain ⟨t, e1, h⟩ := Option.bind_eq_some_iff.mp h
  have l := pSum_l hE _ _ _ e1
  have ge := sk_ge (ch := ch) (p := t.2)
  split at h
  · obtain ⟨r, e2, h⟩ := Option.map_eq_some_iff.mp h
    have l2 := pSum_l hE _ _ _ e2
    obtain ⟨e3, e4⟩ := two_l (k := 9) (z := 61) (T := t.1) (U := r.1) (by decide)
    cases h; omega
  · split at h
    · cases h; omega
    · next o eo =>
      have lo := pOp_l eo
      obtain ⟨r, e2, h⟩ := Option.map_eq_some_iff.mp h
      have l2 := pSum_l hE _ _ _ e2
      obtain ⟨e3, e4⟩ := two_l (k := 9) (z := o.1) (T := t.1) (U := r.1) (by decide)
      cases h; omega
theorem pList_l (hE : lp E) : ∀ n, lp (pList ch E n)
  | 0 => by intro p T q h; cases h
  | n + 1 => by
    intro p T q h
    unfold pList at h
    obtain ⟨t, e1, h⟩ := Option.bind_eq_some_iff.mp h
    have l := pCmp_l hE _ _ _ e1
    have ge := sk_ge (ch := ch) (p := t.2)
    split at h
    · obtain ⟨r, e2, h⟩ := Option.map_eq_some_iff.mp h
      have l2 := pList_l hE n _ _ _ e2
      obtain ⟨e3, e4⟩ := two_l (k := 10) (z := 0) (T := t.1) (U := r.1) (by decide)
      cases h; omega
    · cases h; omega
def lpp (P : Int → List Int → PaR) : Prop := ∀ p L t, P p L = some t → pn t.1 ≤ t.2.1 - p ∧ p < t.2.1
theorem pPart_l {P : Int → List Int → PaR} (hP : lpp P) : lpp (pPart ch P) := by
  intro p L t h
  have ge := sk_ge (ch := ch) (p := p)
  unfold pPart at h
  split at h
  · split at h
    · cases h
    · cases h
      have : pn (nd 6 (nx ch p) nl nl nl) = 1 := rfl
      dsimp only; omega
  split at h
  · obtain ⟨r, e2, h⟩ := Option.map_eq_some_iff.mp h
    have l := pDg_l (q := r.2) (v := r.1) e2
    cases h
    have : pn (nd 0 r.1 nl nl nl) = 1 := rfl
    dsimp only; omega
  split at h
  · cases h
    have : pn (nd 7 0 nl nl nl) = 1 := rfl
    dsimp only; omega
  split at h
  · obtain ⟨s, e1, h⟩ := Option.bind_eq_some_iff.mp h
    obtain ⟨r, e2, h⟩ := Option.map_eq_some_iff.mp h
    have l := hP _ _ _ e1
    have l2 := pEx_l e2
    cases h
    dsimp only; omega
  · obtain ⟨r, e2, h⟩ := Option.map_eq_some_iff.mp h
    obtain ⟨-, -, l1, l2⟩ := pCon_l (T := r.1) (q := r.2) e2
    cases h
    dsimp only; omega
theorem pPat_l : ∀ k, lpp (pPat ch k)
  | 0 => by intro p L t h; cases h
  | k + 1 => by
    intro p L t h
    unfold pPat at h
    obtain ⟨s, e1, h⟩ := Option.bind_eq_some_iff.mp h
    have l := pPart_l (pPat_l k) _ _ _ e1
    have ge := sk_ge (ch := ch) (p := s.2.1)
    split at h
    · obtain ⟨r, e2, h⟩ := Option.map_eq_some_iff.mp h
      have l2 := pPat_l k _ _ _ e2
      cases h
      have : pn (nd 10 0 s.1 r.1 nl) = pn s.1 + pn r.1 + 1 := rfl
      dsimp only; omega
    · cases h
      dsimp only; omega
theorem pBr_l {P : Int → List Int → PaR} (hP : lpp P) (hE : lp E) : ∀ (n : Nat) (p : Int) (T : Tr) (q : Int), pBr ch P E n p = some (T, q) → ln T + 1 ≤ 2 * (q - p) ∧ sn T + 1 ≤ q - p
  | 0, p, T, q, h => by cases h
  | n + 1, p, T, q, h => by
    unfold pBr at h
    obtain ⟨a, e1, h⟩ := Option.bind_eq_some_iff.mp h
    obtain ⟨r, e2, h⟩ := Option.bind_eq_some_iff.mp h
    obtain ⟨b, e3, h⟩ := Option.bind_eq_some_iff.mp h
    have l1 := hP _ _ _ e1
    have l2 := pEx_l e2
    have l3 := hE _ _ _ e3
    have g1 := sn_ge (T := b.1)
    have ge := sk_ge (ch := ch) (p := b.2)
    split at h
    · obtain ⟨x, e4, h⟩ := Option.map_eq_some_iff.mp h
      have l4 := pBr_l hP hE n _ _ _ e4
      cases h
      have h1 : ln (nd 17 a.2.2.length a.1 b.1 x.1) = ln b.1 + ln x.1 + 3 := rfl
      have h2 : sn (nd 17 a.2.2.length a.1 b.1 x.1) = pn a.1 + sn b.1 + sn x.1 := rfl
      omega
    · obtain ⟨x, e4, h⟩ := Option.map_eq_some_iff.mp h
      have l4 := pEx_l e4
      cases h
      have h1 : ln (nd 17 a.2.2.length a.1 b.1 nl) = ln b.1 + 0 + 3 := rfl
      have h2 : sn (nd 17 a.2.2.length a.1 b.1 nl) = pn a.1 + sn b.1 + 0 := rfl
      omega
end LEN
