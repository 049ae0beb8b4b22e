/-! What the trees of the grammar look like. -/
def isE : Tr → Prop
  | .tag k _ => k ≤ 16 ∧ k ≠ 6 ∧ k ≠ 7
  | _ => False
def isBr : Tr → Prop
  | .tag k _ => k = 17
  | _ => False
def isFn : Tr → Prop
  | .tag k _ => k = 12
  | _ => False
def opZ (z : Int) : Prop := z = 42 ∨ z = 43 ∨ z = 45 ∨ z = 47 ∨ z = 60 ∨ z = 61 ∨ z = 170 ∨ z = 171 ∨ z = 173 ∨ z = 175 ∨ z = 188
def ltZ (z : Int) : Prop := 97 ≤ z ∧ z ≤ 122
def wfP : Tr → Prop
  | .tag k (.nest z (.append A (.append B C))) => match k with
    | 0 => (0 ≤ z ∧ z ≤ 9999) ∧ A = nl ∧ B = nl ∧ C = nl
    | 2 => (z = 0 ∨ z = 1) ∧ A = nl ∧ B = nl ∧ C = nl
    | 3 => z = 0 ∧ A = nl ∧ B = nl ∧ C = nl
    | 6 => ltZ z ∧ A = nl ∧ B = nl ∧ C = nl
    | 7 => z = 0 ∧ A = nl ∧ B = nl ∧ C = nl
    | 10 => z = 0 ∧ wfP A ∧ wfP B ∧ C = nl
    | _ => False
  | _ => False
def wf : Tr → Prop
  | .tag k (.nest z (.append A (.append B C))) => match k with
    | 0 => (0 ≤ z ∧ z ≤ 9999) ∧ A = nl ∧ B = nl ∧ C = nl
    | 1 => (0 ≤ z ∧ z ≤ 9999999) ∧ A = nl ∧ B = nl ∧ C = nl
    | 2 => (z = 0 ∨ z = 1) ∧ A = nl ∧ B = nl ∧ C = nl
    | 3 => z = 0 ∧ A = nl ∧ B = nl ∧ C = nl
    | 4 => (z = 82 ∨ z = 73) ∧ A = nl ∧ B = nl ∧ C = nl
    | 5 => ltZ z ∧ A = nl ∧ B = nl ∧ C = nl
    | 8 => z = 0 ∧ isE A ∧ wf A ∧ B = nl ∧ C = nl
    | 9 => opZ z ∧ isE A ∧ wf A ∧ isE B ∧ wf B ∧ C = nl
    | 10 => z = 0 ∧ isE A ∧ wf A ∧ isE B ∧ wf B ∧ C = nl
    | 11 => z = 0 ∧ isE A ∧ wf A ∧ isE B ∧ wf B ∧ C = nl
    | 12 => ltZ z ∧ isE A ∧ wf A ∧ B = nl ∧ C = nl
    | 13 => ltZ z ∧ isE A ∧ wf A ∧ isE B ∧ wf B ∧ C = nl
    | 14 => ltZ z ∧ isFn A ∧ wf A ∧ isE B ∧ wf B ∧ C = nl
    | 15 => z = 0 ∧ isE A ∧ wf A ∧ isE B ∧ wf B ∧ isE C ∧ wf C
    | 16 => z = 0 ∧ isE A ∧ wf A ∧ isBr B ∧ wf B ∧ C = nl
    | 17 => (z = (bnd A).length ∧ (bnd A).Nodup) ∧ wfP A ∧ isE B ∧ wf B ∧ (C = nl ∨ (isBr C ∧ wf C))
    | _ => False
  | _ => False
section WF
variable {ch : Int → Int} {E A : Int → Option (Tr × Int)}
def fw (f : Int → Option (Tr × Int)) : Prop := ∀ p T q, f p = some (T, q) → isE T ∧ wf T
theorem isE_k {k : Nat} {z : Int} {a b c : Tr} (h : k ≤ 16) (h6 : k ≠ 6) (h7 : k ≠ 7) : isE (nd k z a b c) := ⟨h, h6, h7⟩
theorem ten_rg {t n : Int} {k : Nat} (ht : 0 ≤ t ∧ t + 1 ≤ 10 ^ k) (hk : n = k) (hn : k = 1 ∨ k = 2 ∨ k = 3) : 0 ≤ ten t n ∧ ten t n ≤ 999 := by
  have x1 : (10 : Int) ^ 1 = 10 := rfl
  have x2 : (10 : Int) ^ 2 = 100 := rfl
  have x3 : (10 : Int) ^ 3 = 1000 := rfl
  unfold ten
  rcases hn with rfl | rfl | rfl
  · rw [x1] at ht; rw [if_pos (by omega)]; omega
  · rw [x2] at ht; rw [if_neg (by omega), if_pos (by omega)]; omega
  · rw [x3] at ht; rw [if_neg (by omega), if_neg (by omega)]; omega
theorem pDg_rg {m : Nat} {p v q : Int} (hm : m ≤ 4) (h : pDg ch m p = some (v, q)) : ∃ k : Nat, 0 ≤ v ∧ v + 1 ≤ 10 ^ k ∧ 1 ≤ k ∧ k ≤ m ∧ q - p = k := by
  unfold pDg at h
  obtain ⟨c4, c5⟩ := dgf_ps (ch := ch) (m + 1) 0 0 p
  obtain ⟨k2, b5, b6, b7, b8⟩ := dgf_val (ch := ch) (m + 1) 0 0 0 p (by omega) (by decide) rfl
  split at h
  · cases h
  · next w => cases h; exact ⟨k2, b7, by omega, by omega, by omega, by omega⟩
theorem pNum_w : fw (pNum ch) := by
  intro p T q h
  unfold pNum at h
  split at h
  · cases h
  · next w r e =>
    obtain ⟨k, v0, v1, k1, k4, -⟩ := pDg_rg (by decide) e
    have t1 := ten_pow (k := k) (by omega)
    have x4 : (10 : Int) ^ 4 = 10000 := rfl
    have wb : w ≤ 9999 := by
      have : k = 1 ∨ k = 2 ∨ k = 3 ∨ k = 4 := by omega
      rcases this with rfl | rfl | rfl | rfl
      · have : (10 : Int) ^ 1 = 10 := rfl; omega
      · have : (10 : Int) ^ 2 = 100 := rfl; omega
      · have : (10 : Int) ^ 3 = 1000 := rfl; omega
      · omega
    split at h
    · split at h
      · cases h
      · next t r' e' =>
        obtain ⟨k', u0, u1, k1', k3', kq⟩ := pDg_rg (by decide) e'
        have := ten_rg (n := r' - (r + 1)) ⟨u0, u1⟩ kq (by omega)
        cases h
        exact ⟨isE_k (by decide) (by decide) (by decide), ⟨by omega, by omega⟩, rfl, rfl, rfl⟩
    · cases h
      exact ⟨isE_k (by decide) (by decide) (by decide), ⟨v0, wb⟩, rfl, rfl, rfl⟩
theorem pCon_w : fw (pCon ch) := by
  intro p T q h
  unfold pCon at h
  split at h
  · cases h; exact ⟨isE_k (by decide) (by decide) (by decide), Or.inr rfl, rfl, rfl, rfl⟩
  split at h
  · cases h; exact ⟨isE_k (by decide) (by decide) (by decide), Or.inl rfl, rfl, rfl, rfl⟩
  split at h
  · cases h; exact ⟨isE_k (by decide) (by decide) (by decide), rfl, rfl, rfl, rfl⟩
  · cases h
theorem pPlain_w (hE : fw E) : fw (pPlain ch E) := by
  intro p T q h
  unfold pPlain at h
  split at h
  · next w => cases h; exact ⟨isE_k (by decide) (by decide) (by decide), w, rfl, rfl, rfl⟩
  split at h
  · exact pNum_w _ _ _ h
  split at h
  · cases h; exact ⟨isE_k (by decide) (by decide) (by decide), Or.inl rfl, rfl, rfl, rfl⟩
  split at h
  · cases h; exact ⟨isE_k (by decide) (by decide) (by decide), Or.inr rfl, rfl, rfl, rfl⟩
  split at h
  · obtain ⟨t, h1, h⟩ := Option.bind_eq_some_iff.mp h
    obtain ⟨r, h2, h⟩ := Option.map_eq_some_iff.mp h
    have a := hE _ _ _ h1
    cases h; exact a
  · exact pCon_w _ _ _ h
theorem pAtom_w (hE : fw E) : ∀ n, fw (pAtom ch E n)
  | 0 => pPlain_w hE
  | n + 1 => by
    intro p T q h
    unfold pAtom at h
    split at h
    · obtain ⟨t, h1, h⟩ := Option.map_eq_some_iff.mp h
      have a := pAtom_w hE n _ _ _ h1
      cases h
      exact ⟨isE_k (by decide) (by decide) (by decide), rfl, a.1, a.2, rfl, rfl⟩
    · exact pPlain_w hE _ _ _ h
theorem pAppL_w (hA : fw A) : ∀ (n : Nat) (T : Tr) (p : Int), isE T ∧ wf T → ∀ U q, pAppL ch A n T p = some (U, q) → isE U ∧ wf U
  | 0, T, p, h1, U, q, h => by cases h; exact h1
  | n + 1, T, p, h1, U, q, h => by
    unfold pAppL at h
    split at h
    · obtain ⟨t, e1, h⟩ := Option.bind_eq_some_iff.mp h
      have a := hA _ _ _ e1
      exact pAppL_w hA n (nd 11 0 T t.1 nl) _ ⟨isE_k (by decide) (by decide) (by decide), rfl, h1.1, h1.2, a.1, a.2, rfl⟩ U q h
    · cases h; exact h1
theorem pApp_w (hE : fw E) : fw (pApp ch E) := by
  intro p T q h
  obtain ⟨t, e1, h⟩ := Option.bind_eq_some_iff.mp h
  exact pAppL_w (pAtom_w hE 60) 60 _ _ (pAtom_w hE 60 _ _ _ e1) T q h
theorem pOpL_w {u v : Int} (huv : (u = 42 ∧ v = 47) ∨ (u = 43 ∧ v = 45)) (hA : fw A) : ∀ (n : Nat) (T : Tr) (p : Int), isE T ∧ wf T → ∀ U q, pOpL ch A u v n T p = some (U, q) → isE U ∧ wf U
  | 0, T, p, h1, U, q, h => by cases h
  | n + 1, T, p, h1, U, q, h => by
    unfold pOpL at h
    split at h
    · cases h; exact h1
    · next o eo =>
      obtain ⟨lo, zo⟩ := pOp_q eo
      obtain ⟨t, e1, h⟩ := Option.bind_eq_some_iff.mp h
      have a := hA _ _ _ e1
      exact pOpL_w huv hA n (nd 9 o.1 T t.1 nl) _ ⟨isE_k (by decide) (by decide) (by decide), by unfold opZ; omega, h1.1, h1.2, a.1, a.2, rfl⟩ U q h
theorem pProd_w (hE : fw E) : fw (pProd ch E) := by
  intro p T q h
  obtain ⟨t, e1, h⟩ := Option.bind_eq_some_iff.mp h
  exact pOpL_w (Or.inl ⟨rfl, rfl⟩) (pApp_w hE) 60 _ _ (pApp_w hE _ _ _ e1) T q h
theorem pSum_w (hE : fw E) : fw (pSum ch E) := by
  intro p T q h
  obtain ⟨t, e1, h⟩ := Option.bind_eq_some_iff.mp h
  exact pOpL_w (Or.inr ⟨rfl, rfl⟩) (pProd_w hE) 60 _ _ (pProd_w hE _ _ _ e1) T q h
theorem pCmp_w (hE : fw E) : fw (pCmp ch E) := by
  intro p T q h
  obtain ⟨t, e1, h⟩ := Option.bind_eq_some_iff.mp h
  have a := pSum_w hE _ _ _ e1
  split at h
  · obtain ⟨r, e2, h⟩ := Option.map_eq_some_iff.mp h
    have b := pSum_w hE _ _ _ e2
    cases h
    exact ⟨isE_k (by decide) (by decide) (by decide), by unfold opZ; omega, a.1, a.2, b.1, b.2, rfl⟩
  · split at h
    · cases h; exact a
    · next o eo =>
      obtain ⟨lo, zo⟩ := pOp_q eo
      obtain ⟨r, e2, h⟩ := Option.map_eq_some_iff.mp h
      have b := pSum_w hE _ _ _ e2
      cases h
      exact ⟨isE_k (by decide) (by decide) (by decide), by unfold opZ; omega, a.1, a.2, b.1, b.2, rfl⟩
theorem pList_w (hE : fw E) : ∀ n, fw (pList ch E n)
  | 0 => by intro p T q h; cases h
  | n + 1 => by
    intro p T q h
    unfold pList at h
    obtain ⟨t, e1, h⟩ := Option.bind_eq_some_iff.mp h
    have a := pCmp_w hE _ _ _ e1
    split at h
    · obtain ⟨r, e2, h⟩ := Option.map_eq_some_iff.mp h
      have b := pList_w hE n _ _ _ e2
      cases h
      exact ⟨isE_k (by decide) (by decide) (by decide), rfl, a.1, a.2, b.1, b.2, rfl⟩
    · cases h; exact a
def fwp (P : Int → List Int → PaR) : Prop := ∀ p L t, P p L = some t → wfP t.1 ∧ t.2.2 = (bnd t.1).reverse ++ L ∧ (L.Nodup → t.2.2.Nodup)
theorem bnd_lf {k : Nat} {z : Int} (h : k ≠ 6) : bnd (nd k z nl nl nl) = [] := by
  show (if k = 6 then [z] else bnd nl ++ bnd nl) = []
  rw [if_neg h]; rfl
theorem pPart_w {P : Int → List Int → PaR} (hP : fwp P) : fwp (pPart ch P) := by
  intro p L t h
  unfold pPart at h
  split at h
  · next w =>
    split at h
    · cases h
    · next w2 => cases h; exact ⟨⟨w, rfl, rfl, rfl⟩, rfl, fun hL => List.nodup_cons.mpr ⟨w2, hL⟩⟩
  split at h
  · obtain ⟨r, e2, h⟩ := Option.map_eq_some_iff.mp h
    obtain ⟨k, v0, v1, k1, k4, -⟩ := pDg_rg (q := r.2) (v := r.1) (by decide) e2
    have wb : r.1 ≤ 9999 := by
      have : k = 1 ∨ k = 2 ∨ k = 3 ∨ k = 4 := by omega
      rcases this with rfl | rfl | rfl | rfl
      · have : (10 : Int) ^ 1 = 10 := rfl; omega
      · have : (10 : Int) ^ 2 = 100 := rfl; omega
      · have : (10 : Int) ^ 3 = 1000 := rfl; omega
      · have : (10 : Int) ^ 4 = 10000 := rfl; omega
    cases h; exact ⟨⟨⟨v0, wb⟩, rfl, rfl, rfl⟩, by rw [bnd_lf (by decide)]; rfl, fun hL => hL⟩
  split at h
  · cases h; exact ⟨⟨rfl, rfl, rfl, rfl⟩, by rw [bnd_lf (by decide)]; rfl, fun hL => hL⟩
  split at h
  · obtain ⟨s, e1, h⟩ := Option.bind_eq_some_iff.mp h
    obtain ⟨r, e2, h⟩ := Option.map_eq_some_iff.mp h
    have a := hP _ _ _ e1
    cases h; exact a
  · obtain ⟨r, e2, h⟩ := Option.map_eq_some_iff.mp h
    cases h
    unfold pCon at e2
    split at e2
    · cases e2; exact ⟨⟨Or.inr rfl, rfl, rfl, rfl⟩, by rw [bnd_lf (by decide)]; rfl, fun hL => hL⟩
    split at e2
    · cases e2; exact ⟨⟨Or.inl rfl, rfl, rfl, rfl⟩, by rw [bnd_lf (by decide)]; rfl, fun hL => hL⟩
    split at e2
    · cases e2; exact ⟨⟨rfl, rfl, rfl, rfl⟩, by rw [bnd_lf (by decide)]; rfl, fun hL => hL⟩
    · cases e2
theorem pPat_w : ∀ k, fwp (pPat ch k)
  | 0 => by intro p L t h; cases h
  | k + 1 => by
    intro p L t h
    unfold pPat at h
    obtain ⟨s, e1, h⟩ := Option.bind_eq_some_iff.mp h
    obtain ⟨a1, a2, a3⟩ := pPart_w (pPat_w k) _ _ _ e1
    split at h
    · obtain ⟨r, e2, h⟩ := Option.map_eq_some_iff.mp h
      obtain ⟨b1, b2, b3⟩ := pPat_w k _ _ _ e2
      cases h
      refine ⟨⟨rfl, a1, b1, rfl⟩, ?_, fun hL => b3 (a3 hL)⟩
      show r.2.2 = (if (10 : Nat) = 6 then [(0 : Int)] else bnd s.1 ++ bnd r.1).reverse ++ L
      rw [if_neg (by decide), List.reverse_append, List.append_assoc, ← a2]; exact b2
    · cases h; exact ⟨a1, a2, a3⟩
theorem pBr_w {P : Int → List Int → PaR} (hP : fwp P) (hE : fw E) : ∀ (n : Nat) (p : Int) (T : Tr) (q : Int), pBr ch P E n p = some (T, q) → isBr T ∧ wf T
  | 0, p, T, q, h => by cases h
  | n + 1, p, T, q, h => by
    unfold pBr at h
    obtain ⟨a, e1, h⟩ := Option.bind_eq_some_iff.mp h
    obtain ⟨r, e2, h⟩ := Option.bind_eq_some_iff.mp h
    obtain ⟨b, e3, h⟩ := Option.bind_eq_some_iff.mp h
    obtain ⟨p1, p2, p3⟩ := hP _ _ _ e1
    have p3 := p3 List.nodup_nil
    rw [List.append_nil] at p2
    rw [p2] at p3
    have ll : (a.2.2.length : Int) = (bnd a.1).length := by rw [p2, List.length_reverse]
    have l3 := hE _ _ _ e3
    split at h
    · obtain ⟨x, e4, h⟩ := Option.map_eq_some_iff.mp h
      have l4 := pBr_w hP hE n _ _ _ e4
      cases h
      exact ⟨rfl, ⟨ll, (List.pairwise_reverse.mp p3).imp (fun h => h.symm)⟩, p1, l3.1, l3.2, Or.inr l4⟩
    · obtain ⟨x, e4, h⟩ := Option.map_eq_some_iff.mp h
      cases h
      exact ⟨rfl, ⟨ll, (List.pairwise_reverse.mp p3).imp (fun h => h.symm)⟩, p1, l3.1, l3.2, Or.inl rfl⟩
theorem pFn_k (hE : fw E) {p : Int} {T : Tr} {q : Int} (h : pFn ch E p = some (T, q)) : isFn T ∧ wf T := by
  obtain ⟨a, e1, h⟩ := Option.bind_eq_some_iff.mp h
  obtain ⟨n, e2, h⟩ := Option.bind_eq_some_iff.mp h
  obtain ⟨b, e3, h⟩ := Option.bind_eq_some_iff.mp h
  obtain ⟨x, e4, h⟩ := Option.map_eq_some_iff.mp h
  have a4 := hE _ _ _ e4
  unfold pNm at e2
  split at e2
  · next w =>
    cases e2; cases h
    exact ⟨rfl, w, a4.1, a4.2, rfl, rfl⟩
  · cases e2
theorem pE_w : ∀ k, fw (pE ch k)
  | 0 => by intro p T q h; cases h
  | k + 1 => by
    have ih := pE_w k
    intro p T q h
    unfold pE at h
    split at h
    · obtain ⟨a, e1, h⟩ := Option.bind_eq_some_iff.mp h
      obtain ⟨n, e2, h⟩ := Option.bind_eq_some_iff.mp h
      obtain ⟨b, e3, h⟩ := Option.bind_eq_some_iff.mp h
      obtain ⟨x, e4, h⟩ := Option.bind_eq_some_iff.mp h
      obtain ⟨c, e5, h⟩ := Option.bind_eq_some_iff.mp h
      obtain ⟨y, e6, h⟩ := Option.map_eq_some_iff.mp h
      have a4 := ih _ _ _ e4
      have a6 := ih _ _ _ e6
      unfold pNm at e2
      split at e2
      · next w =>
        cases e2; cases h
        exact ⟨isE_k (by decide) (by decide) (by decide), w, a4.1, a4.2, a6.1, a6.2, rfl⟩
      · cases e2
    split at h
    · obtain ⟨a, e1, h⟩ := Option.bind_eq_some_iff.mp h
      obtain ⟨x, e2, h⟩ := Option.bind_eq_some_iff.mp h
      obtain ⟨b, e3, h⟩ := Option.bind_eq_some_iff.mp h
      obtain ⟨y, e4, h⟩ := Option.map_eq_some_iff.mp h
      have a2 := ih _ _ _ e2
      have a4 := pBr_w (pPat_w k) ih _ _ _ _ e4
      cases h
      exact ⟨isE_k (by decide) (by decide) (by decide), rfl, a2.1, a2.2, a4.1, a4.2, rfl⟩
    split at h
    · obtain ⟨a, e1, h⟩ := Option.bind_eq_some_iff.mp h
      obtain ⟨x, e2, h⟩ := Option.bind_eq_some_iff.mp h
      obtain ⟨b, e3, h⟩ := Option.bind_eq_some_iff.mp h
      obtain ⟨y, e4, h⟩ := Option.bind_eq_some_iff.mp h
      obtain ⟨c, e5, h⟩ := Option.bind_eq_some_iff.mp h
      obtain ⟨z, e6, h⟩ := Option.map_eq_some_iff.mp h
      have a2 := ih _ _ _ e2
      have a4 := ih _ _ _ e4
      have a6 := ih _ _ _ e6
      cases h
      exact ⟨isE_k (by decide) (by decide) (by decide), rfl, a2.1, a2.2, a4.1, a4.2, a6.1, a6.2⟩
    split at h
    · obtain ⟨a, e1, h⟩ := Option.bind_eq_some_iff.mp h
      obtain ⟨n, e2, h⟩ := Option.bind_eq_some_iff.mp h
      obtain ⟨b, e3, h⟩ := Option.bind_eq_some_iff.mp h
      obtain ⟨x, e4, h⟩ := Option.bind_eq_some_iff.mp h
      obtain ⟨c, e5, h⟩ := Option.bind_eq_some_iff.mp h
      obtain ⟨y, e6, h⟩ := Option.map_eq_some_iff.mp h
      have a6 := ih _ _ _ e6
      unfold pNm at e2
      split at e2
      · next w =>
        split at e4
        · next w4 =>
          have f4 : isFn x.1 ∧ wf x.1 := by
            have w5 : nx ch (sk ch b) = 92 ∨ sk ch (sk ch b) ≠ sk ch b := by
              by_cases z : sk ch (sk ch b) = sk ch b
              · left; unfold nx; rw [z]; exact w4
              · exact Or.inr z
            rcases w5 with w5 | w5
            · cases k with
              | zero => cases e4
              | succ k =>
                have e4' := e4
                unfold pE at e4
                rw [w5, if_neg (by decide), if_neg (by decide), if_neg (by decide), if_neg (by decide), if_pos rfl] at e4
                exact pFn_k (pE_w k) e4
            · exfalso
              apply w5
              show skf ch 60 (sk ch b) = sk ch b
              have h92 : ch (sk ch b) ≠ 32 := fun h => by
                have : ch (sk ch b) = 92 := w4
                omega
              rw [skf, if_neg h92]
          cases e2; cases h
          exact ⟨isE_k (by decide) (by decide) (by decide), w, f4.1, f4.2, a6.1, a6.2, rfl⟩
        · cases e4
      · cases e2
    split at h
    · obtain ⟨a1, a2⟩ := pFn_k ih h
      refine ⟨?_, a2⟩
      unfold isFn at a1
      split at a1
      · next j _ => exact ⟨by omega, by omega, by omega⟩
      · exact a1.elim
    · exact pList_w ih 60 _ _ _ h
theorem pLine_w {T : Tr} (h : pLine ch = some T) : isE T ∧ wf T ∧ ∃ q, rwl T ≤ q ∧ (nx ch q = -1) := by
  unfold pLine at h
  split at h
  · cases h
  · next T' q e =>
    split at h
    · next w =>
      cases h
      have a := pE_w 16 _ _ _ e
      have b := pE_q 16 _ _ _ e
      rw [up0] at b
      exact ⟨a.1, a.2, q, by omega, w⟩
    · cases h
end WF
