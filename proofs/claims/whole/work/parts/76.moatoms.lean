/-! The model skips blanks behind what follows a ~: the same applications. -/
def pAtomM (ch : Int → Int) (E : Int → Option (Tr × Int)) : Nat → Int → Option (Tr × Int)
  | 0, p => pPlain ch E p
  | n + 1, p => if nx ch p = 126 then (pAtomM ch E n (sk ch p + 1)).map (fun q => (nd 8 0 q.1 nl nl, sk ch q.2)) else pPlain ch E p
section ATM
variable {σ : Mem} {E : Int → Option (Tr × Int)} {ch : Int → Int}
theorem MI.sk_sk (H : MI σ) {p : Int} (hp : 0 ≤ p) : sk (mch σ) (sk (mch σ) p) = sk (mch σ) p := by
  have h : mch σ (sk (mch σ) p) ≠ 32 := skf_stop (m := σ 58 2) (fun x hx => by rw [mch_end hx]; decide) 60 p (by have := H.2.1; omega)
  show skf (mch σ) 60 (sk (mch σ) p) = _
  rw [skf, if_neg h]
theorem pAtomM_l (hE : lp E) : ∀ n, lp (pAtomM ch E n)
  | 0 => pPlain_l hE
  | n + 1 => by
    intro p T q h
    have ge := sk_ge (ch := ch) (p := p)
    unfold pAtomM at h
    split at h
    · obtain ⟨t, h1, h⟩ := Option.map_eq_some_iff.mp h
      have l := pAtomM_l hE n _ _ _ h1
      have ge2 := sk_ge (ch := ch) (p := t.2)
      cases h
      have e1 : ln (nd 8 0 t.1 nl nl) = ln t.1 + 1 := rfl
      have e2 : sn (nd 8 0 t.1 nl nl) = sn t.1 + 0 + 0 := rfl
      omega
    · exact pPlain_l hE _ _ _ h
/-- alike but for blanks behind -/
def alk (ch : Int → Int) (P Q : Option (Tr × Int)) : Prop := match P with
  | none => Q = none
  | some t => ∃ q', Q = some (t.1, q') ∧ t.2 ≤ q' ∧ sk ch q' = sk ch t.2
theorem alk_rf {P : Option (Tr × Int)} : alk ch P P := by
  cases P with
  | none => rfl
  | some t => exact ⟨t.2, rfl, Int.le_refl _, rfl⟩
theorem pAtom_alk (H : MI σ) (hE : lp E) : ∀ (n : Nat) (p : Int), 0 ≤ p → alk (mch σ) (pAtom (mch σ) E n p) (pAtomM (mch σ) E n p)
  | 0, p, _ => alk_rf
  | n + 1, p, h0 => by
    have ge := sk_ge (ch := mch σ) (p := p)
    unfold pAtom pAtomM
    by_cases c : nx (mch σ) p = 126
    · rw [if_pos c, if_pos c]
      have ih := pAtom_alk H hE n (sk (mch σ) p + 1) (by omega)
      cases hA : pAtom (mch σ) E n (sk (mch σ) p + 1) with
      | none =>
        rw [hA] at ih
        have ih : pAtomM (mch σ) E n (sk (mch σ) p + 1) = none := ih
        rw [ih]; rfl
      | some t =>
        rw [hA] at ih
        obtain ⟨q', e1, e2, e3⟩ := ih
        have l := pAtom_l hE n _ _ _ hA
        have g := ln_ge (T := t.1)
        have ge2 := sk_ge (ch := mch σ) (p := q')
        rw [e1]
        exact ⟨sk (mch σ) q', rfl, by dsimp only; omega, by dsimp only; rw [H.sk_sk (by omega), e3]⟩
    · rw [if_neg c, if_neg c]; exact alk_rf
theorem pAppL_alk (H : MI σ) (hE : lp E) : ∀ (n : Nat) (T : Tr) (p p' : Int), 0 ≤ p → p ≤ p' → sk (mch σ) p' = sk (mch σ) p → σ 58 2 - p ≤ n → pAppL (mch σ) (pAtom (mch σ) E 60) n T p = pAppL (mch σ) (pAtomM (mch σ) E 60) n T p'
  | 0, T, p, p', h0, hp, hs, hn => by
    have s1 : sk (mch σ) p = p := by unfold sk; rw [skf, if_neg (by rw [mch_end (by omega)]; decide)]
    have s2 : sk (mch σ) p' = p' := by unfold sk; rw [skf, if_neg (by rw [mch_end (by omega)]; decide)]
    show some (T, p) = some (T, p')
    rw [← s1, ← s2, hs]
  | n + 1, T, p, p', h0, hp, hs, hn => by
    have ge := sk_ge (ch := mch σ) (p := p)
    unfold pAppL
    have e : nx (mch σ) p' = nx (mch σ) p := by unfold nx; rw [hs]
    rw [e, hs]
    by_cases c : stb (nx (mch σ) p) = true
    · rw [if_pos c, if_pos c]
      have a := pAtom_alk H hE 60 (sk (mch σ) p) (by omega)
      cases hA : pAtom (mch σ) E 60 (sk (mch σ) p) with
      | none =>
        rw [hA] at a
        have a : pAtomM (mch σ) E 60 (sk (mch σ) p) = none := a
        rw [a, Option.bind_none, Option.bind_none]
      | some t =>
        rw [hA] at a
        obtain ⟨q', e1, e2, e3⟩ := a
        have l := pAtom_l hE 60 _ _ _ hA
        have g := ln_ge (T := t.1)
        rw [e1]
        show pAppL (mch σ) (pAtom (mch σ) E 60) n (nd 11 0 T t.1 nl) t.2 = pAppL (mch σ) (pAtomM (mch σ) E 60) n (nd 11 0 T t.1 nl) q'
        exact pAppL_alk H hE n _ _ _ (by omega) e2 e3 (by omega)
    · rw [if_neg c, if_neg c]
theorem pApp_alk (H : MI σ) (hE : lp E) {p : Int} (h0 : 0 ≤ p) : pApp (mch σ) E p = (pAtomM (mch σ) E 60 p).bind fun t => pAppL (mch σ) (pAtomM (mch σ) E 60) 60 t.1 t.2 := by
  unfold pApp
  have a := pAtom_alk H hE 60 p h0
  cases hA : pAtom (mch σ) E 60 p with
  | none =>
    rw [hA] at a
    have a : pAtomM (mch σ) E 60 p = none := a
    rw [a, Option.bind_none, Option.bind_none]
  | some t =>
    rw [hA] at a
    obtain ⟨q', e1, e2, e3⟩ := a
    have l := pAtom_l hE 60 _ _ _ hA
    have g := ln_ge (T := t.1)
    have h60 := H.2.1
    rw [e1]
    exact pAppL_alk H hE 60 _ _ _ (by omega) e2 e3 (by omega)
end ATM
/-- from the model's atoms to lists -/
theorem s_molistM {k : Nat} {D : Int} (hA : GSp D 6 (fun ch => pAtomM ch (pE ch k) 60)) : GSp D 1 (fun ch => pList ch (pE ch k) 60) := by
  have l6 : Lp (fun ch => pAtomM ch (pE ch k) 60) := fun ch => pAtomM_l (pE_l k) 60
  have h5' := s_moapp hA l6
  have h5 : GSp D 5 (fun ch => pApp ch (pE ch k)) := fun σ H hD => by
    have := h5' σ H hD
    show DnM (pApp (mch σ) (pE (mch σ) k) (σ 58 3)) σ
    rw [pApp_alk H.1 (pE_l k) H.2.2.1.1]
    exact this
  have l5 : Lp (fun ch => pApp ch (pE ch k)) := fun ch => pApp_l (pE_l k)
  have h4 : GSp D 4 (fun ch => pProd ch (pE ch k)) := s_moop (g := 4) (u := 42) (v := 47) (by decide) h5 l5
  have l4 : Lp (fun ch => pProd ch (pE ch k)) := fun ch => pProd_l (pE_l k)
  have h3 : GSp D 3 (fun ch => pSum ch (pE ch k)) := s_moop (g := 3) (u := 43) (v := 45) (by decide) h4 l4
  have l3 : Lp (fun ch => pSum ch (pE ch k)) := fun ch => pSum_l (pE_l k)
  have h2 : GSp D 2 (fun ch => pCmp ch (pE ch k)) := s_mocmp h3 l3
  have l2 : Lp (fun ch => pCmp ch (pE ch k)) := fun ch => pCmp_l (pE_l k)
  intro σ H hD
  have h60 := H.1.2.1
  have h3' := H.2.2.1
  exact molist_l (F := fun ch n => pList ch (pE ch k) n) h2 l2 (fun ch n p => rfl) (fun n ch => pList_l (pE_l k) n) 60 σ H hD (by omega)
