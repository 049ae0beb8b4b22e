/-! How long a tree is: any expression. The chain of operands. -/
section LEN2
variable {ch : Int → Int} {E : Int → Option (Tr × Int)} {P : Int → List Int → PaR}
theorem pFn_l (hE : lp E) : lp (pFn ch E) := by
  intro p T q h
  obtain ⟨a, e1, h⟩ := Option.bind_eq_some_iff.mp h
  obtain ⟨n, e2, h⟩ := Option.bind_eq_some_iff.mp h
  obtain ⟨b, e3, h⟩ := Option.bind_eq_some_iff.mp h
  obtain ⟨x, e4, h⟩ := Option.map_eq_some_iff.mp h
  have := pEx_l e1
  have := pNm_l e2
  have := pEx_l e3
  have := hE _ _ _ e4
  cases h
  have h1 : ln (nd 12 n.1 x.1 nl nl) = ln x.1 + 2 := rfl
  have h2 : sn (nd 12 n.1 x.1 nl nl) = sn x.1 + 0 + 0 := rfl
  omega
theorem pLet_l (hE : lp E) : lp (pLet ch E) := by
  intro p T q h
  obtain ⟨a, e1, h⟩ := Option.bind_eq_some_iff.mp h
  obtain ⟨n, e2, h⟩ := Option.bind_eq_some_iff.mp h
  obtain ⟨b, e3, h⟩ := Option.bind_eq_some_iff.mp h
  obtain ⟨x, e4, h⟩ := Option.bind_eq_some_iff.mp h
  obtain ⟨c, e5, h⟩ := Option.bind_eq_some_iff.mp h
  obtain ⟨y, e6, h⟩ := Option.map_eq_some_iff.mp h
  have := pEx_l e1
  have := pNm_l e2
  have := pEx_l e3
  have := hE _ _ _ e4
  have := pEx_l e5
  have := hE _ _ _ e6
  cases h
  have h1 : ln (nd 13 n.1 x.1 y.1 nl) = ln x.1 + ln y.1 + 2 := rfl
  have h2 : sn (nd 13 n.1 x.1 y.1 nl) = sn x.1 + sn y.1 + 0 := rfl
  omega
theorem pRec_l (hE : lp E) : lp (pRec ch E) := by
  intro p T q h
  obtain ⟨a, e1, h⟩ := Option.bind_eq_some_iff.mp h
  obtain ⟨n, e2, h⟩ := Option.bind_eq_some_iff.mp h
  obtain ⟨b, e3, h⟩ := Option.bind_eq_some_iff.mp h
  obtain ⟨x, e4, h⟩ := Option.bind_eq_some_iff.mp h
  obtain ⟨c, e5, h⟩ := Option.bind_eq_some_iff.mp h
  obtain ⟨y, e6, h⟩ := Option.map_eq_some_iff.mp h
  have ge := sk_ge (ch := ch) (p := b)
  have := pEx_l e1
  have := pNm_l e2
  have := pEx_l e3
  have := pEx_l e5
  have := hE _ _ _ e6
  split at e4
  · have := hE _ _ _ e4
    cases h
    have h1 : ln (nd 14 n.1 x.1 y.1 nl) = ln x.1 + ln y.1 + 3 := rfl
    have h2 : sn (nd 14 n.1 x.1 y.1 nl) = sn x.1 + sn y.1 + 0 := rfl
    omega
  · cases e4
theorem pIf_l (hE : lp E) : lp (pIf ch E) := by
  intro p T q h
  obtain ⟨a, e1, h⟩ := Option.bind_eq_some_iff.mp h
  obtain ⟨x, e2, h⟩ := Option.bind_eq_some_iff.mp h
  obtain ⟨b, e3, h⟩ := Option.bind_eq_some_iff.mp h
  obtain ⟨y, e4, h⟩ := Option.bind_eq_some_iff.mp h
  obtain ⟨c, e5, h⟩ := Option.bind_eq_some_iff.mp h
  obtain ⟨z, e6, h⟩ := Option.map_eq_some_iff.mp h
  have := pEx_l e1
  have := hE _ _ _ e2
  have := pEx_l e3
  have := hE _ _ _ e4
  have := pEx_l e5
  have := hE _ _ _ e6
  cases h
  have h1 : ln (nd 15 0 x.1 y.1 z.1) = ln x.1 + ln y.1 + ln z.1 + 3 := rfl
  have h2 : sn (nd 15 0 x.1 y.1 z.1) = sn x.1 + sn y.1 + sn z.1 := rfl
  omega
theorem pCase_l (hP : lpp P) (hE : lp E) : lp (pCase ch P E) := by
  intro p T q h
  obtain ⟨a, e1, h⟩ := Option.bind_eq_some_iff.mp h
  obtain ⟨x, e2, h⟩ := Option.bind_eq_some_iff.mp h
  obtain ⟨b, e3, h⟩ := Option.bind_eq_some_iff.mp h
  obtain ⟨y, e4, h⟩ := Option.map_eq_some_iff.mp h
  have := pEx_l e1
  have := hE _ _ _ e2
  have := pEx_l e3
  have := pBr_l hP hE _ _ _ _ e4
  cases h
  have h1 : ln (nd 16 0 x.1 y.1 nl) = ln x.1 + ln y.1 + 2 := rfl
  have h2 : sn (nd 16 0 x.1 y.1 nl) = sn x.1 + sn y.1 + 0 := rfl
  omega
theorem pE_l : ∀ k, lp (pE ch k)
  | 0 => by intro p T q h; cases h
  | k + 1 => by
    intro p T q h
    unfold pE at h
    split at h
    · exact pLet_l (pE_l k) _ _ _ h
    split at h
    · exact pCase_l (pPat_l k) (pE_l k) _ _ _ h
    split at h
    · exact pIf_l (pE_l k) _ _ _ h
    split at h
    · exact pRec_l (pE_l k) _ _ _ h
    split at h
    · exact pFn_l (pE_l k) _ _ _ h
    · exact pList_l (pE_l k) _ _ _ _ h
end LEN2
/-- from atoms to lists -/
theorem s_molist {k : Nat} {D : Int} (hA : GSp D 6 (fun ch => pAtom ch (pE ch k) 60)) : GSp D 1 (fun ch => pList ch (pE ch k) 60) := by
  have l6 : Lp (fun ch => pAtom ch (pE ch k) 60) := fun ch => pAtom_l (pE_l k) 60
  have h5 : GSp D 5 (fun ch => pApp ch (pE ch k)) := s_moapp hA l6
  have l5 : Lp (fun ch => pApp ch (pE ch k)) := fun ch => pApp_l (pE_l k)
  have h4 : GSp D 4 (fun ch => pProd ch (pE ch k)) := s_moop (g := 4) (u := 42) (v := 47) (by decide) h5 l5
  have l4 : Lp (fun ch => pProd ch (pE ch k)) := fun ch => pProd_l (pE_l k)
  have h3 : GSp D 3 (fun ch => pSum ch (pE ch k)) := s_moop (g := 3) (u := 43) (v := 45) (by decide) h4 l4
  have l3 : Lp (fun ch => pSum ch (pE ch k)) := fun ch => pSum_l (pE_l k)
  have h2 : GSp D 2 (fun ch => pCmp ch (pE ch k)) := s_mocmp h3 l3
  have l2 : Lp (fun ch => pCmp ch (pE ch k)) := fun ch => pCmp_l (pE_l k)
  intro σ H hD
  have h60 := H.1.2.1
  have h3' := H.2.2.1
  exact molist_l (F := fun ch n => pList ch (pE ch k) n) h2 l2 (fun ch n p => rfl) (fun n ch => pList_l (pE_l k) n) 60 σ H hD (by omega)
