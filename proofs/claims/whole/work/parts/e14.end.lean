/-! What is read ends where the line ends at the latest. -/
section NQ
variable {ch : Int → Int} {N : Int} {E : Int → Option (Tr × Int)} {A : Int → Option (Tr × Int)} {P : Int → List Int → PaR}
def endN (ch : Int → Int) (N : Int) : Prop := ∀ z, N ≤ z → ch z = -1
def fq (N : Int) (f : Int → Option (Tr × Int)) : Prop := ∀ p T q, p ≤ N → f p = some (T, q) → q ≤ N
theorem ch_N (hN : endN ch N) (z : Int) : ch z = -1 ∨ z < N := by
  by_cases q : N ≤ z
  · exact Or.inl (hN z q)
  · exact Or.inr (by omega)
theorem skf_N (hN : endN ch N) : ∀ (n : Nat) (p : Int), p ≤ N → skf ch n p ≤ N
  | 0, _, h => h
  | n + 1, p, h => by
    unfold skf
    have := ch_N hN p
    split
    · exact skf_N hN n _ (by omega)
    · exact h
theorem sk_N (hN : endN ch N) {p : Int} (h : p ≤ N) : sk ch p ≤ N := skf_N hN 60 p h
theorem nx_N (hN : endN ch N) (p : Int) : nx ch p = -1 ∨ sk ch p < N := ch_N hN _
theorem dgf_N (hN : endN ch N) : ∀ (n : Nat) (v c p : Int), p ≤ N → (dgf ch n v c p).2.2 ≤ N
  | 0, _, _, _, h => h
  | n + 1, v, c, p, h => by
    unfold dgf
    have := ch_N hN p
    split
    · exact dgf_N hN n _ _ _ (by omega)
    · exact h
theorem pDg_N (hN : endN ch N) {m : Nat} {p v q : Int} (hp : p ≤ N) (h : pDg ch m p = some (v, q)) : q ≤ N := by
  unfold pDg at h
  have := dgf_N hN (m + 1) 0 0 p hp
  split at h
  · cases h
  · cases h; exact this
theorem pNum_N (hN : endN ch N) : fq N (pNum ch) := by
  intro p T q hp h
  unfold pNum at h
  split at h
  · cases h
  · next w r e =>
    have l1 := pDg_N hN hp e
    have := ch_N hN r
    split at h
    · split at h
      · cases h
      · next t r' e' =>
        have l2 := pDg_N hN (by omega) e'
        cases h; exact l2
    · cases h; exact l1
theorem pCon_N (hN : endN ch N) : fq N (pCon ch) := by
  intro p T q hp h
  have k1 := sk_N hN hp
  have k2 := nx_N hN p
  have k3 := ch_N hN (sk ch p + 1)
  unfold pCon at h
  split at h
  · cases h; omega
  split at h
  · cases h; omega
  split at h
  · cases h; omega
  · cases h
theorem pEx_N (hN : endN ch N) {c p q : Int} (hc : c ≠ -1) (h : pEx ch c p = some q) : q ≤ N := by
  have k2 := nx_N hN p
  unfold pEx at h
  split at h
  · cases h; omega
  · cases h
theorem pNm_N (hN : endN ch N) {p : Int} {r : Int × Int} (h : pNm ch p = some r) : r.2 ≤ N := by
  have k2 := nx_N hN p
  unfold pNm at h
  split at h
  · cases h; dsimp only; omega
  · cases h
theorem pPlain_N (hN : endN ch N) (hE : fq N E) : fq N (pPlain ch E) := by
  intro p T q hp h
  have k1 := sk_N hN hp
  have k2 := nx_N hN p
  unfold pPlain at h
  split at h
  · cases h; omega
  split at h
  · exact pNum_N hN _ _ _ k1 h
  split at h
  · cases h; omega
  split at h
  · cases h; omega
  split at h
  · obtain ⟨t, h1, h⟩ := Option.bind_eq_some_iff.mp h
    obtain ⟨r, h2, h⟩ := Option.map_eq_some_iff.mp h
    have := pEx_N hN (by decide) h2
    cases h; exact this
  · exact pCon_N hN _ _ _ hp h
theorem pAtom_N (hN : endN ch N) (hE : fq N E) : ∀ n, fq N (pAtom ch E n)
  | 0 => pPlain_N hN hE
  | n + 1 => by
    intro p T q hp h
    have k2 := nx_N hN p
    unfold pAtom at h
    split at h
    · obtain ⟨t, h1, h⟩ := Option.map_eq_some_iff.mp h
      have l := pAtom_N hN hE n _ _ _ (by omega) h1
      cases h; exact l
    · exact pPlain_N hN hE _ _ _ hp h
theorem pAppL_N (hN : endN ch N) (hA : fq N A) : ∀ (n : Nat) (T : Tr) (p : Int), p ≤ N → ∀ U q, pAppL ch A n T p = some (U, q) → q ≤ N
  | 0, T, p, hp, U, q, h => by cases h; exact hp
  | n + 1, T, p, hp, U, q, h => by
    have k1 := sk_N hN hp
    unfold pAppL at h
    split at h
    · obtain ⟨t, e1, h⟩ := Option.bind_eq_some_iff.mp h
      exact pAppL_N hN hA n _ _ (hA _ _ _ k1 e1) U q h
    · cases h; exact k1
theorem pOp_N (hN : endN ch N) {u v p : Int} {o : Int × Int} (hu : u ≠ -1) (hv : v ≠ -1) (h : pOp ch u v p = some o) : o.2 ≤ N := by
  have k2 := nx_N hN p
  have k3 := ch_N hN (sk ch p + 1)
  unfold pOp at h
  split at h
  · split at h
    · cases h; dsimp only; omega
    · cases h; dsimp only; omega
  · cases h
theorem pOpL_N (hN : endN ch N) {u v : Int} (hu : u ≠ -1) (hv : v ≠ -1) (hA : fq N A) : ∀ (n : Nat) (T : Tr) (p : Int), p ≤ N → ∀ U q, pOpL ch A u v n T p = some (U, q) → q ≤ N
  | 0, T, p, hp, U, q, h => by cases h
  | n + 1, T, p, hp, U, q, h => by
    have k1 := sk_N hN hp
    unfold pOpL at h
    split at h
    · cases h; exact k1
    · next o e =>
      obtain ⟨t, e1, h⟩ := Option.bind_eq_some_iff.mp h
      exact pOpL_N hN hu hv hA n _ _ (hA _ _ _ (pOp_N hN hu hv e) e1) U q h
theorem pApp_N (hN : endN ch N) (hE : fq N E) : fq N (pApp ch E) := by
  intro p T q hp h
  obtain ⟨t, e1, h⟩ := Option.bind_eq_some_iff.mp h
  exact pAppL_N hN (pAtom_N hN hE 60) 60 _ _ (pAtom_N hN hE 60 _ _ _ hp e1) T q h
theorem pProd_N (hN : endN ch N) (hE : fq N E) : fq N (pProd ch E) := by
  intro p T q hp h
  obtain ⟨t, e1, h⟩ := Option.bind_eq_some_iff.mp h
  exact pOpL_N hN (by decide) (by decide) (pApp_N hN hE) 60 _ _ (pApp_N hN hE _ _ _ hp e1) T q h
theorem pSum_N (hN : endN ch N) (hE : fq N E) : fq N (pSum ch E) := by
  intro p T q hp h
  obtain ⟨t, e1, h⟩ := Option.bind_eq_some_iff.mp h
  exact pOpL_N hN (by decide) (by decide) (pProd_N hN hE) 60 _ _ (pProd_N hN hE _ _ _ hp e1) T q h
theorem pCmp_N (hN : endN ch N) (hE : fq N E) : fq N (pCmp ch E) := by
  intro p T q hp h
  obtain ⟨t, e1, h⟩ := Option.bind_eq_some_iff.mp h
  have l := pSum_N hN hE _ _ _ hp e1
  have k1 := sk_N hN l
  have k2 := nx_N hN t.2
  split at h
  · obtain ⟨r, e2, h⟩ := Option.map_eq_some_iff.mp h
    have l2 := pSum_N hN hE _ _ _ (by omega) e2
    cases h; exact l2
  · split at h
    · cases h; exact k1
    · next o eo =>
      obtain ⟨r, e2, h⟩ := Option.map_eq_some_iff.mp h
      have l2 := pSum_N hN hE _ _ _ (pOp_N hN (by decide) (by decide) eo) e2
      cases h; exact l2
theorem pList_N (hN : endN ch N) (hE : fq N E) : ∀ n, fq N (pList ch E n)
  | 0 => by intro p T q hp h; cases h
  | n + 1 => by
    intro p T q hp h
    unfold pList at h
    obtain ⟨t, e1, h⟩ := Option.bind_eq_some_iff.mp h
    have l := pCmp_N hN hE _ _ _ hp e1
    have k1 := sk_N hN l
    have k2 := nx_N hN t.2
    split at h
    · obtain ⟨r, e2, h⟩ := Option.map_eq_some_iff.mp h
      have l2 := pList_N hN hE n _ _ _ (by omega) e2
      cases h; exact l2
    · cases h; exact k1
theorem pBr_N (hN : endN ch N) (hE : fq N E) : ∀ (n : Nat), fq N (pBr ch P E n)
  | 0 => by intro p T q hp h; cases h
  | n + 1 => by
    intro p T q hp h
    unfold pBr at h
    obtain ⟨a, e1, h⟩ := Option.bind_eq_some_iff.mp h
    obtain ⟨r, e2, h⟩ := Option.bind_eq_some_iff.mp h
    obtain ⟨b, e3, h⟩ := Option.bind_eq_some_iff.mp h
    have k2 := nx_N hN b.2
    split at h
    · obtain ⟨x, e4, h⟩ := Option.map_eq_some_iff.mp h
      have l4 := pBr_N hN hE n _ _ _ (by omega) e4
      cases h; exact l4
    · obtain ⟨x, e4, h⟩ := Option.map_eq_some_iff.mp h
      have l4 := pEx_N hN (by decide) e4
      cases h; exact l4
theorem pFn_N (hN : endN ch N) (hE : fq N E) : fq N (pFn ch E) := by
  intro p T q hp h
  obtain ⟨a, e1, h⟩ := Option.bind_eq_some_iff.mp h
  obtain ⟨n, e2, h⟩ := Option.bind_eq_some_iff.mp h
  obtain ⟨b, e3, h⟩ := Option.bind_eq_some_iff.mp h
  obtain ⟨x, e4, h⟩ := Option.map_eq_some_iff.mp h
  have := hE _ _ _ (pEx_N hN (by decide) e3) e4
  cases h; exact this
theorem pLet_N (hN : endN ch N) (hE : fq N E) : fq N (pLet ch E) := by
  intro p T q hp h
  obtain ⟨a, e1, h⟩ := Option.bind_eq_some_iff.mp h
  obtain ⟨n, e2, h⟩ := Option.bind_eq_some_iff.mp h
  obtain ⟨b, e3, h⟩ := Option.bind_eq_some_iff.mp h
  obtain ⟨x, e4, h⟩ := Option.bind_eq_some_iff.mp h
  obtain ⟨c, e5, h⟩ := Option.bind_eq_some_iff.mp h
  obtain ⟨y, e6, h⟩ := Option.map_eq_some_iff.mp h
  have := hE _ _ _ (pEx_N hN (by decide) e5) e6
  cases h; exact this
theorem pRec_N (hN : endN ch N) (hE : fq N E) : fq N (pRec ch E) := by
  intro p T q hp h
  obtain ⟨a, e1, h⟩ := Option.bind_eq_some_iff.mp h
  obtain ⟨n, e2, h⟩ := Option.bind_eq_some_iff.mp h
  obtain ⟨b, e3, h⟩ := Option.bind_eq_some_iff.mp h
  obtain ⟨x, e4, h⟩ := Option.bind_eq_some_iff.mp h
  obtain ⟨c, e5, h⟩ := Option.bind_eq_some_iff.mp h
  obtain ⟨y, e6, h⟩ := Option.map_eq_some_iff.mp h
  have := hE _ _ _ (pEx_N hN (by decide) e5) e6
  cases h; exact this
theorem pIf_N (hN : endN ch N) (hE : fq N E) : fq N (pIf ch E) := by
  intro p T q hp h
  obtain ⟨a, e1, h⟩ := Option.bind_eq_some_iff.mp h
  obtain ⟨x, e2, h⟩ := Option.bind_eq_some_iff.mp h
  obtain ⟨b, e3, h⟩ := Option.bind_eq_some_iff.mp h
  obtain ⟨y, e4, h⟩ := Option.bind_eq_some_iff.mp h
  obtain ⟨c, e5, h⟩ := Option.bind_eq_some_iff.mp h
  obtain ⟨z, e6, h⟩ := Option.map_eq_some_iff.mp h
  have := hE _ _ _ (pEx_N hN (by decide) e5) e6
  cases h; exact this
theorem pCase_N (hN : endN ch N) (hE : fq N E) : fq N (pCase ch P E) := by
  intro p T q hp h
  obtain ⟨a, e1, h⟩ := Option.bind_eq_some_iff.mp h
  obtain ⟨x, e2, h⟩ := Option.bind_eq_some_iff.mp h
  obtain ⟨b, e3, h⟩ := Option.bind_eq_some_iff.mp h
  obtain ⟨y, e4, h⟩ := Option.map_eq_some_iff.mp h
  have := pBr_N hN hE 5 _ _ _ (pEx_N hN (by decide) e3) e4
  cases h; exact this
theorem pE_N (hN : endN ch N) : ∀ k, fq N (pE ch k)
  | 0 => by intro p T q hp h; cases h
  | k + 1 => by
    intro p T q hp h
    unfold pE at h
    split at h
    · exact pLet_N hN (pE_N hN k) _ _ _ hp h
    split at h
    · exact pCase_N hN (pE_N hN k) _ _ _ hp h
    split at h
    · exact pIf_N hN (pE_N hN k) _ _ _ hp h
    split at h
    · exact pRec_N hN (pE_N hN k) _ _ _ hp h
    split at h
    · exact pFn_N hN (pE_N hN k) _ _ _ hp h
    · exact pList_N hN (pE_N hN k) _ _ _ _ hp h
/-- what a line gives: all that is wanted of its tree -/
theorem pLine_all {T : Tr} (hN : endN ch N) (h0 : 0 ≤ N) (h60 : N ≤ 60) (h : pLine ch = some T) : isE T ∧ wf T ∧ c5 T ∧ rwl T ≤ 60 ∧ ln T ≤ 124 ∧ sn T ≤ 80 := by
  have h5 := pLine_5 h
  unfold pLine at h
  split at h
  · cases h
  · next T' q e =>
    split at h
    · cases h
      have a := pE_w 16 _ _ _ e
      have b := pE_q 16 _ _ _ e
      have c := pE_l 16 _ _ _ e
      have n := pE_N hN 16 _ _ _ h0 e
      rw [up0] at b
      exact ⟨a.1, a.2, h5, by omega, by omega, by omega⟩
    · cases h
end NQ
