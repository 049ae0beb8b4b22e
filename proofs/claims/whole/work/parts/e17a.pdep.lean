/-! Patterns are not deep. -/
def pdp : Tr → Nat
  | .tag 10 (.nest _ (.append a (.append b _))) => 1 + max (pdp a) (pdp b)
  | _ => 0
/-- no branch's pattern is deep -/
def pdT : Tr → Prop
  | .tag k (.nest _ (.append a (.append b c))) => (k = 17 → pdp a ≤ 14) ∧ pdT a ∧ pdT b ∧ pdT c
  | _ => True
section PDS
variable {ch : Int → Int} {E A : Int → Option (Tr × Int)}
def fpd (f : Int → Option (Tr × Int)) : Prop := ∀ p T q, f p = some (T, q) → pdT T
theorem pdT_nd {k : Nat} {z : Int} {a b c : Tr} (hk : k ≠ 17) (ha : pdT a) (hb : pdT b) (hc : pdT c) : pdT (nd k z a b c) := ⟨fun e => absurd e hk, ha, hb, hc⟩
theorem pdT_nl : pdT nl := trivial
theorem pdT_lf {k : Nat} {z : Int} (hk : k ≠ 17) : pdT (nd k z nl nl nl) := pdT_nd hk trivial trivial trivial
theorem pNum_pd : fpd (pNum ch) := by
  intro p T q h
  unfold pNum at h
  split at h
  · cases h
  · split at h
    · split at h
      · cases h
      · cases h; exact pdT_lf (by decide)
    · cases h; exact pdT_lf (by decide)
theorem pCon_pd : fpd (pCon ch) := by
  intro p T q h
  unfold pCon at h
  split at h
  · cases h; exact pdT_lf (by decide)
  split at h
  · cases h; exact pdT_lf (by decide)
  split at h
  · cases h; exact pdT_lf (by decide)
  · cases h
theorem pPlain_pd (hE : fpd E) : fpd (pPlain ch E) := by
  intro p T q h
  unfold pPlain at h
  split at h
  · cases h; exact pdT_lf (by decide)
  split at h
  · exact pNum_pd _ _ _ h
  split at h
  · cases h; exact pdT_lf (by decide)
  split at h
  · cases h; exact pdT_lf (by decide)
  split at h
  · obtain ⟨t, h1, h⟩ := Option.bind_eq_some_iff.mp h
    obtain ⟨r, h2, h⟩ := Option.map_eq_some_iff.mp h
    have a := hE _ _ _ h1
    cases h; exact a
  · exact pCon_pd _ _ _ h
theorem pAtom_pd (hE : fpd E) : ∀ n, fpd (pAtom ch E n)
  | 0 => pPlain_pd hE
  | n + 1 => by
    intro p T q h
    unfold pAtom at h
    split at h
    · obtain ⟨t, h1, h⟩ := Option.map_eq_some_iff.mp h
      have a := pAtom_pd hE n _ _ _ h1
      cases h
      exact pdT_nd (by decide) a trivial trivial
    · exact pPlain_pd hE _ _ _ h
theorem pAppL_pd (hA : fpd A) : ∀ (n : Nat) (T : Tr) (p : Int), pdT T → ∀ U q, pAppL ch A n T p = some (U, q) → pdT U
  | 0, T, p, h1, U, q, h => by cases h; exact h1
  | n + 1, T, p, h1, U, q, h => by
    unfold pAppL at h
    split at h
    · obtain ⟨t, e1, h⟩ := Option.bind_eq_some_iff.mp h
      exact pAppL_pd hA n _ _ (pdT_nd (by decide) h1 (hA _ _ _ e1) pdT_nl) U q h
    · cases h; exact h1
theorem pApp_pd (hE : fpd E) : fpd (pApp ch E) := by
  intro p T q h
  obtain ⟨t, e1, h⟩ := Option.bind_eq_some_iff.mp h
  exact pAppL_pd (pAtom_pd hE 60) 60 _ _ (pAtom_pd hE 60 _ _ _ e1) T q h
theorem pOpL_pd {u v : Int} (hA : fpd A) : ∀ (n : Nat) (T : Tr) (p : Int), pdT T → ∀ U q, pOpL ch A u v n T p = some (U, q) → pdT U
  | 0, T, p, h1, U, q, h => by cases h
  | n + 1, T, p, h1, U, q, h => by
    unfold pOpL at h
    split at h
    · cases h; exact h1
    · obtain ⟨t, e1, h⟩ := Option.bind_eq_some_iff.mp h
      exact pOpL_pd hA n _ _ (pdT_nd (by decide) h1 (hA _ _ _ e1) pdT_nl) U q h
theorem pProd_pd (hE : fpd E) : fpd (pProd ch E) := by
  intro p T q h
  obtain ⟨t, e1, h⟩ := Option.bind_eq_some_iff.mp h
  exact pOpL_pd (pApp_pd hE) 60 _ _ (pApp_pd hE _ _ _ e1) T q h
theorem pSum_pd (hE : fpd E) : fpd (pSum ch E) := by
  intro p T q h
  obtain ⟨t, e1, h⟩ := Option.bind_eq_some_iff.mp h
  exact pOpL_pd (pProd_pd hE) 60 _ _ (pProd_pd hE _ _ _ e1) T q h
theorem pCmp_pd (hE : fpd E) : fpd (pCmp ch E) := by
  intro p T q h
  obtain ⟨t, e1, h⟩ := Option.bind_eq_some_iff.mp h
  have a := pSum_pd hE _ _ _ e1
  split at h
  · obtain ⟨r, e2, h⟩ := Option.map_eq_some_iff.mp h
    have b := pSum_pd hE _ _ _ e2
    cases h
    exact pdT_nd (by decide) a b trivial
  · split at h
    · cases h; exact a
    · obtain ⟨r, e2, h⟩ := Option.map_eq_some_iff.mp h
      have b := pSum_pd hE _ _ _ e2
      cases h
      exact pdT_nd (by decide) a b trivial
theorem pList_pd (hE : fpd E) : ∀ n, fpd (pList ch E n)
  | 0 => by intro p T q h; cases h
  | n + 1 => by
    intro p T q h
    unfold pList at h
    obtain ⟨t, e1, h⟩ := Option.bind_eq_some_iff.mp h
    have a := pCmp_pd hE _ _ _ e1
    split at h
    · obtain ⟨r, e2, h⟩ := Option.map_eq_some_iff.mp h
      have b := pList_pd hE n _ _ _ e2
      cases h
      exact pdT_nd (by decide) a b trivial
    · cases h; exact a
theorem wfP_pd : ∀ {A : Tr}, wfP A → pdT A := by
  intro A
  induction A using wfP.induct with
  | case1 z A B C | case2 z A B C | case3 z A B C | case4 z A B C | case5 z A B C => intro ⟨_, h1, h2, h3⟩; subst h1 h2 h3; exact pdT_lf (by decide)
  | case6 z A B C iA iB => intro ⟨_, wA, wB, h3⟩; subst h3; exact pdT_nd (by decide) (iA wA) (iB wB) trivial
  | case7 k z a b c h1 h2 h3 h4 h5 h6 => intro hw; exfalso; revert hw; unfold wfP; split <;> simp_all
  | case8 t hx =>
    intro hw; exfalso; revert hw; unfold wfP; split
    · exact (hx _ _ _ _ _ rfl).elim
    · exact id
theorem pPart_dp {P : Int → List Int → PaR} {D : Nat} (hP : ∀ p L t, P p L = some t → pdp t.1 ≤ D) : ∀ p L t, pPart ch P p L = some t → pdp t.1 ≤ D := by
  intro p L t h
  unfold pPart at h
  split at h
  · split at h
    · cases h
    · cases h; exact Nat.zero_le _
  split at h
  · obtain ⟨r, e2, h⟩ := Option.map_eq_some_iff.mp h
    cases h; exact Nat.zero_le _
  split at h
  · cases h; exact Nat.zero_le _
  split at h
  · obtain ⟨s, e1, h⟩ := Option.bind_eq_some_iff.mp h
    obtain ⟨r, e2, h⟩ := Option.map_eq_some_iff.mp h
    have a := hP _ _ _ e1
    cases h
    exact a
  · obtain ⟨r, e2, h⟩ := Option.map_eq_some_iff.mp h
    cases h
    unfold pCon at e2
    split at e2
    · cases e2; exact Nat.zero_le _
    split at e2
    · cases e2; exact Nat.zero_le _
    split at e2
    · cases e2; exact Nat.zero_le _
    · cases e2
theorem pPat_dp : ∀ k p L t, pPat ch k p L = some t → pdp t.1 ≤ k - 1
  | 0, p, L, t, h => by cases h
  | k + 1, p, L, t, h => by
    unfold pPat at h
    obtain ⟨s, e1, h⟩ := Option.bind_eq_some_iff.mp h
    have a := pPart_dp (pPat_dp k) _ _ _ e1
    split at h
    · obtain ⟨r, e2, h⟩ := Option.map_eq_some_iff.mp h
      have b := pPat_dp k _ _ _ e2
      cases h
      cases k with
      | zero => cases e2
      | succ k =>
        show 1 + max (pdp s.1) (pdp r.1) ≤ k + 1
        omega
    · cases h
      show pdp s.1 ≤ k
      omega
theorem pBr_pd {P : Int → List Int → PaR} (hP : fwp P) (hD : ∀ p L t, P p L = some t → pdp t.1 ≤ 14) (hE : fpd E) : ∀ (n : Nat) (p : Int) (T : Tr) (q : Int), pBr ch P E n p = some (T, q) → pdT T
  | 0, p, T, q, h => by cases h
  | n + 1, p, T, q, h => by
    unfold pBr at h
    obtain ⟨a, e1, h⟩ := Option.bind_eq_some_iff.mp h
    obtain ⟨r, e2, h⟩ := Option.bind_eq_some_iff.mp h
    obtain ⟨b, e3, h⟩ := Option.bind_eq_some_iff.mp h
    have wa := wfP_pd (hP _ _ _ e1).1
    have wd := hD _ _ _ e1
    have wb := hE _ _ _ e3
    split at h
    · obtain ⟨x, e4, h⟩ := Option.map_eq_some_iff.mp h
      have x1 := pBr_pd hP hD hE n _ _ _ e4
      cases h
      exact ⟨fun _ => wd, wa, wb, x1⟩
    · obtain ⟨x, e4, h⟩ := Option.map_eq_some_iff.mp h
      cases h
      exact ⟨fun _ => wd, wa, wb, trivial⟩
theorem pE_pd : ∀ k, k ≤ 16 → fpd (pE ch k)
  | 0, _ => by intro p T q h; cases h
  | k + 1, hk => by
    have ih := pE_pd k (by omega)
    intro p T q h
    unfold pE at h
    split at h
    · obtain ⟨a, e1, h⟩ := Option.bind_eq_some_iff.mp h
      obtain ⟨n, e2, h⟩ := Option.bind_eq_some_iff.mp h
      obtain ⟨b, e3, h⟩ := Option.bind_eq_some_iff.mp h
      obtain ⟨x, e4, h⟩ := Option.bind_eq_some_iff.mp h
      obtain ⟨c, e5, h⟩ := Option.bind_eq_some_iff.mp h
      obtain ⟨y, e6, h⟩ := Option.map_eq_some_iff.mp h
      have := ih _ _ _ e4
      have := ih _ _ _ e6
      cases h
      exact pdT_nd (by decide) (by assumption) (by assumption) trivial
    split at h
    · obtain ⟨a, e1, h⟩ := Option.bind_eq_some_iff.mp h
      obtain ⟨x, e2, h⟩ := Option.bind_eq_some_iff.mp h
      obtain ⟨b, e3, h⟩ := Option.bind_eq_some_iff.mp h
      obtain ⟨y, e4, h⟩ := Option.map_eq_some_iff.mp h
      have w1 := ih _ _ _ e2
      have w2 := pBr_pd (pPat_w k) (fun p L t e => Nat.le_trans (pPat_dp k p L t e) (by omega)) ih _ _ _ _ e4
      cases h
      exact pdT_nd (by decide) w1 w2 trivial
    split at h
    · obtain ⟨a, e1, h⟩ := Option.bind_eq_some_iff.mp h
      obtain ⟨x, e2, h⟩ := Option.bind_eq_some_iff.mp h
      obtain ⟨b, e3, h⟩ := Option.bind_eq_some_iff.mp h
      obtain ⟨y, e4, h⟩ := Option.bind_eq_some_iff.mp h
      obtain ⟨c, e5, h⟩ := Option.bind_eq_some_iff.mp h
      obtain ⟨z, e6, h⟩ := Option.map_eq_some_iff.mp h
      have w1 := ih _ _ _ e2
      have w2 := ih _ _ _ e4
      have w3 := ih _ _ _ e6
      cases h
      exact pdT_nd (by decide) w1 w2 w3
    split at h
    · obtain ⟨a, e1, h⟩ := Option.bind_eq_some_iff.mp h
      obtain ⟨n, e2, h⟩ := Option.bind_eq_some_iff.mp h
      obtain ⟨b, e3, h⟩ := Option.bind_eq_some_iff.mp h
      obtain ⟨x, e4, h⟩ := Option.bind_eq_some_iff.mp h
      obtain ⟨c, e5, h⟩ := Option.bind_eq_some_iff.mp h
      obtain ⟨y, e6, h⟩ := Option.map_eq_some_iff.mp h
      have w2 := ih _ _ _ e6
      split at e4
      · have w1 := ih _ _ _ e4
        cases h
        exact pdT_nd (by decide) w1 w2 trivial
      · cases e4
    split at h
    · obtain ⟨a, e1, h⟩ := Option.bind_eq_some_iff.mp h
      obtain ⟨n, e2, h⟩ := Option.bind_eq_some_iff.mp h
      obtain ⟨b, e3, h⟩ := Option.bind_eq_some_iff.mp h
      obtain ⟨x, e4, h⟩ := Option.map_eq_some_iff.mp h
      have w1 := ih _ _ _ e4
      cases h
      exact pdT_nd (by decide) w1 trivial trivial
    · exact pList_pd ih 60 _ _ _ h
theorem pLine_pd {T : Tr} (h : pLine ch = some T) : pdT T := by
  unfold pLine at h
  split at h
  · cases h
  · next e =>
    split at h
    · cases h; exact pE_pd 16 (Nat.le_refl _) _ _ _ e
    · cases h
end PDS
