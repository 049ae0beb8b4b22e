/-! The model's patternTypes: every pattern. -/
theorem mptt_all : ∀ A : Tr, wfP A → (bnd A).Nodup → PTt A := by
  intro A
  induction A using wfP.induct with
  | case1 z a b c =>
    intro hw _
    obtain ⟨_, h1, h2, h3⟩ := hw
    subst h1 h2 h3
    exact PTt_bs (q := 2) (Or.inl rfl) rfl rfl (fun _ _ _ => Iff.rfl) (fun _ _ h => h.1)
  | case2 z a b c =>
    intro hw _
    obtain ⟨_, h1, h2, h3⟩ := hw
    subst h1 h2 h3
    exact PTt_bs (q := 3) (Or.inr rfl) rfl rfl (fun _ _ _ => Iff.rfl) (fun _ _ h => h.1)
  | case3 z a b c =>
    intro hw _
    obtain ⟨h0, h1, h2, h3⟩ := hw
    subst h0 h1 h2 h3
    exact PTt_emp
  | case4 z a b c =>
    intro hw _
    obtain ⟨h0, h1, h2, h3⟩ := hw
    subst h1 h2 h3
    have h0 : 97 ≤ z ∧ z ≤ 122 := h0
    exact PTt_nm ⟨by omega, by omega⟩
  | case5 z a b c =>
    intro hw _
    obtain ⟨h0, h1, h2, h3⟩ := hw
    subst h0 h1 h2 h3
    exact PTt_any
  | case6 z a b c iha ihb =>
    intro hw hn
    obtain ⟨h0, wa, wb, h3⟩ := hw
    subst h0 h3
    have hn : (bnd a ++ bnd b).Nodup := hn
    have q := List.nodup_append.mp hn
    exact PTt_cons (iha wa q.1) (ihb wb q.2.1) hn
  | case7 k z a b c h1 h2 h3 h4 h5 h6 => intro hw; exfalso; revert hw; unfold wfP; split <;> simp_all
  | case8 t hx =>
    intro hw; exfalso; revert hw; unfold wfP; split
    · exact (hx _ _ _ _ _ rfl).elim
    · exact fun h => h
