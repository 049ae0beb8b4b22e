/-! The model's generalize: what it asks first, and what comes of it. -/
/-- what generalize of n leaves -/
def GO (σ s' : Mem) (n : Int) : Prop := (s' 58 44 = 1 ∧ ((∀ ρ, VS (mS σ).1 (mS σ).2.1 ρ → 80 < gw (ρ n)) ∨ ∃ k, (0 ≤ k ∧ k < σ 58 30) ∧ σ 78 k = 0 ∧ ∀ ρ, VS (mS σ).1 (mS σ).2.1 ρ → 80 < gw (ρ (σ 77 k)))) ∨ (s' 58 44 = 0 ∧ MT s' ∧ (mS s').1 = (mS σ).1 ∧ (∀ u, 0 ≤ u → u < σ 58 35 → fV σ n u → s' 81 u = 1) ∧ ∀ u, ¬ (0 ≤ u ∧ u < σ 58 35 ∧ fV σ n u) → s' 81 u = σ 81 u)
section MG3
variable {σ σ' σ1 : Mem} {d : Nat} {n u : Int} {P : Mem → Prop}
theorem FG.rf : FG σ σ := ⟨fun _ _ _ _ => rfl, fun _ _ _ _ => rfl⟩
theorem wid_all (H : MT σ) {μ : Int → GT} (Mi : MinV (mS σ).1 (mS σ).2.1 μ) : ∀ ρ, VS (mS σ).1 (mS σ).2.1 ρ → ∀ n, 0 ≤ n → n < σ 58 35 → gw (μ n) ≤ gw (ρ n) := by
  obtain ⟨W0, ⟨L, st, SSt⟩, -⟩ := H.1
  exact fun ρ W => wid_le W0 Mi.1 W SSt Mi.2
theorem gen_i : ∀ (f : Nat) (x2 : Int) (σ : Mem), (3 ≤ σ 58 35 ∧ σ 58 35 ≤ 1300) → (0 ≤ σ 58 30 ∧ σ 58 30 ≤ 64) → rg n → σ 58 44 = 1 → x2 + f = σ 58 30 → 0 ≤ x2 → ∃ s', Lb (d + 7) yMo_generalize 28 [(0, .ref 58), (1, vi n), (2, vi x2)] [] σ none s' ∧ FG σ s' ∧ s' 58 44 = 1 := by
  intro f
  induction f with
  | zero =>
    intro x2 σ hc hN hn hi he h0
    refine ⟨σ, K_Mo_generalize_28 (d := d + 4) hn ⟨by omega, by omega⟩ ?_, FG.rf, hi⟩
    unfold B_Mo_generalize_28
    rw [if_pos (by omega)]
    refine K_Mo_generalize_84 (d := d + 4) hn (rgk rfl) ?_
    unfold B_Mo_generalize_84
    rw [if_neg (by omega), if_pos (by omega)]
    exact ⟨rfl, rfl⟩
  | succ f ih =>
    intro x2 σ hc hN hn hi he h0
    have k30 : (mup σ 58 44 1) 58 30 = σ 58 30 := mup_nk (by decide)
    have k35 : (mup σ 58 44 1) 58 35 = σ 58 35 := mup_nk (by decide)
    obtain ⟨s', l, F, i⟩ := ih (x2 + 1) (mup σ 58 44 1) (by rw [k35]; exact hc) (by rw [k30]; exact hN) hn mup_eq (by rw [k30]; omega) (by omega)
    refine ⟨s', K_Mo_generalize_28 (d := d + 4) hn ⟨by omega, by omega⟩ ?_, FG.m44.tr F, i⟩
    unfold B_Mo_generalize_28
    rw [if_neg (by omega), if_pos (by omega)]
    unfold B_Mo_generalize_68 B_Mo_generalize_73
    exact ⟨Or.inr rfl, ⟨by omega, by omega⟩, l⟩
theorem gen_28 : ∀ (f : Nat) (x2 : Int) (σ : Mem), MT σ → nmM σ → (∀ ρ, MinV (mS σ).1 (mS σ).2.1 ρ → ∀ k, 0 ≤ k → k < x2 → σ 78 k = 0 → gw (ρ (σ 77 k)) ≤ 80) → (0 ≤ n ∧ n < σ 58 35) → (∀ ρ, MinV (mS σ).1 (mS σ).2.1 ρ → gw (ρ n) ≤ 80) → σ 58 44 = 0 → x2 + f = σ 58 30 → 0 ≤ x2 → ∃ s', Lb (d + 7) yMo_generalize 28 [(0, .ref 58), (1, vi n), (2, vi x2)] [] σ none s' ∧ FG σ s' ∧ GO σ s' n := by
  intro f
  induction f with
  | zero =>
    intro x2 σ H N S hn hw hi he h0
    have hN := N.1
    have hc := H.2.1
    obtain ⟨s', l, F, i, H', e', y, no⟩ := gen_84 (d := d) (n := n) (σ 58 35).toNat 0 σ H N (fun ρ Mi k h1 h2 h3 => S ρ Mi k h1 (by omega) h3) hn hw hi (by omega) (by omega)
    refine ⟨s', K_Mo_generalize_28 (d := d + 4) ⟨by omega, by omega⟩ ⟨by omega, by omega⟩ ?_, F, Or.inr ⟨i, H', e', y, no⟩⟩
    unfold B_Mo_generalize_28
    rw [if_pos (by omega)]; exact l
  | succ f ih =>
    intro x2 σ H N S hn hw hi he h0
    have hN := N.1
    have hc := H.2.1
    -- on with t1 = 0
    have go : ∀ m, FW σ m → (σ 78 x2 = 0 → ∀ ρ, MinV (mS σ).1 (mS σ).2.1 ρ → gw (ρ (σ 77 x2)) ≤ 80) → ∃ s', B_Mo_generalize_72 (d + 4) n x2 m none s' ∧ FG σ s' ∧ GO σ s' n := by
      intro m F hx
      obtain ⟨H1, e1⟩ := F.mt H
      obtain ⟨H2, e2⟩ : MT (mup m 58 44 0) ∧ mS (mup m 58 44 0) = mS m := H1.cg (mup_obj (by decide)) (mup_obj (by decide)) (mup_obj (by decide)) (mup_obj (by decide)) (mup_nk (by decide))
      have e2 := e2.trans e1
      have F2 : FG σ (mup m 58 44 0) := F.fg.tr FG.m44
      have c35 : (mup m 58 44 0) 58 35 = σ 58 35 := F2.2 35 (by decide) (by decide) (by decide)
      have c30 : (mup m 58 44 0) 58 30 = σ 58 30 := F2.2 30 (by decide) (by decide) (by decide)
      have o77 : (mup m 58 44 0) 77 = σ 77 := F2.1 77 (by decide) (by decide) (by decide)
      have o78 : (mup m 58 44 0) 78 = σ 78 := F2.1 78 (by decide) (by decide) (by decide)
      have o81 : (mup m 58 44 0) 81 = σ 81 := (mup_obj (by decide)).trans (F.1 81 (by decide) (by decide))
      obtain ⟨s', l, F3, g⟩ := ih (x2 + 1) (mup m 58 44 0) H2 (F2.nm N) (fun ρ Mi k h1 h2 h3 => by
        rw [e2] at Mi
        rw [o78] at h3
        rw [o77]
        by_cases e : k = x2
        · rw [e] at h3 ⊢; exact hx h3 ρ Mi
        · exact S ρ Mi k h1 (by omega) h3) (by rw [c35]; exact hn) (fun ρ Mi => hw ρ (by rw [e2] at Mi; exact Mi)) mup_eq (by omega) (by omega)
      refine ⟨s', ⟨Or.inl rfl, ⟨by omega, by omega⟩, l⟩, F2.tr F3, ?_⟩
      unfold GO at g ⊢
      rw [e2, c30, c35, o77, o78, o81] at g
      rcases g with g | ⟨g1, g2, g3, g4, g5⟩
      · exact Or.inl g
      · exact Or.inr ⟨g1, g2, g3, fun u h1 h2 h3 => g4 u h1 h2 ((F2.fv (by rw [e2])).mpr h3), fun u h => g5 u (fun ⟨a, b, c⟩ => h ⟨a, b, (F2.fv (by rw [e2])).mp c⟩)⟩
    have fin : ∀ s', (if σ 78 x2 ≠ 0 then B_Mo_generalize_72 (d + 4) n x2 σ none s' else ((0 : Int) ≤ x2 ∧ x2 < (64 : Int)) ∧ ∃ (v6 : Int) (m6 : Mem), Rn (d + 4 + 3) yMo_width [.ref 58, vi (σ 77 x2)] σ (some v6) m6 ∧ (if v6 ≤ 80 then (B_Mo_generalize_72 (d + 4) n x2 m6 none s') else (B_Mo_generalize_68 (d + 4) n x2 m6 none s'))) → Lb (d + 7) yMo_generalize 28 [(0, .ref 58), (1, vi n), (2, vi x2)] [] σ none s' := fun s' h => by
      refine K_Mo_generalize_28 (d := d + 4) ⟨by omega, by omega⟩ ⟨by omega, by omega⟩ ?_
      unfold B_Mo_generalize_28
      rw [if_neg (by omega), if_neg (by omega)]
      exact ⟨⟨by omega, by omega⟩, h⟩
    by_cases m : σ 78 x2 ≠ 0
    · obtain ⟨s', a, r⟩ := go σ ⟨fun _ _ _ => rfl, fun _ _ => rfl⟩ (fun z => absurd z m)
      exact ⟨s', fin s' (by rw [if_pos m]; exact a), r⟩
    · have m0 : σ 78 x2 = 0 := by omega
      obtain ⟨μ, Mi⟩ := ms_min H
      have rn := N.2 x2 h0 (by omega)
      obtain ⟨v, m6, s1, F, vb, -, p1, p2⟩ := s_width (d := d + 1) H Mi rn.1 rn.2
      by_cases q : v ≤ 80
      · have sm : gw (μ (σ 77 x2)) ≤ 80 := by
          by_cases h : gw (μ (σ 77 x2)) ≤ 80
          · exact h
          · have := p2 (by omega); omega
        obtain ⟨s', a, r⟩ := go m6 F (fun _ ρ Mr => by
          have := wid_all H Mr μ Mi.1 (σ 77 x2) rn.1 rn.2
          omega)
        exact ⟨s', fin s' (by rw [if_neg m]; exact ⟨⟨by omega, by omega⟩, v, m6, s1, by rw [if_pos q]; exact a⟩), r⟩
      · have big : 80 < gw (μ (σ 77 x2)) := by
          by_cases h : gw (μ (σ 77 x2)) ≤ 80
          · have := (p1 h).1; omega
          · omega
        have F2 : FG σ (mup m6 58 44 1) := F.fg.tr FG.m44
        have c35 : (mup m6 58 44 1) 58 35 = σ 58 35 := F2.2 35 (by decide) (by decide) (by decide)
        have c30 : (mup m6 58 44 1) 58 30 = σ 58 30 := F2.2 30 (by decide) (by decide) (by decide)
        obtain ⟨s', l, F3, i⟩ := gen_i (d := d) (n := n) f (x2 + 1) (mup m6 58 44 1) (by rw [c35]; exact hc) (by rw [c30]; exact hN) ⟨by omega, by omega⟩ mup_eq (by rw [c30]; omega) (by omega)
        refine ⟨s', fin s' ?_, F2.tr F3, Or.inl ⟨i, Or.inr ⟨x2, ⟨h0, by omega⟩, m0, fun ρ W => ?_⟩⟩⟩
        · rw [if_neg m]
          refine ⟨⟨by omega, by omega⟩, v, m6, s1, ?_⟩
          rw [if_neg q]
          unfold B_Mo_generalize_68 B_Mo_generalize_73
          exact ⟨Or.inr rfl, ⟨by omega, by omega⟩, l⟩
        · have := wid_all H Mi ρ W (σ 77 x2) rn.1 rn.2
          omega
theorem m_gen (H : MT σ) (N : nmM σ) (hn : 0 ≤ n ∧ n < σ 58 35) (hi : σ 58 44 = 0) : ∃ s', Rn (d + 8) yMo_generalize [.ref 58, vi n] σ none s' ∧ FG σ s' ∧ GO σ s' n := by
  have hN := N.1
  have hc := H.2.1
  obtain ⟨μ, Mi⟩ := ms_min H
  obtain ⟨v, m6, s1, F, vb, -, p1, p2⟩ := s_width (d := d + 1) H Mi hn.1 hn.2
  have fin : ∀ s', (if v ≤ 80 then B_Mo_generalize_23 (d + 4) n 0 m6 none s' else B_Mo_generalize_18 (d + 4) n m6 none s') → Rn (d + 8) yMo_generalize [.ref 58, vi n] σ none s' := fun s' h => by
    refine M_Mo_generalize (d := d + 4) ⟨by omega, by omega⟩ ?_
    unfold B_Mo_generalize
    rw [if_neg (by omega)]
    exact ⟨v, m6, s1, h⟩
  obtain ⟨H1, e1⟩ := F.mt H
  by_cases q : v ≤ 80
  · have sm : gw (μ n) ≤ 80 := by
      by_cases h : gw (μ n) ≤ 80
      · exact h
      · have := p2 (by omega); omega
    obtain ⟨H2, e2⟩ : MT (mup m6 58 44 0) ∧ mS (mup m6 58 44 0) = mS m6 := H1.cg (mup_obj (by decide)) (mup_obj (by decide)) (mup_obj (by decide)) (mup_obj (by decide)) (mup_nk (by decide))
    have e2 := e2.trans e1
    have F2 : FG σ (mup m6 58 44 0) := F.fg.tr FG.m44
    have c35 : (mup m6 58 44 0) 58 35 = σ 58 35 := F2.2 35 (by decide) (by decide) (by decide)
    have c30 : (mup m6 58 44 0) 58 30 = σ 58 30 := F2.2 30 (by decide) (by decide) (by decide)
    have o77 : (mup m6 58 44 0) 77 = σ 77 := F2.1 77 (by decide) (by decide) (by decide)
    have o78 : (mup m6 58 44 0) 78 = σ 78 := F2.1 78 (by decide) (by decide) (by decide)
    have o81 : (mup m6 58 44 0) 81 = σ 81 := (mup_obj (by decide)).trans (F.1 81 (by decide) (by decide))
    obtain ⟨s', l, F3, g⟩ := gen_28 (d := d) (n := n) (σ 58 30).toNat 0 (mup m6 58 44 0) H2 (F2.nm N) (fun ρ Mi k h1 h2 => by omega) (by rw [c35]; exact hn) (fun ρ Mr => by
      rw [e2] at Mr
      have := wid_all H Mr μ Mi.1 n hn.1 hn.2
      omega) mup_eq (by rw [c30]; omega) (by omega)
    refine ⟨s', fin s' (by rw [if_pos q]; exact ⟨Or.inl rfl, l⟩), F2.tr F3, ?_⟩
    unfold GO at g ⊢
    rw [e2, c30, c35, o77, o78, o81] at g
    rcases g with g | ⟨g1, g2, g3, g4, g5⟩
    · exact Or.inl g
    · exact Or.inr ⟨g1, g2, g3, fun u h1 h2 h3 => g4 u h1 h2 ((F2.fv (by rw [e2])).mpr h3), fun u h => g5 u (fun ⟨a, b, c⟩ => h ⟨a, b, (F2.fv (by rw [e2])).mp c⟩)⟩
  · have big : 80 < gw (μ n) := by
      by_cases h : gw (μ n) ≤ 80
      · have := (p1 h).1; omega
      · omega
    have F2 : FG σ (mup m6 58 44 1) := F.fg.tr FG.m44
    have c35 : (mup m6 58 44 1) 58 35 = σ 58 35 := F2.2 35 (by decide) (by decide) (by decide)
    have c30 : (mup m6 58 44 1) 58 30 = σ 58 30 := F2.2 30 (by decide) (by decide) (by decide)
    obtain ⟨s', l, F3, i⟩ := gen_i (d := d) (n := n) (σ 58 30).toNat 0 (mup m6 58 44 1) (by rw [c35]; exact hc) (by rw [c30]; exact hN) ⟨by omega, by omega⟩ mup_eq (by rw [c30]; omega) (by omega)
    refine ⟨s', fin s' ?_, F2.tr F3, Or.inl ⟨i, Or.inl (fun ρ W => ?_)⟩⟩
    · rw [if_neg q]
      unfold B_Mo_generalize_18 B_Mo_generalize_23
      exact ⟨Or.inr rfl, l⟩
    · have := wid_all H Mi ρ W n hn.1 hn.2
      omega
end MG3
