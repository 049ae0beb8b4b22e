/-! The model's generalize, whole. -/
section MG2
variable {σ σ' σ1 : Mem} {d : Nat} {n u : Int} {P : Mem → Prop}
theorem gen_84 : ∀ (f : Nat) (x2 : Int) (σ : Mem), MT σ → nmM σ → smN σ → (0 ≤ n ∧ n < σ 58 35) → (∀ ρ, MinV (mS σ).1 (mS σ).2.1 ρ → gw (ρ n) ≤ 80) → σ 58 44 = 0 → x2 + f = σ 58 35 → 0 ≤ x2 → ∃ s', Lb (d + 7) yMo_generalize 84 [(0, .ref 58), (1, vi n), (2, vi x2)] [] σ none s' ∧ FG σ s' ∧ s' 58 44 = 0 ∧ MT s' ∧ (mS s').1 = (mS σ).1 ∧ (∀ u, x2 ≤ u → u < σ 58 35 → fV σ n u → s' 81 u = 1) ∧ ∀ u, ¬ (x2 ≤ u ∧ u < σ 58 35 ∧ fV σ n u) → s' 81 u = σ 81 u := by
  intro f
  induction f with
  | zero =>
    intro x2 σ H N S hn hw hi he h0
    have hc := H.2.1
    refine ⟨σ, K_Mo_generalize_84 (d := d + 4) ⟨by omega, by omega⟩ ⟨by omega, by omega⟩ ?_, ⟨fun _ _ _ _ => rfl, fun _ _ _ _ => rfl⟩, hi, H, rfl, fun u h1 h2 => by omega, fun _ _ => rfl⟩
    unfold B_Mo_generalize_84
    rw [if_pos (by omega)]
    exact ⟨rfl, rfl⟩
  | succ f ih =>
    intro x2 σ H N S hn hw hi he h0
    have hc := H.2.1
    -- one node further, from any memory that is the first up to marks
    have go : ∀ σ1 v, FG σ σ1 → MT σ1 → (mS σ1).1 = (mS σ).1 → σ1 58 44 = 0 → (v = σ1 81 x2 ∨ v = 1) → (v = 1 → σ 79 x2 = 0 ∨ σ1 81 x2 = 1) → (∀ u, u ≠ x2 → σ1 81 u = σ 81 u) → (fV σ n x2 → v = 1) → (¬ fV σ n x2 → v = σ 81 x2) → ∃ s', B_Mo_generalize_204 (d + 4) n x2 x2 v σ1 none s' ∧ FG σ s' ∧ s' 58 44 = 0 ∧ MT s' ∧ (mS s').1 = (mS σ).1 ∧ (∀ u, x2 ≤ u → u < σ 58 35 → fV σ n u → s' 81 u = 1) ∧ ∀ u, ¬ (x2 ≤ u ∧ u < σ 58 35 ∧ fV σ n u) → s' 81 u = σ 81 u := by
      intro σ1 v F H1 e1 i1 hv hv2 ne y n'
      have c35 : σ1 58 35 = σ 58 35 := F.2 35 (by decide) (by decide) (by decide)
      have o79 : σ1 79 = σ 79 := F.1 79 (by decide) (by decide) (by decide)
      have F2 : FG σ (mup σ1 81 x2 v) := F.tr FG.m81
      have HE : MT (mup σ1 81 x2 v) ∧ (mS (mup σ1 81 x2 v)).1 = (mS σ1).1 := by
        by_cases q : v = σ1 81 x2
        · have e : mup σ1 81 x2 v = σ1 := by
            funext i k
            by_cases a : i = 81
            · by_cases b : k = x2
              · rw [a, b, mup_eq, q]
              · rw [a, mup_nk b]
            · rw [mup_ne a]
          rw [e]; exact ⟨H1, rfl⟩
        · have v1 := hv.resolve_left q
          rw [v1]
          rcases hv2 v1 with z | z
          · exact H1.gn (by rw [o79]; exact z)
          · exact absurd (v1.trans z.symm) q
      obtain ⟨H2, e2⟩ := HE
      have e2 := e2.trans e1
      have c2 : (mup σ1 81 x2 v) 58 35 = σ 58 35 := (mup_ne (by decide)).trans c35
      obtain ⟨s', l, f1, i2, H3, e3, y3, n3⟩ := ih (x2 + 1) (mup σ1 81 x2 v) H2 (F2.nm N) (F2.sm e2 S) (by rw [c2]; exact hn) (fun ρ Mi => hw ρ (by rw [e2] at Mi; rw [show (mS (mup σ1 81 x2 v)).2.1 = (mS σ).2.1 from c2] at Mi; exact Mi)) ((mup_ne (by decide)).trans i1) (by rw [c2]; omega) (by omega)
      refine ⟨s', ⟨⟨by omega, by omega⟩, ⟨by omega, by omega⟩, l⟩, F2.tr f1, i2, H3, e3.trans e2, fun u h1 h2 h3 => ?_, fun u h3 => ?_⟩
      · by_cases e : u = x2
        · rw [n3 u (fun z => by omega), e, mup_eq]
          exact y (by rw [← e]; exact h3)
        · exact y3 u (by omega) (by rw [c2]; exact h2) ((F2.fv e2).mpr h3)
      · have z := n3 u (fun ⟨a, b, c⟩ => h3 ⟨by omega, by rw [c2] at b; exact b, (F2.fv e2).mp c⟩)
        rw [z]
        by_cases e : u = x2
        · rw [e, mup_eq]
          exact n' (fun c => h3 ⟨by omega, by omega, by rw [e]; exact c⟩)
        · rw [mup_nk e]; exact ne u e
    have hfg : FG σ σ := ⟨fun _ _ _ _ => rfl, fun _ _ _ _ => rfl⟩
    -- free: 0 at once
    have no : ¬ fV σ n x2 → ∀ σ1, FW2 σ σ1 → ∃ s', B_Mo_generalize_130 (d + 4) n x2 σ1 none s' ∧ FG σ s' ∧ s' 58 44 = 0 ∧ MT s' ∧ (mS s').1 = (mS σ).1 ∧ (∀ u, x2 ≤ u → u < σ 58 35 → fV σ n u → s' 81 u = 1) ∧ ∀ u, ¬ (x2 ≤ u ∧ u < σ 58 35 ∧ fV σ n u) → s' 81 u = σ 81 u := by
      intro nf σ1 F
      obtain ⟨H1, e1⟩ := F.mt H
      have o81 : σ1 81 = σ 81 := F.1 81 (by decide) (by decide)
      have c30 : σ1 58 30 = σ 58 30 := F.2 30 (by decide) (by decide)
      have hN := N.1
      obtain ⟨s', a, r⟩ := go σ1 (σ1 81 x2) F.fg H1 (by rw [e1]) ((F.2 44 (by decide) (by decide)).trans hi) (Or.inl rfl) Or.inr (fun u _ => by rw [o81]) (fun z => absurd z nf) (fun _ => by rw [o81])
      refine ⟨s', ?_, r⟩
      unfold B_Mo_generalize_130 B_Mo_generalize_131
      refine K_Mo_generalize_135 (d := d + 4) ⟨by omega, by omega⟩ ⟨by omega, by omega⟩ (rgk rfl) (rgk rfl) ?_
      have b : B_Mo_generalize_185 (d + 4) n x2 0 σ1 none s' := by
        unfold B_Mo_generalize_185
        rw [if_pos rfl]
        exact ⟨⟨by omega, by omega⟩, a⟩
      unfold B_Mo_generalize_135
      by_cases q : 0 ≥ σ1 58 30
      · rw [if_pos q]; exact b
      · rw [if_neg q, if_pos rfl]; exact b
    by_cases k79 : σ 79 x2 ≠ 0
    · obtain ⟨s', a, r⟩ := no (fun z => k79 z.1.1) σ ⟨fun _ _ _ => rfl, fun _ _ _ => rfl⟩
      refine ⟨s', K_Mo_generalize_84 (d := d + 4) ⟨by omega, by omega⟩ ⟨by omega, by omega⟩ ?_, r⟩
      unfold B_Mo_generalize_84
      rw [if_neg (by omega), if_neg (by omega)]
      refine ⟨⟨by omega, by omega⟩, ?_⟩
      rw [if_pos k79]; exact a
    · by_cases k80 : σ 80 x2 ≥ 0
      · obtain ⟨s', a, r⟩ := no (fun z => by have := z.1.2; omega) σ ⟨fun _ _ _ => rfl, fun _ _ _ => rfl⟩
        refine ⟨s', K_Mo_generalize_84 (d := d + 4) ⟨by omega, by omega⟩ ⟨by omega, by omega⟩ ?_, r⟩
        unfold B_Mo_generalize_84
        rw [if_neg (by omega), if_neg (by omega)]
        refine ⟨⟨by omega, by omega⟩, ?_⟩
        rw [if_neg k79]
        refine ⟨⟨by omega, by omega⟩, ?_⟩
        rw [if_pos k80]; exact a
      · have kv : σ 79 x2 = 0 := by omega
        have nl : ¬ lkd (mS σ).1 x2 := fun z => by have : 0 ≤ σ 80 x2 := z.2; omega
        obtain ⟨μ, Mi⟩ := ms_min H
        obtain ⟨b, m2, s1, f2, b01, bo⟩ := s_standsIn (d := d) (n := n) H Mi ⟨h0, by omega⟩ nl hn.1 hn.2 (hw μ Mi)
        obtain ⟨H2, e2⟩ := f2.mt H
        have e21 : (mS m2).1 = (mS σ).1 := by rw [e2]
        have o77 : m2 77 = σ 77 := f2.1 77 (by decide) (by decide)
        have o78 : m2 78 = σ 78 := f2.1 78 (by decide) (by decide)
        have o81 : m2 81 = σ 81 := f2.1 81 (by decide) (by decide)
        have c30 : m2 58 30 = σ 58 30 := f2.2 30 (by decide) (by decide)
        have c35 : m2 58 35 = σ 58 35 := f2.2 35 (by decide) (by decide)
        by_cases q : b = 0
        · obtain ⟨s', a, r⟩ := no (fun z => by have := bo.mpr z.2.1; omega) m2 f2
          refine ⟨s', K_Mo_generalize_84 (d := d + 4) ⟨by omega, by omega⟩ ⟨by omega, by omega⟩ ?_, r⟩
          unfold B_Mo_generalize_84
          rw [if_neg (by omega), if_neg (by omega)]
          refine ⟨⟨by omega, by omega⟩, ?_⟩
          rw [if_neg k79]
          refine ⟨⟨by omega, by omega⟩, ?_⟩
          rw [if_neg k80]
          refine ⟨b, m2, s1, ?_⟩
          rw [if_pos q]; exact a
        · have o := bo.mp (by omega)
          have hN := N.1
          obtain ⟨s', l, r⟩ := gen_135 (d := d) (n := n) (u := x2) (P := fun s' => FG σ s' ∧ s' 58 44 = 0 ∧ MT s' ∧ (mS s').1 = (mS σ).1 ∧ (∀ u, x2 ≤ u → u < σ 58 35 → fV σ n u → s' 81 u = 1) ∧ ∀ u, ¬ (x2 ≤ u ∧ u < σ 58 35 ∧ fV σ n u) → s' 81 u = σ 81 u) (σ 58 30).toNat 0 1 m2 H2 (f2.fg.nm N) (f2.fg.sm e21 S) ⟨h0, by omega⟩ (by rw [e21]; exact nl) ⟨by omega, by omega⟩ (by omega) (by omega) (Or.inr rfl) (fun σ1 fr F r q => by
            obtain ⟨H1, e1⟩ := F.mt H2
            have e11 : (mS σ1).1 = (mS σ).1 := by rw [e1, e2]
            have p81 : σ1 81 = σ 81 := (F.1 81 (by decide) (by decide)).trans o81
            have q2 : fr = 1 ↔ fV σ n x2 := q.trans (by
              rw [e21, o77, o78, c30]
              exact ⟨fun z => ⟨⟨kv, by omega⟩, o, fun k h1 h2 h3 => z.2 k h1 h2 h3⟩, fun z => ⟨rfl, fun k h1 h2 h3 => z.2.2 k h1 h2 h3⟩⟩)
            have i1 : σ1 58 44 = 0 := ((F.2 44 (by decide) (by decide)).trans (f2.2 44 (by decide) (by decide))).trans hi
            rcases r with r | r
            · obtain ⟨s', a, z⟩ := go σ1 (σ1 81 x2) (f2.fg.tr F.fg) H1 e11 i1 (Or.inl rfl) Or.inr (fun u _ => by rw [p81]) (fun z => by have := q2.mpr z; omega) (fun _ => by rw [p81])
              refine ⟨s', ?_, z⟩
              unfold B_Mo_generalize_185
              rw [if_pos r]
              exact ⟨⟨by omega, by omega⟩, a⟩
            · obtain ⟨s', a, z⟩ := go σ1 1 (f2.fg.tr F.fg) H1 e11 i1 (Or.inr rfl) (fun _ => Or.inl kv) (fun u _ => by rw [p81]) (fun _ => rfl) (fun z => absurd (q2.mp r) z)
              refine ⟨s', ?_, z⟩
              unfold B_Mo_generalize_185
              rw [if_neg (by omega)]
              exact a)
          refine ⟨s', K_Mo_generalize_84 (d := d + 4) ⟨by omega, by omega⟩ ⟨by omega, by omega⟩ ?_, r⟩
          unfold B_Mo_generalize_84
          rw [if_neg (by omega), if_neg (by omega)]
          refine ⟨⟨by omega, by omega⟩, ?_⟩
          rw [if_neg k79]
          refine ⟨⟨by omega, by omega⟩, ?_⟩
          rw [if_neg k80]
          refine ⟨b, m2, s1, ?_⟩
          rw [if_neg q]
          unfold B_Mo_generalize_131
          exact l
end MG2
