/-! The model's generalize. -/
def FG (σ σ' : Mem) : Prop := (∀ i, i ≠ 58 → i ≠ 81 → i ≠ 86 → σ' i = σ i) ∧ ∀ k, k ≠ 38 → k ≠ 44 → k ≠ 45 → σ' 58 k = σ 58 k
/-- the names of the model's environment -/
def nmM (σ : Mem) : Prop := (0 ≤ σ 58 30 ∧ σ 58 30 ≤ 64) ∧ ∀ k, 0 ≤ k → k < σ 58 30 → 0 ≤ σ 77 k ∧ σ 77 k < σ 58 35
/-- variables of n that stand in no name -/
def fV (σ : Mem) (n u : Int) : Prop := (σ 79 u = 0 ∧ σ 80 u < 0) ∧ Oc (mS σ).1 u n ∧ ∀ k, 0 ≤ k → k < σ 58 30 → σ 78 k = 0 → ¬ Oc (mS σ).1 u (σ 77 k)
def smN (σ : Mem) : Prop := ∀ ρ, MinV (mS σ).1 (mS σ).2.1 ρ → ∀ k, 0 ≤ k → k < σ 58 30 → σ 78 k = 0 → gw (ρ (σ 77 k)) ≤ 80
section MGN
variable {σ σ' σ1 : Mem} {d : Nat} {n u : Int} {P : Mem → Prop}
theorem FG.tr (x : FG σ σ1) (y : FG σ1 σ') : FG σ σ' := ⟨fun i h1 h2 h3 => (y.1 i h1 h2 h3).trans (x.1 i h1 h2 h3), fun k h1 h2 h3 => (y.2 k h1 h2 h3).trans (x.2 k h1 h2 h3)⟩
theorem FW2.fg (x : FW2 σ σ') : FG σ σ' := ⟨fun i h1 _ h3 => x.1 i h1 h3, fun k h1 _ h3 => x.2 k h3 h1⟩
theorem FW.fg (x : FW σ σ') : FG σ σ' := ⟨fun i h1 _ h3 => x.1 i h1 h3, fun k _ _ h3 => x.2 k h3⟩
theorem FG.m81 {k z : Int} : FG σ (mup σ 81 k z) := ⟨fun _ _ p _ => mup_obj p, fun _ _ _ _ => mup_ne (by decide)⟩
theorem FG.m44 {z : Int} : FG σ (mup σ 58 44 z) := ⟨fun _ p _ _ => mup_obj p, fun _ _ p _ => mup_nk p⟩
theorem FG.nm (f : FG σ σ') (h : nmM σ) : nmM σ' := by
  unfold nmM at h ⊢
  rw [f.1 77 (by decide) (by decide) (by decide), f.2 30 (by decide) (by decide) (by decide), f.2 35 (by decide) (by decide) (by decide)]; exact h
theorem FG.fv (f : FG σ σ') (e : (mS σ').1 = (mS σ).1) : fV σ' n u ↔ fV σ n u := by
  unfold fV
  rw [e, f.1 77 (by decide) (by decide) (by decide), f.1 78 (by decide) (by decide) (by decide), f.1 79 (by decide) (by decide) (by decide), f.1 80 (by decide) (by decide) (by decide), f.2 30 (by decide) (by decide) (by decide)]
theorem FG.sm (f : FG σ σ') (e : (mS σ').1 = (mS σ).1) (h : smN σ) : smN σ' := by
  unfold smN at h ⊢
  rw [e, show (mS σ').2.1 = (mS σ).2.1 from f.2 35 (by decide) (by decide) (by decide), f.1 77 (by decide) (by decide) (by decide), f.1 78 (by decide) (by decide) (by decide), f.2 30 (by decide) (by decide) (by decide)]; exact h
/-- a variable becomes general -/
theorem MT.gn (H : MT σ) {v : Int} (hv : σ 79 v = 0) : MT (mup σ 81 v 1) ∧ (mS (mup σ 81 v 1)).1 = (mS σ).1 := by
  have o79 : (mup σ 81 v 1) 79 = σ 79 := mup_obj (by decide)
  have o80 : (mup σ 81 v 1) 80 = σ 80 := mup_obj (by decide)
  have o82 : (mup σ 81 v 1) 82 = σ 82 := mup_obj (by decide)
  have oc : (mup σ 81 v 1) 58 35 = σ 58 35 := mup_ne (by decide)
  have e : (mS (mup σ 81 v 1)).1 = (mS σ).1 := by
    funext n
    show ((mup σ 81 v 1) 79 n, (mup σ 81 v 1) 80 n, if (mup σ 81 v 1) 79 n = 5 then (mup σ 81 v 1) 81 n else 0) = (σ 79 n, σ 80 n, if σ 79 n = 5 then σ 81 n else 0)
    rw [o79, o80]
    by_cases q : n = v
    · rw [q, hv, if_neg (by decide), if_neg (by decide)]
    · rw [mup_nk q]
  have ec : (mS (mup σ 81 v 1)).2.1 = (mS σ).2.1 := oc
  refine ⟨⟨⟨by rw [e, ec]; exact H.1.1, by rw [e, ec]; exact H.1.2.1, fun u _ => ?_⟩, by rw [oc]; exact H.2.1, by rw [o79]; exact H.2.2.1, by rw [o79, oc]; exact H.2.2.2.1, fun n h0 h1 => ?_, by rw [o82, oc]; exact H.2.2.2.2.2.1, by rw [e, ec]; exact H.2.2.2.2.2.2⟩, e⟩
  · show (if (mup σ 81 v 1) 81 u = 1 then (1000 : Int) else 0) ≤ 1000
    split <;> decide
  · rw [oc] at h1
    have z := H.2.2.2.2.1 n h0 h1
    rw [o79, o80]
    by_cases q : n = v
    · rw [q, mup_eq, hv]
      rw [q, hv] at z
      exact ⟨fun _ => ⟨(z.1 rfl).1, Or.inr rfl⟩, fun q => absurd q (by decide)⟩
    · rw [mup_nk q]; exact z
theorem gen_135 : ∀ (f : Nat) (x4 x3 : Int) (σ : Mem), MT σ → nmM σ → smN σ → (0 ≤ u ∧ u < σ 58 35) → ¬ lkd (mS σ).1 u → rg n → x4 + f = σ 58 30 → 0 ≤ x4 → (x3 = 0 ∨ x3 = 1) → (∀ σ' fr, FW2 σ σ' → (fr = 0 ∨ fr = 1) → (fr = 1 ↔ (x3 = 1 ∧ ∀ k, x4 ≤ k → k < σ 58 30 → σ 78 k = 0 → ¬ Oc (mS σ).1 u (σ 77 k))) → ∃ s', B_Mo_generalize_185 (d + 4) n u fr σ' none s' ∧ P s') → ∃ s', Lb (d + 7) yMo_generalize 135 [(0, .ref 58), (1, vi n), (2, vi u), (3, vi x3), (4, vi x4)] [] σ none s' ∧ P s' := by
  intro f
  induction f with
  | zero =>
    intro x4 x3 σ H N S hu nl hn he h0 h3 K
    have hN := N.1
    obtain ⟨s', a, p⟩ := K σ x3 ⟨fun _ _ _ => rfl, fun _ _ _ => rfl⟩ h3 ⟨fun e => ⟨e, fun k h1 h2 => by omega⟩, And.left⟩
    have hc := H.2.1
    refine ⟨s', K_Mo_generalize_135 (d := d + 4) hn ⟨by omega, by omega⟩ ⟨by omega, by omega⟩ ⟨by omega, by omega⟩ ?_, p⟩
    unfold B_Mo_generalize_135
    rw [if_pos (by omega)]; exact a
  | succ f ih =>
    intro x4 x3 σ H N S hu nl hn he h0 h3 K
    have hN := N.1
    have hc := H.2.1
    rcases h3 with h3 | h3
    · obtain ⟨s', a, p⟩ := K σ x3 ⟨fun _ _ _ => rfl, fun _ _ _ => rfl⟩ (Or.inl h3) ⟨fun e => by omega, fun e => e.1⟩
      refine ⟨s', K_Mo_generalize_135 (d := d + 4) hn ⟨by omega, by omega⟩ ⟨by omega, by omega⟩ ⟨by omega, by omega⟩ ?_, p⟩
      unfold B_Mo_generalize_135
      rw [if_neg (by omega), if_pos h3]; exact a
    · by_cases m : σ 78 x4 ≠ 0
      · obtain ⟨s', a, p⟩ := ih (x4 + 1) 1 σ H N S hu nl hn (by omega) (by omega) (Or.inr rfl) (fun σ' fr F r q => K σ' fr F r (q.trans ⟨fun ⟨_, z⟩ => ⟨h3, fun k k1 k2 k3 => z k (by
            by_cases e : k = x4
            · rw [e] at k3; exact absurd k3 m
            · omega) k2 k3⟩, fun ⟨_, z⟩ => ⟨rfl, fun k k1 k2 k3 => z k (by omega) k2 k3⟩⟩))
        refine ⟨s', K_Mo_generalize_135 (d := d + 4) hn ⟨by omega, by omega⟩ ⟨by omega, by omega⟩ ⟨by omega, by omega⟩ ?_, p⟩
        unfold B_Mo_generalize_135
        rw [if_neg (by omega), if_neg (by omega)]
        refine ⟨⟨by omega, by omega⟩, ?_⟩
        rw [if_pos m]
        unfold B_Mo_generalize_173 B_Mo_generalize_178
        exact ⟨⟨by omega, by omega⟩, a⟩
      · have m0 : σ 78 x4 = 0 := by omega
        obtain ⟨μ, Mi⟩ := ms_min H
        have rn := N.2 x4 h0 (by omega)
        obtain ⟨b, m2, s1, f2, b01, bo⟩ := s_standsIn (d := d) (n := σ 77 x4) H Mi hu nl rn.1 rn.2 (S μ Mi x4 h0 (by omega) m0)
        obtain ⟨H2, e2⟩ := f2.mt H
        have e21 : (mS m2).1 = (mS σ).1 := by rw [e2]
        have N2 := f2.fg.nm N
        have S2 := f2.fg.sm e21 S
        have c30 : m2 58 30 = σ 58 30 := f2.2 30 (by decide) (by decide)
        have c35 : m2 58 35 = σ 58 35 := f2.2 35 (by decide) (by decide)
        have o77 : m2 77 = σ 77 := f2.1 77 (by decide) (by decide)
        have o78 : m2 78 = σ 78 := f2.1 78 (by decide) (by decide)
        obtain ⟨s', a, p⟩ := ih (x4 + 1) (if b ≠ 0 then 0 else 1) m2 H2 N2 S2 (by rw [c35]; exact hu) (by rw [e21]; exact nl) hn (by omega) (by omega) (by split <;> simp) (fun σ' fr F r q => K σ' fr ⟨fun i h1 h2 => (F.1 i h1 h2).trans (f2.1 i h1 h2), fun k h1 h2 => (F.2 k h1 h2).trans (f2.2 k h1 h2)⟩ r (q.trans (by
          rw [e21, o77, o78, c30]
          constructor
          · intro ⟨z1, z⟩
            refine ⟨h3, fun k k1 k2 k3 => ?_⟩
            by_cases e : k = x4
            · rw [e]
              intro o
              rw [if_pos (by have := bo.mpr o; omega)] at z1
              exact absurd z1 (by decide)
            · exact z k (by omega) k2 k3
          · intro ⟨_, z⟩
            refine ⟨?_, fun k k1 k2 k3 => z k (by omega) k2 k3⟩
            have : b = 0 := by
              rcases b01 with q | q
              · exact q
              · exact absurd (bo.mp q) (z x4 (by omega) (by omega) m0)
            rw [if_neg (by omega)])))
        refine ⟨s', K_Mo_generalize_135 (d := d + 4) hn ⟨by omega, by omega⟩ ⟨by omega, by omega⟩ ⟨by omega, by omega⟩ ?_, p⟩
        unfold B_Mo_generalize_135
        rw [if_neg (by omega), if_neg (by omega)]
        refine ⟨⟨by omega, by omega⟩, ?_⟩
        rw [if_neg m]
        refine ⟨⟨by omega, by omega⟩, b, m2, s1, ?_⟩
        by_cases q : b ≠ 0
        · rw [if_pos q] at a ⊢
          unfold B_Mo_generalize_178
          exact ⟨⟨by omega, by omega⟩, a⟩
        · rw [if_neg q] at a ⊢
          unfold B_Mo_generalize_173 B_Mo_generalize_178
          exact ⟨⟨by omega, by omega⟩, a⟩
end MGN
