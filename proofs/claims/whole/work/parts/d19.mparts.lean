/-! The model asks how wide all parts are, after each instruction. -/
def FX (σ σ' : Mem) : Prop := (∀ i, i ≠ 58 → i ≠ 86 → σ' i = σ i) ∧ ∀ k, k ≠ 44 → k ≠ 45 → σ' 58 k = σ 58 k
section MPA
variable {σ σ' σ1 : Mem} {d : Nat} {x4 : Int}
theorem FX.tr (x : FX σ σ1) (y : FX σ1 σ') : FX σ σ' := ⟨fun i h1 h2 => (y.1 i h1 h2).trans (x.1 i h1 h2), fun k h1 h2 => (y.2 k h1 h2).trans (x.2 k h1 h2)⟩
theorem FX.rf : FX σ σ := ⟨fun _ _ _ => rfl, fun _ _ _ => rfl⟩
theorem FX.m44 {z : Int} : FX σ (mup σ 58 44 z) := ⟨fun _ p _ => mup_obj p, fun _ p _ => mup_nk p⟩
theorem FW.fx (x : FW σ σ') : FX σ σ' := ⟨fun i h1 h2 => x.1 i h1 h2, fun k _ h2 => x.2 k h2⟩
theorem FX.mt (f : FX σ σ') (H : MT σ) : MT σ' ∧ mS σ' = mS σ := H.cg (f.1 79 (by decide) (by decide)) (f.1 80 (by decide) (by decide)) (f.1 81 (by decide) (by decide)) (f.1 82 (by decide) (by decide)) (f.2 35 (by decide) (by decide))
theorem tf_i : ∀ (f : Nat) (x5 : Int) (σ : Mem), x5 + f = σ 58 43 → 0 ≤ x5 → (σ 58 43 ≤ 260) → (0 ≤ x4 ∧ x4 ≤ 1000) → σ 58 44 = 1 → ∃ σ', (∀ o s', Lb (d + 6) yMo_typesFound 57 [(0, .ref 58), (4, vi (x4 + 1))] [] σ' o s' → Lb (d + 6) yMo_typesFound 82 [(0, .ref 58), (4, vi x4), (5, vi x5)] [] σ o s') ∧ FX σ σ' ∧ σ' 58 44 = 1 := by
  intro f
  induction f with
  | zero =>
    intro x5 σ he h0 hb h4 hi
    refine ⟨σ, fun o s' l => K_Mo_typesFound_82 (d := d + 3) ⟨by omega, by omega⟩ ⟨by omega, by omega⟩ ?_, FX.rf, hi⟩
    unfold B_Mo_typesFound_82
    rw [if_pos (by omega)]
    exact ⟨⟨by omega, by omega⟩, l⟩
  | succ f ih =>
    intro x5 σ he h0 hb h4 hi
    have k43 : (mup σ 58 44 1) 58 43 = σ 58 43 := mup_nk (by decide)
    obtain ⟨σ', k, F, i⟩ := ih (x5 + 1) (mup σ 58 44 1) (by rw [k43]; omega) (by omega) (by rw [k43]; exact hb) h4 mup_eq
    refine ⟨σ', fun o s' l => K_Mo_typesFound_82 (d := d + 3) ⟨by omega, by omega⟩ ⟨by omega, by omega⟩ ?_, FX.m44.tr F, i⟩
    unfold B_Mo_typesFound_82
    rw [if_neg (by omega), if_pos (by omega)]
    unfold B_Mo_typesFound_115 B_Mo_typesFound_120
    exact ⟨Or.inr rfl, ⟨by omega, by omega⟩, k o s' l⟩
theorem tf_82 : ∀ (f : Nat) (x5 : Int) (σ : Mem), MT σ → x5 + f = σ 58 43 → 0 ≤ x5 → (σ 58 43 ≤ 260) → (0 ≤ x4 ∧ x4 ≤ 1000) → σ 58 44 = 0 → (∀ k, 0 ≤ k → k < σ 58 43 → 0 ≤ σ 85 k ∧ σ 85 k < σ 58 35) → ∃ σ', (∀ o s', Lb (d + 6) yMo_typesFound 57 [(0, .ref 58), (4, vi (x4 + 1))] [] σ' o s' → Lb (d + 6) yMo_typesFound 82 [(0, .ref 58), (4, vi x4), (5, vi x5)] [] σ o s') ∧ FX σ σ' ∧ ((σ' 58 44 = 0 ∧ ∀ μ, MinV (mS σ).1 (mS σ).2.1 μ → ∀ k, x5 ≤ k → k < σ 58 43 → gw (μ (σ 85 k)) ≤ 80) ∨ (σ' 58 44 = 1 ∧ ∃ k, (0 ≤ k ∧ k < σ 58 43) ∧ ∀ ρ, VS (mS σ).1 (mS σ).2.1 ρ → 80 < gw (ρ (σ 85 k)))) := by
  intro f
  induction f with
  | zero =>
    intro x5 σ H he h0 hb h4 hi hp
    refine ⟨σ, fun o s' l => K_Mo_typesFound_82 (d := d + 3) ⟨by omega, by omega⟩ ⟨by omega, by omega⟩ ?_, FX.rf, Or.inl ⟨hi, fun μ _ k h1 h2 => by omega⟩⟩
    unfold B_Mo_typesFound_82
    rw [if_pos (by omega)]
    exact ⟨⟨by omega, by omega⟩, l⟩
  | succ f ih =>
    intro x5 σ H he h0 hb h4 hi hp
    obtain ⟨μ, Mi⟩ := ms_min H
    have rp := hp x5 h0 (by omega)
    have hc := H.2.1
    obtain ⟨v, m, s1, F, vb, -, p1, p2⟩ := s_width (d := d) (n := σ 85 x5) H Mi rp.1 rp.2
    have st : ∀ z : Int, z = 0 ∨ z = 1 → ∀ σ', (∀ o s', Lb (d + 6) yMo_typesFound 57 [(0, .ref 58), (4, vi (x4 + 1))] [] σ' o s' → Lb (d + 6) yMo_typesFound 82 [(0, .ref 58), (4, vi x4), (5, vi (x5 + 1))] [] (mup m 58 44 z) o s') → (∀ o s', B_Mo_typesFound_120 (d + 3) x4 x5 z m o s' → Lb (d + 6) yMo_typesFound 82 [(0, .ref 58), (4, vi x4), (5, vi x5)] [] σ o s') → ∀ o s', Lb (d + 6) yMo_typesFound 57 [(0, .ref 58), (4, vi (x4 + 1))] [] σ' o s' → Lb (d + 6) yMo_typesFound 82 [(0, .ref 58), (4, vi x4), (5, vi x5)] [] σ o s' := fun z hz σ' k1 k2 o s' l => k2 o s' ⟨hz, ⟨by omega, by omega⟩, k1 o s' l⟩
    have start : ∀ o s', (if v ≤ 80 then (B_Mo_typesFound_120 (d + 3) x4 x5 0 m o s') else (B_Mo_typesFound_115 (d + 3) x4 x5 m o s')) → Lb (d + 6) yMo_typesFound 82 [(0, .ref 58), (4, vi x4), (5, vi x5)] [] σ o s' := fun o s' h => by
      refine K_Mo_typesFound_82 (d := d + 3) ⟨by omega, by omega⟩ ⟨by omega, by omega⟩ ?_
      unfold B_Mo_typesFound_82
      rw [if_neg (by omega), if_neg (by omega)]
      exact ⟨⟨by omega, by omega⟩, v, m, s1, h⟩
    by_cases q : v ≤ 80
    · have sm : gw (μ (σ 85 x5)) ≤ 80 := by
        by_cases h : gw (μ (σ 85 x5)) ≤ 80
        · exact h
        · have := p2 (by omega); omega
      have F2 : FX σ (mup m 58 44 0) := F.fx.tr FX.m44
      obtain ⟨H2, e2⟩ := F2.mt H
      have k43 : (mup m 58 44 0) 58 43 = σ 58 43 := F2.2 43 (by decide) (by decide)
      have k35 : (mup m 58 44 0) 58 35 = σ 58 35 := F2.2 35 (by decide) (by decide)
      have o85 : (mup m 58 44 0) 85 = σ 85 := F2.1 85 (by decide) (by decide)
      obtain ⟨σ', k, F3, out⟩ := ih (x5 + 1) (mup m 58 44 0) H2 (by rw [k43]; omega) (by omega) (by rw [k43]; exact hb) h4 mup_eq (by rw [k43, k35, o85]; exact hp)
      refine ⟨σ', st 0 (Or.inl rfl) σ' k (fun o s' h => start o s' (by rw [if_pos q]; exact h)), F2.tr F3, ?_⟩
      rw [e2, k43, o85] at out
      rcases out with ⟨o1, o2⟩ | o
      · refine Or.inl ⟨o1, fun μ' Mi' k h1 h2 => ?_⟩
        by_cases e : k = x5
        · rw [e]
          have := wid_all H Mi' μ Mi.1 (σ 85 x5) rp.1 rp.2
          omega
        · exact o2 μ' Mi' k (by omega) h2
      · exact Or.inr o
    · have big : 80 < gw (μ (σ 85 x5)) := by
        by_cases h : gw (μ (σ 85 x5)) ≤ 80
        · have := (p1 h).1; omega
        · omega
      have F2 : FX σ (mup m 58 44 1) := F.fx.tr FX.m44
      have k43 : (mup m 58 44 1) 58 43 = σ 58 43 := F2.2 43 (by decide) (by decide)
      obtain ⟨σ', k, F3, i⟩ := tf_i (d := d) (x4 := x4) f (x5 + 1) (mup m 58 44 1) (by rw [k43]; omega) (by omega) (by rw [k43]; exact hb) h4 mup_eq
      refine ⟨σ', st 1 (Or.inr rfl) σ' k (fun o s' h => start o s' (by rw [if_neg q]; unfold B_Mo_typesFound_115; exact h)), F2.tr F3, Or.inr ⟨i, x5, ⟨h0, by omega⟩, fun ρ V => ?_⟩⟩
      have := wid_all H Mi ρ V (σ 85 x5) rp.1 rp.2
      omega
end MPA
