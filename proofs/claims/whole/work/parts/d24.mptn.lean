/-! The model's patternTypes: one sign at a time. -/
/-- a part of a pattern is kept -/
def ptM (σ : Mem) (l : Int) : Mem := mup (mup σ 85 (σ 58 43) l) 58 43 (σ 58 43 + 1)
/-- before the unify of a list in a pattern -/
def plM (σ : Mem) (l : Int) : Mem := mkM (mkM (ptM σ l) 0 (-1) 0) 4 (σ 58 35) 0
section MPN
variable {σ σ' m : Mem} {d : Nat} {p x s l : Int}
theorem ptM_fx : (∀ i, i ≠ 58 → i ≠ 85 → ptM σ l i = σ i) ∧ ∀ k, k ≠ 43 → ptM σ l 58 k = σ 58 k := ⟨fun i h1 h2 => by unfold ptM; rw [mup_obj h1, mup_obj h2], fun k h => by unfold ptM; rw [mup_nk h, mup_ne (by decide)]⟩
theorem ptM_mt (H : MT σ) : MT (ptM σ l) ∧ mS (ptM σ l) = mS σ := H.cg (ptM_fx.1 79 (by decide) (by decide)) (ptM_fx.1 80 (by decide) (by decide)) (ptM_fx.1 81 (by decide) (by decide)) (ptM_fx.1 82 (by decide) (by decide)) (ptM_fx.2 35 (by decide))
theorem ptM_43 : ptM σ l 58 43 = σ 58 43 + 1 := mup_eq
theorem ptM_85 {i : Int} : ptM σ l 85 i = if i = σ 58 43 then l else σ 85 i := by
  unfold ptM
  rw [mup_ne (by decide)]
  by_cases e : i = σ 58 43
  · rw [if_pos e, e, mup_eq]
  · rw [if_neg e, mup_nk e]
/-- the place of a sign, room for it -/
def pRm (σ : Mem) (p x s : Int) : Prop := (0 ≤ p ∧ p < 124) ∧ (1 ≤ x ∧ x ≤ 118) ∧ (0 ≤ s ∧ s < 80) ∧ s < σ 62 p ∧ (0 ≤ σ 58 43 ∧ σ 58 43 < 260) ∧ σ 58 44 = 0
theorem pt_w (r : pRm σ p x s) (hl : rg (σ 83 (x - 1))) {o : Option Int} {s' : Mem} (k : (σ 66 s = 1 ∧ σ 67 s ≤ 0 ∧ Lb (d + 11) yMo_patternTypes 25 [(0, .ref 58), (1, vi p), (3, vi (x - 1)), (4, vi (s + 1))] [] (ptM σ (σ 83 (x - 1))) o s') ∨ (σ 66 s = 1 ∧ 0 < σ 67 s ∧ rg (σ 67 s) ∧ (0 ≤ σ 58 30 ∧ σ 58 30 < 64) ∧ Lb (d + 11) yMo_patternTypes 25 [(0, .ref 58), (1, vi p), (3, vi (x - 1)), (4, vi (s + 1))] [] (bdM (ptM σ (σ 83 (x - 1))) (σ 67 s) (σ 83 (x - 1))) o s') ∨ ((σ 66 s = 2 ∨ σ 66 s = 3) ∧ ∃ m, Rn (d + 11) yMo_unify [.ref 58, vi (σ 83 (x - 1)), vi (σ 66 s - 2)] (ptM σ (σ 83 (x - 1))) none m ∧ Lb (d + 11) yMo_patternTypes 25 [(0, .ref 58), (1, vi p), (3, vi (x - 1)), (4, vi (s + 1))] [] m o s') ∨ (σ 66 s = 4 ∧ MT σ ∧ σ 58 35 + 2 ≤ 1300 ∧ ∃ m, Rn (d + 11) yMo_unify [.ref 58, vi (σ 83 (x - 1)), vi (σ 58 35 + 1)] (plM σ (σ 83 (x - 1))) none m ∧ Lb (d + 11) yMo_patternTypes 25 [(0, .ref 58), (1, vi p), (3, vi (x - 1)), (4, vi (s + 1))] [] m o s') ∨ (σ 66 s = 0 ∧ MT σ ∧ σ 58 35 + 2 ≤ 1300 ∧ ∃ m, Rn (d + 11) yMo_unify [.ref 58, vi (σ 83 (x - 1)), vi (σ 58 35 + 1)] (plM σ (σ 83 (x - 1))) none m ∧ Lb (d + 11) yMo_patternTypes 25 [(0, .ref 58), (1, vi p), (3, vi (x + 1)), (4, vi (s + 1))] [] (mup (mup m 83 (x - 1) (σ 58 35 + 1)) 83 x (σ 58 35)) o s')) : Lb (d + 11) yMo_patternTypes 25 [(0, .ref 58), (1, vi p), (3, vi x), (4, vi s)] [] σ o s' := by
  obtain ⟨r1, r2, r3, r4, r5, r6⟩ := r
  have ex : x + (-1) = x - 1 := by omega
  refine K_Mo_patternTypes_25 (d := d + 8) ⟨by omega, by omega⟩ ⟨by omega, by omega⟩ ⟨by omega, by omega⟩ ?_
  unfold B_Mo_patternTypes_25
  refine ⟨r1, ?_⟩
  rw [if_neg (by omega), if_neg (by omega), ex]
  refine ⟨⟨by omega, by omega⟩, r5, ⟨by omega, by omega⟩, r3, ?_⟩
  -- a list is made
  have mk : MT σ → σ 58 35 + 2 ≤ 1300 → Rn (d + 11) yMo_fresh [.ref 58] (ptM σ (σ 83 (x - 1))) (some (σ 58 35)) (mkM (ptM σ (σ 83 (x - 1))) 0 (-1) 0) ∧ Rn (d + 11) yMo_make [.ref 58, vi 4, vi (σ 58 35), vi 0] (mkM (ptM σ (σ 83 (x - 1))) 0 (-1) 0) (some (σ 58 35 + 1)) (plM σ (σ 83 (x - 1))) := fun H hc => by
    have c0 := H.2.1
    obtain ⟨H1, -⟩ := ptM_mt (l := σ 83 (x - 1)) H
    have k35 : ptM σ (σ 83 (x - 1)) 58 35 = σ 58 35 := ptM_fx.2 35 (by decide)
    have R1 := m_fresh (d := d + 6) H1 (by omega)
    obtain ⟨-, H2, -⟩ := m_make (d := 0) H1 (by omega) (k := 0) (a := -1) (b := 0) (Or.inl ⟨rfl, rfl, rfl⟩)
    have k2 : mkM (ptM σ (σ 83 (x - 1))) 0 (-1) 0 58 35 = σ 58 35 + 1 := by rw [mkM_c, k35]
    obtain ⟨R2, -, -⟩ := m_make (d := d + 7) H2 (by omega) (k := 4) (a := σ 58 35) (b := 0) (Or.inr (Or.inl ⟨rfl, by omega, rfl⟩))
    rw [k35] at R1
    rw [k2] at R2
    exact ⟨R1, R2⟩
  rcases k with ⟨h1, h2, k⟩ | ⟨h1, h2, hz, h3, k⟩ | ⟨h1, m, U, k⟩ | ⟨h1, H, hc, m, U, k⟩ | ⟨h1, H, hc, m, U, k⟩
  · rw [if_pos (by omega)]
    refine ⟨r3, ?_⟩
    rw [if_neg (by omega)]
    refine ⟨r3, ?_⟩
    rw [if_pos (by omega)]
    exact ⟨⟨by omega, by omega⟩, ⟨by omega, by omega⟩, k⟩
  · rw [if_pos (by omega)]
    refine ⟨r3, ?_⟩
    rw [if_neg (by omega)]
    refine ⟨r3, ?_⟩
    rw [if_neg (by omega)]
    refine ⟨r3, bdM (ptM σ (σ 83 (x - 1))) (σ 67 s) (σ 83 (x - 1)), ?_, ⟨by omega, by omega⟩, ⟨by omega, by omega⟩, k⟩
    exact r_bind (d := d + 7) (σ := ptM σ (σ 83 (x - 1))) hz hl (by rw [ptM_fx.2 30 (by decide)]; exact h3)
  · rw [if_pos (by omega)]
    refine ⟨r3, ?_⟩
    rw [if_pos (by omega)]
    refine ⟨r3, ?_⟩
    by_cases e : σ 66 s = 2
    · rw [if_neg (by omega)]
      rw [show σ 66 s - 2 = 0 by omega] at U
      exact ⟨⟨by omega, by omega⟩, m, U, ⟨by omega, by omega⟩, k⟩
    · rw [if_pos e]
      refine ⟨r3, ?_⟩
      rw [if_neg (by omega)]
      rw [show σ 66 s - 2 = 1 by omega] at U
      exact ⟨⟨by omega, by omega⟩, m, U, ⟨by omega, by omega⟩, k⟩
  · obtain ⟨R1, R2⟩ := mk H hc
    rw [if_pos (by omega)]
    refine ⟨r3, ?_⟩
    rw [if_pos (by omega)]
    refine ⟨r3, ?_⟩
    rw [if_pos (by omega)]
    refine ⟨r3, ?_⟩
    rw [if_pos (by omega)]
    exact ⟨_, _, R1, _, _, R2, ⟨by omega, by omega⟩, m, U, ⟨by omega, by omega⟩, k⟩
  · obtain ⟨R1, R2⟩ := mk H hc
    rw [if_neg (by omega)]
    refine ⟨_, _, R1, _, _, R2, m, U, ⟨by omega, by omega⟩, ⟨by omega, by omega⟩, ⟨by omega, by omega⟩, ⟨by omega, by omega⟩, ?_⟩
    rw [show x - 1 + 2 = x + 1 by omega, show x - 1 + 1 = x by omega]
    exact k
end MPN
