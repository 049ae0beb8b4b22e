/-! The model's bindingType: names, LET, REC, IF, the frame of a choice. -/
/-- after what is looked at was kept with a new variable -/
def lkM (m : Mem) (t : Int) : Mem := mup (mup (mkM (mup m 84 (m 58 41) t) 0 (-1) 0) 84 (m 58 41 + 1) (m 58 35)) 58 41 (m 58 41 + 2)
section MN4
variable {σ σ' m m1 m2 m3 m4 : Mem} {d : Nat} {p k x n : Int}
theorem t_bd (hp : 0 ≤ p ∧ p < 124) (hk : σ 60 p = 6 ∨ (10 ≤ σ 60 p ∧ σ 60 p ≤ 19 ∧ σ 60 p ≠ 12)) (A : Rn (d + 13) yMo_bindingType [.ref 58, vi p, vi (σ 60 p)] σ none m) (h : rg (m 58 30)) : Rn (d + 14) yMo_typeOf [.ref 58, vi p] σ none m := by
  refine M_Mo_typeOf (d := d + 10) ⟨by omega, by omega⟩ ?_
  unfold B_Mo_typeOf
  refine ⟨hp, hp, ?_⟩
  rw [if_pos (by omega), if_pos (by omega), if_pos (by omega), if_pos (by omega), if_pos (by omega), if_pos (by omega), if_pos (by omega), if_neg (by omega)]
  exact ⟨_, A, t_213 (by omega) (by omega) h⟩
theorem b_6 (H : MT σ) (hp : 0 ≤ p ∧ p < 124) (hx : x = 6 ∨ x = 19) (hz : rg (σ 62 p)) (hn : 0 ≤ σ 58 30 ∧ σ 58 30 < 64) (hc : σ 58 35 + 1 ≤ 1300) : Rn (d + 13) yMo_bindingType [.ref 58, vi p, vi x] σ none (bdM (mkM σ 0 (-1) 0) (σ 62 p) (σ 58 35)) := by
  have c0 := H.2.1
  have B : B_Mo_bindingType_12 (d + 9) p σ none (bdM (mkM σ 0 (-1) 0) (σ 62 p) (σ 58 35)) := ⟨hp, _, _, m_fresh (d := d + 7) H (by omega), _, r_bind (d := d + 8) hz ⟨by omega, by omega⟩ (by rw [mkM_58 (by decide)]; exact hn), rfl, rfl⟩
  refine M_Mo_bindingType (d := d + 9) ⟨by omega, by omega⟩ ⟨by omega, by omega⟩ ?_
  unfold B_Mo_bindingType
  rcases hx with h | h
  · rw [if_pos h]; exact B
  · rw [if_neg (by omega), if_neg (fun z => z h)]; exact B
theorem b_10 (hp : 0 ≤ p ∧ p < 124) (hz : rg (σ 62 p)) (hn : 0 ≤ σ 58 30 ∧ σ 58 30 < 64) (ht : 1 ≤ σ 58 37 ∧ σ 58 37 ≤ 120) (hx : rg (σ 83 (σ 58 37 - 1))) (G : Rn (d + 12) yMo_generalize [.ref 58, vi (σ 83 (σ 58 37 - 1))] (mup σ 58 37 (σ 58 37 - 1)) none m) (F : FG (mup σ 58 37 (σ 58 37 - 1)) m) : Rn (d + 13) yMo_bindingType [.ref 58, vi p, vi 10] σ none (mup (bdM m (σ 62 p) (σ 83 (σ 58 37 - 1))) 78 (σ 58 30) 1) := by
  have f62 : m 62 = σ 62 := (F.1 62 (by decide) (by decide) (by decide)).trans (mup_obj (by decide))
  have f30 : m 58 30 = σ 58 30 := (F.2 30 (by decide) (by decide) (by decide)).trans (mup_nk (by decide))
  have b30 : bdM m (σ 62 p) (σ 83 (σ 58 37 - 1)) 58 30 = σ 58 30 + 1 := by unfold bdM; rw [mup_eq, f30]
  refine M_Mo_bindingType (d := d + 9) ⟨by omega, by omega⟩ (rgk rfl) ?_
  unfold B_Mo_bindingType
  rw [if_neg (by decide), if_pos (by decide), if_neg (by decide)]
  refine ⟨_, _, r_pop (d := d + 8) ht, m, G, hp, bdM m (σ 62 p) (σ 83 (σ 58 37 - 1)), ?_, by rw [b30]; omega, rfl, ?_⟩
  · rw [f62]; exact r_bind (d := d + 8) hz hx (by rw [f30]; exact hn)
  · rw [b30, show σ 58 30 + 1 - 1 = σ 58 30 by omega]
theorem b_11 (hp : 0 ≤ p ∧ p < 124) (hn : 1 ≤ σ 58 30 ∧ σ 58 30 ≤ 64) (ht : 1 ≤ σ 58 37 ∧ σ 58 37 ≤ 120) (U : Rn (d + 12) yMo_unify [.ref 58, vi (σ 77 (σ 58 30 - 1)), vi (σ 83 (σ 58 37 - 1))] (mup σ 58 37 (σ 58 37 - 1)) none m) (F : FU (mup σ 58 37 (σ 58 37 - 1)) m) (G : Rn (d + 12) yMo_generalize [.ref 58, vi (σ 77 (σ 58 30 - 1))] (mup m 78 (σ 58 30 - 1) 1) none m2) : Rn (d + 13) yMo_bindingType [.ref 58, vi p, vi 11] σ none m2 := by
  have f30 : m 58 30 = σ 58 30 := (F.2 30 (by decide) (by decide) (by decide)).trans (mup_nk (by decide))
  refine M_Mo_bindingType (d := d + 9) ⟨by omega, by omega⟩ (rgk rfl) ?_
  unfold B_Mo_bindingType
  rw [if_neg (by decide), if_pos (by decide), if_pos (by decide), if_neg (by decide)]
  exact ⟨⟨by omega, by omega⟩, _, _, r_pop (d := d + 8) ht, m, U, ⟨by omega, by omega⟩, m2, by rw [f30]; exact G, rfl, rfl⟩
theorem b_147 (H : MT m) (hx : rg x) (hl : 0 ≤ m 58 41 ∧ m 58 41 + 1 < 60) (hc : m 58 35 + 1 ≤ 1300) : B_Mo_bindingType_147 (d + 9) x m none (lkM m x) := by
  obtain ⟨H1, -⟩ : MT (mup m 84 (m 58 41) x) ∧ mS (mup m 84 (m 58 41) x) = mS m := H.cg (mup_obj (by decide)) (mup_obj (by decide)) (mup_obj (by decide)) (mup_obj (by decide)) (mup_ne (by decide))
  have k35 : (mup m 84 (m 58 41) x) 58 35 = m 58 35 := mup_ne (by decide)
  have R := m_fresh (d := d + 7) H1 (by rw [k35]; omega)
  rw [k35] at R
  have k41 : (mkM (mup m 84 (m 58 41) x) 0 (-1) 0) 58 41 = m 58 41 := by rw [mkM_58 (by decide), mup_ne (by decide)]
  exact ⟨⟨by omega, by omega⟩, _, _, R, ⟨by omega, by omega⟩, by rw [k41]; exact ⟨by omega, by omega⟩, rfl, by rw [k41]; rfl⟩
/-- IF's condition -/
theorem b_13 (hp : 0 ≤ p ∧ p < 124) (ht : 1 ≤ σ 58 37 ∧ σ 58 37 ≤ 120) (hx : rg (σ 83 (σ 58 37 - 1))) (U : Rn (d + 12) yMo_unify [.ref 58, vi (σ 83 (σ 58 37 - 1)), vi 1] (mup σ 58 37 (σ 58 37 - 1)) none m) (B : B_Mo_bindingType_147 (d + 9) (σ 83 (σ 58 37 - 1)) m none m2) : Rn (d + 13) yMo_bindingType [.ref 58, vi p, vi 13] σ none m2 := by
  refine M_Mo_bindingType (d := d + 9) ⟨by omega, by omega⟩ (rgk rfl) ?_
  unfold B_Mo_bindingType
  rw [if_neg (by decide), if_pos (by decide), if_pos (by decide), if_pos (by decide), if_pos rfl]
  unfold B_Mo_bindingType_130
  refine ⟨_, _, r_pop (d := d + 8) ht, ?_⟩
  rw [if_neg (fun z => z rfl)]
  exact ⟨m, U, B⟩
/-- what a choice looks at -/
theorem b_15 (hp : 0 ≤ p ∧ p < 124) (ht : 1 ≤ σ 58 37 ∧ σ 58 37 ≤ 120) (hx : rg (σ 83 (σ 58 37 - 1))) (B : B_Mo_bindingType_147 (d + 9) (σ 83 (σ 58 37 - 1)) (mup σ 58 37 (σ 58 37 - 1)) none m2) : Rn (d + 13) yMo_bindingType [.ref 58, vi p, vi 15] σ none m2 := by
  refine M_Mo_bindingType (d := d + 9) ⟨by omega, by omega⟩ (rgk rfl) ?_
  unfold B_Mo_bindingType
  rw [if_neg (by decide), if_pos (by decide), if_pos (by decide), if_pos (by decide), if_neg (by decide), if_neg (fun z => z rfl)]
  unfold B_Mo_bindingType_130
  refine ⟨_, _, r_pop (d := d + 8) ht, ?_⟩
  rw [if_pos (by decide)]
  exact B
/-- the end of a first or of a branch's expression -/
theorem b_14 (hp : 0 ≤ p ∧ p < 124) (ht : 1 ≤ σ 58 37 ∧ σ 58 37 ≤ 120) (hl : 1 ≤ σ 58 41 ∧ σ 58 41 ≤ 60) (U : Rn (d + 12) yMo_unify [.ref 58, vi (σ 84 (σ 58 41 - 1)), vi (σ 83 (σ 58 37 - 1))] (mup σ 58 37 (σ 58 37 - 1)) none m) : Rn (d + 13) yMo_bindingType [.ref 58, vi p, vi 14] σ none m := by
  refine M_Mo_bindingType (d := d + 9) ⟨by omega, by omega⟩ (rgk rfl) ?_
  unfold B_Mo_bindingType
  rw [if_neg (by decide), if_pos (by decide), if_pos (by decide), if_pos (by decide), if_neg (by decide), if_pos (by decide), if_pos (by decide), if_neg (by decide)]
  exact ⟨⟨by omega, by omega⟩, _, _, r_pop (d := d + 8) ht, m, U, rfl, rfl⟩
theorem b_263 (r : rmS m) (hl : 2 ≤ m 58 41 ∧ m 58 41 ≤ 60) (hx : rg (m 84 (m 58 41 - 1))) : B_Mo_bindingType_263 (d + 9) m none (mup (puM m (m 84 (m 58 41 - 1))) 58 41 (m 58 41 - 2)) := by
  have k41 : puM m (m 84 (m 58 41 - 1)) 58 41 = m 58 41 := puM_fx.2 41 (by decide) (by decide)
  exact ⟨⟨by omega, by omega⟩, _, r_push (d := d + 8) hx r.1 r.2.1, by rw [k41]; exact ⟨by omega, by omega⟩, rfl, by rw [k41]⟩
/-- the end of a choice -/
theorem b_17 (hp : 0 ≤ p ∧ p < 124) (B : B_Mo_bindingType_263 (d + 9) σ none m) : Rn (d + 13) yMo_bindingType [.ref 58, vi p, vi 17] σ none m := by
  refine M_Mo_bindingType (d := d + 9) ⟨by omega, by omega⟩ (rgk rfl) ?_
  unfold B_Mo_bindingType
  rw [if_neg (by decide), if_pos (by decide), if_pos (by decide), if_pos (by decide), if_neg (by decide), if_pos (by decide), if_pos (by decide), if_pos (by decide), if_pos (by decide)]
  exact B
/-- the end of IF -/
theorem b_18 (hp : 0 ≤ p ∧ p < 124) (ht : 1 ≤ σ 58 37 ∧ σ 58 37 ≤ 120) (hl : 1 ≤ σ 58 41 ∧ σ 58 41 ≤ 60) (U : Rn (d + 12) yMo_unify [.ref 58, vi (σ 84 (σ 58 41 - 1)), vi (σ 83 (σ 58 37 - 1))] (mup σ 58 37 (σ 58 37 - 1)) none m) (B : B_Mo_bindingType_263 (d + 9) m none m2) : Rn (d + 13) yMo_bindingType [.ref 58, vi p, vi 18] σ none m2 := by
  refine M_Mo_bindingType (d := d + 9) ⟨by omega, by omega⟩ (rgk rfl) ?_
  unfold B_Mo_bindingType
  rw [if_neg (by decide), if_pos (by decide), if_pos (by decide), if_pos (by decide), if_neg (by decide), if_pos (by decide), if_pos (by decide), if_pos (by decide), if_neg (fun z => z rfl)]
  exact ⟨⟨by omega, by omega⟩, _, _, r_pop (d := d + 8) ht, m, U, B⟩
/-- a branch's pattern -/
theorem b_16 (hp : 0 ≤ p ∧ p < 124) (hl : 2 ≤ σ 58 41 ∧ σ 58 41 ≤ 60) (P : Rn (d + 12) yMo_patternTypes [.ref 58, vi p, vi (σ 84 (σ 58 41 - 2))] σ none m) : Rn (d + 13) yMo_bindingType [.ref 58, vi p, vi 16] σ none m := by
  refine M_Mo_bindingType (d := d + 9) ⟨by omega, by omega⟩ (rgk rfl) ?_
  unfold B_Mo_bindingType
  rw [if_neg (by decide), if_pos (by decide), if_pos (by decide), if_pos (by decide), if_neg (by decide), if_pos (by decide), if_neg (fun z => z rfl)]
  exact ⟨⟨by omega, by omega⟩, m, P, rfl, rfl⟩
end MN4
