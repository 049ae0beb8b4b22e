/-! The model's typeOf: application, CONS, operations. -/
/-- before an application's unify -/
def apM (σ : Mem) : Mem := mkM (mup (mkM (mup σ 58 37 (σ 58 37 - 1)) 0 (-1) 0) 58 37 (σ 58 37 - 2)) 5 (σ 83 (σ 58 37 - 1)) (σ 58 35)
/-- before a CONS's unify -/
def csM (σ : Mem) : Mem := mkM (mup (mup σ 58 37 (σ 58 37 - 1)) 58 37 (σ 58 37 - 2)) 4 (σ 83 (σ 58 37 - 2)) 0
section MN2
variable {σ σ' m m4 m5 m8 : Mem} {d : Nat} {p k x n : Int}
theorem mu_ill {a b : Int} (hi : σ 58 44 ≠ 0) (ha : rg a) (hb : rg b) : Rn (d + 11) yMo_unify [.ref 58, vi a, vi b] σ none (mup (mup σ 87 0 a) 87 1 b) := by
  refine M_Mo_unify (d := d + 7) ha hb ⟨by decide, by decide, un_ill (rgk rfl) ?_⟩
  rw [mup_ne (by decide), mup_ne (by decide)]; exact hi
theorem p37 {z : Int} (H : MT σ) : MT (mup σ 58 37 z) ∧ mS (mup σ 58 37 z) = mS σ := H.cg (mup_obj (by decide)) (mup_obj (by decide)) (mup_obj (by decide)) (mup_obj (by decide)) (mup_nk (by decide))
theorem apM_mt (H : MT σ) (hb : 0 ≤ σ 83 (σ 58 37 - 1) ∧ σ 83 (σ 58 37 - 1) < σ 58 35) (hc : σ 58 35 + 2 ≤ 1300) : MT (apM σ) ∧ mS (apM σ) = adT (adT (mS σ) (0, -1, 0) 0) (5, σ 83 (σ 58 37 - 1), σ 58 35) (if σ 58 35 = 1 then 1000 else 0) ∧ (∀ i, i ≠ 58 → i ≠ 79 → i ≠ 80 → i ≠ 81 → i ≠ 82 → apM σ i = σ i) ∧ (∀ k, k ≠ 35 → k ≠ 37 → apM σ 58 k = σ 58 k) ∧ apM σ 58 37 = σ 58 37 - 2 ∧ apM σ 58 35 = σ 58 35 + 2 := by
  have c0 := H.2.1
  obtain ⟨H1, e1⟩ := p37 (z := σ 58 37 - 1) H
  have k1 : (mup σ 58 37 (σ 58 37 - 1)) 58 35 = σ 58 35 := mup_nk (by decide)
  obtain ⟨-, H2, -⟩ := m_make (d := 0) H1 (by omega) (k := 0) (a := -1) (b := 0) (Or.inl ⟨rfl, rfl, rfl⟩)
  have e2 := mkM_S (σ := mup σ 58 37 (σ 58 37 - 1)) (k := 0) (a := -1) (b := 0)
  obtain ⟨H3, e3⟩ := p37 (z := σ 58 37 - 2) H2
  have k3 : (mup (mkM (mup σ 58 37 (σ 58 37 - 1)) 0 (-1) 0) 58 37 (σ 58 37 - 2)) 58 35 = σ 58 35 + 1 := by rw [mup_nk (by decide), mkM_c, k1]
  obtain ⟨-, H4, -⟩ := m_make (d := 0) H3 (by omega) (k := 5) (a := σ 83 (σ 58 37 - 1)) (b := σ 58 35) (Or.inr (Or.inr ⟨rfl, by omega, by omega⟩))
  refine ⟨H4, ?_, fun i h1 h2 h3 h4 h5 => ?_, fun k h1 h2 => ?_, ?_, ?_⟩
  · unfold apM
    rw [mkM_S, e3, e2, e1, if_neg (by decide), if_neg (by decide), if_pos rfl]
  · unfold apM mkM
    rw [mup_obj h1, mup_obj h5, mup_obj h4, mup_obj h3, mup_obj h2, mup_obj h1, mup_obj h1, mup_obj h5, mup_obj h4, mup_obj h3, mup_obj h2, mup_obj h1]
  · unfold apM
    rw [mkM_58 h1, mup_nk h2, mkM_58 h1, mup_nk h2]
  · unfold apM
    rw [mkM_58 (by decide), mup_eq]
  · unfold apM
    rw [mkM_c, k3]; omega
theorem t_app (H : MT σ) (hp : 0 ≤ p ∧ p < 124) (hk : σ 60 p = 8) (r : rmS σ) (ht : 2 ≤ σ 58 37) (hc : σ 58 35 + 2 ≤ 1300) (ha : 0 ≤ σ 83 (σ 58 37 - 2) ∧ σ 83 (σ 58 37 - 2) < σ 58 35) (hb : 0 ≤ σ 83 (σ 58 37 - 1) ∧ σ 83 (σ 58 37 - 1) < σ 58 35) (U : Rn (d + 12) yMo_unify [.ref 58, vi (σ 83 (σ 58 37 - 2)), vi (σ 58 35 + 1)] (apM σ) none m5) (F : FU (apM σ) m5) : Rn (d + 14) yMo_typeOf [.ref 58, vi p] σ none (puM m5 (σ 58 35)) := by
  obtain ⟨r1, r2, r3⟩ := r
  have c0 := H.2.1
  obtain ⟨-, -, -, o58, o37, o35⟩ := apM_mt H hb hc
  have f37 : m5 58 37 = σ 58 37 - 2 := (F.2 37 (by decide) (by decide) (by decide)).trans o37
  have f43 : m5 58 43 = σ 58 43 := (F.2 43 (by decide) (by decide) (by decide)).trans (o58 43 (by decide) (by decide))
  have f30 : m5 58 30 = σ 58 30 := (F.2 30 (by decide) (by decide) (by decide)).trans (o58 30 (by decide) (by decide))
  obtain ⟨H1, -⟩ := p37 (z := σ 58 37 - 1) H
  have k1 : (mup σ 58 37 (σ 58 37 - 1)) 58 35 = σ 58 35 := mup_nk (by decide)
  have R2 := m_fresh (d := d + 7) H1 (by rw [k1]; omega)
  rw [k1] at R2
  obtain ⟨-, H2, -⟩ := m_make (d := 0) H1 (by omega) (k := 0) (a := -1) (b := 0) (Or.inl ⟨rfl, rfl, rfl⟩)
  have k37 : (mkM (mup σ 58 37 (σ 58 37 - 1)) 0 (-1) 0) 58 37 = σ 58 37 - 1 := by rw [mkM_58 (by decide), mup_eq]
  have k83 : (mkM (mup σ 58 37 (σ 58 37 - 1)) 0 (-1) 0) 83 = σ 83 := by unfold mkM; rw [mup_obj (by decide), mup_obj (by decide), mup_obj (by decide), mup_obj (by decide), mup_obj (by decide), mup_obj (by decide)]
  have R3 := r_pop (σ := mkM (mup σ 58 37 (σ 58 37 - 1)) 0 (-1) 0) (d := d + 8) (by rw [k37]; omega)
  rw [k37, k83, show σ 58 37 - 1 - 1 = σ 58 37 - 2 by omega] at R3
  obtain ⟨H3, -⟩ := p37 (z := σ 58 37 - 2) H2
  have k3 : (mup (mkM (mup σ 58 37 (σ 58 37 - 1)) 0 (-1) 0) 58 37 (σ 58 37 - 2)) 58 35 = σ 58 35 + 1 := by rw [mup_nk (by decide), mkM_c, k1]
  obtain ⟨R4, -, -⟩ := m_make (d := d + 8) H3 (by omega) (k := 5) (a := σ 83 (σ 58 37 - 1)) (b := σ 58 35) (Or.inr (Or.inr ⟨rfl, by omega, by omega⟩))
  rw [k3] at R4
  have A : Rn (d + 13) yMo_applied [.ref 58] σ none (puM m5 (σ 58 35)) := M_Mo_applied (d := d + 9) ⟨_, _, r_pop (d := d + 8) ⟨by omega, by omega⟩, _, _, R2, _, _, R3, _, _, R4, m5, U, _, r_push (d := d + 8) ⟨by omega, by omega⟩ (by rw [f37]; omega) (by rw [f43]; exact r2), rfl, rfl⟩
  refine M_Mo_typeOf (d := d + 10) ⟨by omega, by omega⟩ ?_
  unfold B_Mo_typeOf
  refine ⟨hp, hp, ?_⟩
  rw [if_pos (by omega), if_pos (by omega), if_pos (by omega), if_pos (by omega), if_pos (by omega), if_neg (by omega)]
  exact ⟨_, A, t_213 (by omega) (by omega) (by rw [puM_30, f30]; exact ⟨by omega, by omega⟩)⟩
theorem csM_mt (H : MT σ) (ha : 0 ≤ σ 83 (σ 58 37 - 2) ∧ σ 83 (σ 58 37 - 2) < σ 58 35) (hc : σ 58 35 + 1 ≤ 1300) : MT (csM σ) ∧ mS (csM σ) = adT (mS σ) (4, σ 83 (σ 58 37 - 2), 0) 0 ∧ (∀ i, i ≠ 58 → i ≠ 79 → i ≠ 80 → i ≠ 81 → i ≠ 82 → csM σ i = σ i) ∧ (∀ k, k ≠ 35 → k ≠ 37 → csM σ 58 k = σ 58 k) ∧ csM σ 58 37 = σ 58 37 - 2 ∧ csM σ 58 35 = σ 58 35 + 1 := by
  have c0 := H.2.1
  obtain ⟨H1, e1⟩ := p37 (z := σ 58 37 - 1) H
  obtain ⟨H2, e2⟩ := p37 (z := σ 58 37 - 2) H1
  have k2 : (mup (mup σ 58 37 (σ 58 37 - 1)) 58 37 (σ 58 37 - 2)) 58 35 = σ 58 35 := by rw [mup_nk (by decide), mup_nk (by decide)]
  obtain ⟨-, H4, -⟩ := m_make (d := 0) H2 (by omega) (k := 4) (a := σ 83 (σ 58 37 - 2)) (b := 0) (Or.inr (Or.inl ⟨rfl, by omega, rfl⟩))
  refine ⟨H4, ?_, fun i h1 h2 h3 h4 h5 => ?_, fun k h1 h2 => ?_, ?_, ?_⟩
  · unfold csM
    rw [mkM_S, e2, e1, if_neg (by decide), if_neg (by decide)]
  · unfold csM mkM
    rw [mup_obj h1, mup_obj h5, mup_obj h4, mup_obj h3, mup_obj h2, mup_obj h1, mup_obj h1]
  · unfold csM
    rw [mkM_58 h1, mup_nk h2, mup_nk h2]
  · unfold csM
    rw [mkM_58 (by decide), mup_eq]
  · unfold csM
    rw [mkM_c, k2]
theorem t_9 (hp : 0 ≤ p ∧ p < 124) (hk : σ 60 p = 9) (A : Rn (d + 13) yMo_operation [.ref 58, vi (σ 61 p)] σ none m) (h : rg (m 58 30)) : Rn (d + 14) yMo_typeOf [.ref 58, vi p] σ none m := by
  refine M_Mo_typeOf (d := d + 10) ⟨by omega, by omega⟩ ?_
  unfold B_Mo_typeOf
  refine ⟨hp, hp, ?_⟩
  rw [if_pos (by omega), if_pos (by omega), if_pos (by omega), if_pos (by omega), if_pos (by omega), if_pos (by omega), if_neg (by omega)]
  exact ⟨_, A, t_213 (by omega) (by omega) h⟩
theorem o_cons (H : MT σ) (r : rmS σ) (ht : 2 ≤ σ 58 37) (hc : σ 58 35 + 1 ≤ 1300) (ha : 0 ≤ σ 83 (σ 58 37 - 2) ∧ σ 83 (σ 58 37 - 2) < σ 58 35) (U : Rn (d + 12) yMo_unify [.ref 58, vi (σ 83 (σ 58 37 - 1)), vi (σ 58 35)] (csM σ) none m5) (F : FU (csM σ) m5) : Rn (d + 13) yMo_operation [.ref 58, vi 44] σ none (puM m5 (σ 58 35)) := by
  obtain ⟨r1, r2, r3⟩ := r
  have c0 := H.2.1
  obtain ⟨-, -, -, o58, o37, o35⟩ := csM_mt H ha hc
  have f37 : m5 58 37 = σ 58 37 - 2 := (F.2 37 (by decide) (by decide) (by decide)).trans o37
  have f43 : m5 58 43 = σ 58 43 := (F.2 43 (by decide) (by decide) (by decide)).trans (o58 43 (by decide) (by decide))
  obtain ⟨H1, -⟩ := p37 (z := σ 58 37 - 1) H
  obtain ⟨H2, -⟩ := p37 (z := σ 58 37 - 2) H1
  have k37 : (mup σ 58 37 (σ 58 37 - 1)) 58 37 = σ 58 37 - 1 := mup_eq
  have k83 : (mup σ 58 37 (σ 58 37 - 1)) 83 = σ 83 := mup_obj (by decide)
  have R3 := r_pop (σ := mup σ 58 37 (σ 58 37 - 1)) (d := d + 8) (by rw [k37]; omega)
  rw [k37, k83, show σ 58 37 - 1 - 1 = σ 58 37 - 2 by omega] at R3
  have k2 : (mup (mup σ 58 37 (σ 58 37 - 1)) 58 37 (σ 58 37 - 2)) 58 35 = σ 58 35 := by rw [mup_nk (by decide), mup_nk (by decide)]
  obtain ⟨R4, -, -⟩ := m_make (d := d + 8) H2 (by omega) (k := 4) (a := σ 83 (σ 58 37 - 2)) (b := 0) (Or.inr (Or.inl ⟨rfl, by omega, rfl⟩))
  rw [k2] at R4
  refine M_Mo_operation (d := d + 9) (rgk rfl) ?_
  unfold B_Mo_operation
  refine ⟨_, _, r_pop (d := d + 8) ⟨by omega, by omega⟩, ?_⟩
  rw [if_neg (by decide)]
  exact ⟨_, _, R3, _, _, R4, m5, U, _, r_push (d := d + 8) ⟨by omega, by omega⟩ (by rw [f37]; omega) (by rw [f43]; exact r2), rfl, rfl⟩
end MN2
