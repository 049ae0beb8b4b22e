/-! The model's typeOf: one instruction at a time. -/
section MNS
variable {σ σ' m : Mem} {d : Nat} {p k x n : Int}
theorem mup_self {i : Nat} {k : Int} : mup σ i k (σ i k) = σ := by
  funext j q
  by_cases a : j = i
  · subst a
    by_cases b : q = k
    · rw [b, mup_eq]
    · rw [mup_nk b]
  · rw [mup_ne a]
theorem t_213 {x2 x3 : Int} (h7 : x2 ≠ 7) (h12 : x2 ≠ 12) (h : rg (σ 58 30)) : B_Mo_typeOf_213 (d + 10) x2 x3 σ none σ := by
  unfold B_Mo_typeOf_213
  rw [if_pos h7, if_pos h12]
  unfold B_Mo_typeOf_239
  have e : σ 58 30 - 0 = σ 58 30 := by omega
  rw [e, mup_self]
  exact ⟨h, rfl, rfl⟩
/-- room on the rows of types and of parts, few names -/
def rmS (σ : Mem) : Prop := (0 ≤ σ 58 37 ∧ σ 58 37 < 120) ∧ (0 ≤ σ 58 43 ∧ σ 58 43 < 260) ∧ 0 ≤ σ 58 30 ∧ σ 58 30 ≤ 64
theorem puM_30 : puM σ x 58 30 = σ 58 30 := by unfold puM; rw [mup_nk (by decide), mup_ne (by decide), mup_nk (by decide), mup_ne (by decide)]
theorem puM_fx : (∀ i, i ≠ 58 → i ≠ 83 → i ≠ 85 → puM σ x i = σ i) ∧ ∀ k, k ≠ 37 → k ≠ 43 → puM σ x 58 k = σ 58 k := ⟨fun i h1 h2 h3 => by unfold puM; rw [mup_obj h1, mup_obj h3, mup_obj h1, mup_obj h2], fun k h1 h2 => by unfold puM; rw [mup_nk h2, mup_ne (by decide), mup_nk h1, mup_ne (by decide)]⟩
theorem puM_mt (H : MT σ) : MT (puM σ x) ∧ mS (puM σ x) = mS σ := H.cg (puM_fx.1 79 (by decide) (by decide) (by decide)) (puM_fx.1 80 (by decide) (by decide) (by decide)) (puM_fx.1 81 (by decide) (by decide) (by decide)) (puM_fx.1 82 (by decide) (by decide) (by decide)) (puM_fx.2 35 (by decide) (by decide))
theorem puM_83 {i : Int} : puM σ x 83 i = if i = σ 58 37 then x else σ 83 i := by
  unfold puM
  rw [mup_ne (by decide), mup_ne (by decide), mup_ne (by decide)]
  by_cases e : i = σ 58 37
  · rw [if_pos e, e, mup_eq]
  · rw [if_neg e, mup_nk e]
theorem puM_85 {i : Int} : puM σ x 85 i = if i = σ 58 43 then x else σ 85 i := by
  unfold puM
  rw [mup_ne (by decide)]
  by_cases e : i = σ 58 43
  · rw [if_pos e, e, mup_eq]
  · rw [if_neg e, mup_nk e, mup_ne (by decide), mup_ne (by decide)]
theorem puM_37 : puM σ x 58 37 = σ 58 37 + 1 := by unfold puM; rw [mup_nk (by decide), mup_ne (by decide), mup_eq]
theorem puM_43 : puM σ x 58 43 = σ 58 43 + 1 := by unfold puM; rw [mup_eq]
/-- a literal -/
theorem t_lit (hp : 0 ≤ p ∧ p < 124) (hk : 0 ≤ σ 60 p ∧ σ 60 p ≤ 2) (r : rmS σ) : Rn (d + 14) yMo_typeOf [.ref 58, vi p] σ none (puM σ (σ 60 p)) := by
  obtain ⟨r1, r2, r3⟩ := r
  refine M_Mo_typeOf (d := d + 10) ⟨by omega, by omega⟩ ?_
  unfold B_Mo_typeOf
  refine ⟨hp, hp, ?_⟩
  rw [if_neg (by omega)]
  exact ⟨_, r_push (d := d + 9) ⟨by omega, by omega⟩ r1 r2, t_213 (by omega) (by omega) (by rw [puM_30]; exact ⟨by omega, by omega⟩)⟩
theorem mkM_58 {k a b q : Int} (h : q ≠ 35) : mkM σ k a b 58 q = σ 58 q := by unfold mkM; rw [mup_nk h, mup_ne (by decide), mup_ne (by decide), mup_ne (by decide), mup_ne (by decide)]
theorem rmS.mk {k a b : Int} (r : rmS σ) : rmS (mkM σ k a b) := by
  unfold rmS at r ⊢
  rw [mkM_58 (by decide), mkM_58 (by decide), mkM_58 (by decide)]; exact r
/-- an empty list -/
theorem t_emp (H : MT σ) (hp : 0 ≤ p ∧ p < 124) (hk : σ 60 p = 3) (r : rmS σ) (hc : σ 58 35 + 2 ≤ 1300) : Rn (d + 14) yMo_typeOf [.ref 58, vi p] σ none (puM (mkM (mkM σ 0 (-1) 0) 4 (σ 58 35) 0) (σ 58 35 + 1)) := by
  have r0 := r
  obtain ⟨r1, r2, r3⟩ := r
  have c0 := H.2.1
  obtain ⟨-, H1, -⟩ := m_make (d := d) H (by omega) (k := 0) (a := -1) (b := 0) (Or.inl ⟨rfl, rfl, rfl⟩)
  have cc : mkM σ 0 (-1) 0 58 35 = σ 58 35 + 1 := mkM_c
  obtain ⟨R2, -, -⟩ := m_make (d := d + 9) H1 (by omega) (k := 4) (a := σ 58 35) (b := 0) (Or.inr (Or.inl ⟨rfl, by omega, rfl⟩))
  rw [cc] at R2
  have rr := (r0.mk (k := 0) (a := -1) (b := 0)).mk (k := 4) (a := σ 58 35) (b := 0)
  refine M_Mo_typeOf (d := d + 10) ⟨by omega, by omega⟩ ?_
  unfold B_Mo_typeOf
  refine ⟨hp, hp, ?_⟩
  rw [if_pos (by omega), if_neg (by omega)]
  refine ⟨_, _, m_fresh (d := d + 8) H (by omega), _, _, R2, _, r_push (d := d + 9) ⟨by omega, by omega⟩ rr.1 rr.2.1, t_213 (by omega) (by omega) ?_⟩
  rw [puM_30]
  have := rr.2.2
  exact ⟨by omega, by omega⟩
/-- R, I -/
theorem t_bi (H : MT σ) (hp : 0 ≤ p ∧ p < 124) (hk : σ 60 p = 4) (r : rmS σ) (hc : σ 58 35 + 1 ≤ 1300) : Rn (d + 14) yMo_typeOf [.ref 58, vi p] σ none (puM (mkM σ 5 (if σ 61 p = 82 then 0 else 2) (if σ 61 p = 82 then 2 else 0)) (σ 58 35)) := by
  have r0 := r
  obtain ⟨r1, r2, r3⟩ := r
  have c0 := H.2.1
  refine M_Mo_typeOf (d := d + 10) ⟨by omega, by omega⟩ ?_
  unfold B_Mo_typeOf
  refine ⟨hp, hp, ?_⟩
  rw [if_pos (by omega), if_pos (by omega), if_neg (by omega)]
  have fin : ∀ a b, (0 ≤ a ∧ a ≤ 2) → (0 ≤ b ∧ b ≤ 2) → B_Mo_typeOf_89 (d + 10) (σ 60 p) (σ 61 p) 5 a b σ none (puM (mkM σ 5 a b) (σ 58 35)) := fun a b ha hb => by
    have rr := r0.mk (k := 5) (a := a) (b := b)
    obtain ⟨R2, -, -⟩ := m_make (d := d + 9) H (by omega) (k := 5) (a := a) (b := b) (Or.inr (Or.inr ⟨rfl, by omega, by omega⟩))
    refine ⟨_, _, R2, _, r_push (d := d + 9) ⟨by omega, by omega⟩ rr.1 rr.2.1, t_213 (by omega) (by omega) ?_⟩
    rw [puM_30]
    have := rr.2.2
    exact ⟨by omega, by omega⟩
  by_cases q : σ 61 p = 82
  · rw [if_neg (fun z => z q), if_pos q, if_pos q]
    unfold B_Mo_typeOf_78
    rw [if_neg (fun z => z q)]
    exact fin 0 2 (by decide) (by decide)
  · rw [if_pos q, if_neg q, if_neg q]
    unfold B_Mo_typeOf_78
    rw [if_pos q]
    exact fin 2 0 (by decide) (by decide)
/-- a name with one type -/
theorem t_mono (hp : 0 ≤ p ∧ p < 124) (hk : σ 60 p = 5) (r : rmS σ) (ha : 0 ≤ σ 61 p ∧ σ 61 p < σ 58 30) (hm : σ 78 (σ 58 30 - 1 - σ 61 p) = 0) (hx : rg (σ 77 (σ 58 30 - 1 - σ 61 p))) : Rn (d + 14) yMo_typeOf [.ref 58, vi p] σ none (puM σ (σ 77 (σ 58 30 - 1 - σ 61 p))) := by
  obtain ⟨r1, r2, r3⟩ := r
  refine M_Mo_typeOf (d := d + 10) ⟨by omega, by omega⟩ ?_
  unfold B_Mo_typeOf
  refine ⟨hp, hp, ?_⟩
  rw [if_pos (by omega), if_pos (by omega), if_pos (by omega), if_neg (by omega)]
  refine ⟨⟨by omega, by omega⟩, ?_⟩
  rw [if_pos hm]
  exact ⟨⟨by omega, by omega⟩, _, r_push (d := d + 9) hx r1 r2, t_213 (by omega) (by omega) (by rw [puM_30]; exact ⟨by omega, by omega⟩)⟩
/-- a name with many: instance runs, its answer is pushed -/
theorem t_many {v : Int} (hp : 0 ≤ p ∧ p < 124) (hk : σ 60 p = 5) (r : rmS σ) (ha : 0 ≤ σ 61 p ∧ σ 61 p < σ 58 30) (hm : σ 78 (σ 58 30 - 1 - σ 61 p) ≠ 0) (I : Rn (d + 13) yMo_instance [.ref 58, vi (σ 77 (σ 58 30 - 1 - σ 61 p))] σ (some v) m) (hv : rg v) (F : FK σ m) : Rn (d + 14) yMo_typeOf [.ref 58, vi p] σ none (puM m v) := by
  obtain ⟨r1, r2, r3⟩ := r
  have f37 : m 58 37 = σ 58 37 := F.2 37 (by decide) (by decide) (by decide) (by decide) (by decide)
  have f43 : m 58 43 = σ 58 43 := F.2 43 (by decide) (by decide) (by decide) (by decide) (by decide)
  have f30 : m 58 30 = σ 58 30 := F.2 30 (by decide) (by decide) (by decide) (by decide) (by decide)
  refine M_Mo_typeOf (d := d + 10) ⟨by omega, by omega⟩ ?_
  unfold B_Mo_typeOf
  refine ⟨hp, hp, ?_⟩
  rw [if_pos (by omega), if_pos (by omega), if_pos (by omega), if_neg (by omega)]
  refine ⟨⟨by omega, by omega⟩, ?_⟩
  rw [if_neg hm]
  exact ⟨⟨by omega, by omega⟩, v, m, I, _, r_push (d := d + 9) hv (by rw [f37]; exact r1) (by rw [f43]; exact r2), t_213 (by omega) (by omega) (by rw [puM_30, f30]; exact ⟨by omega, by omega⟩)⟩
/-- the end of a scope -/
theorem t_end (hp : 0 ≤ p ∧ p < 124) (hk : σ 60 p = 12) (h : rg (σ 58 30 - σ 61 p)) : Rn (d + 14) yMo_typeOf [.ref 58, vi p] σ none (mup σ 58 30 (σ 58 30 - σ 61 p)) := by
  refine M_Mo_typeOf (d := d + 10) ⟨by omega, by omega⟩ ?_
  unfold B_Mo_typeOf
  refine ⟨hp, hp, ?_⟩
  rw [if_pos (by omega), if_pos (by omega), if_pos (by omega), if_pos (by omega), if_pos (by omega), if_pos (by omega), if_pos (by omega), if_pos hk]
  unfold B_Mo_typeOf_213
  rw [if_pos (by omega), if_neg (by omega)]
  exact ⟨h, rfl, rfl⟩
/-- the end of a function -/
theorem t_fun (H : MT σ) (hp : 0 ≤ p ∧ p < 124) (hk : σ 60 p = 7) (r : rmS σ) (ht : 1 ≤ σ 58 37) (ha : 1 ≤ σ 58 30) (hc : σ 58 35 + 1 ≤ 1300) (hx : 0 ≤ σ 77 (σ 58 30 - 1) ∧ σ 77 (σ 58 30 - 1) < σ 58 35) (hb : 0 ≤ σ 83 (σ 58 37 - 1) ∧ σ 83 (σ 58 37 - 1) < σ 58 35) (e : m = mup σ 58 37 (σ 58 37 - 1)) : Rn (d + 14) yMo_typeOf [.ref 58, vi p] σ none (mup (puM (mkM m 5 (σ 77 (σ 58 30 - 1)) (σ 83 (σ 58 37 - 1))) (σ 58 35)) 58 30 (σ 58 30 - 1)) := by
  obtain ⟨r1, r2, r3⟩ := r
  have m37 : m 58 37 = σ 58 37 - 1 := by rw [e, mup_eq]
  have m35 : m 58 35 = σ 58 35 := by rw [e, mup_nk (by decide)]
  have m43 : m 58 43 = σ 58 43 := by rw [e, mup_nk (by decide)]
  have m30 : m 58 30 = σ 58 30 := by rw [e, mup_nk (by decide)]
  obtain ⟨Hm, -⟩ : MT m ∧ mS m = mS σ := by rw [e]; exact H.cg (mup_obj (by decide)) (mup_obj (by decide)) (mup_obj (by decide)) (mup_obj (by decide)) (mup_nk (by decide))
  have c0 := H.2.1
  obtain ⟨R2, -, -⟩ := m_make (d := d + 9) Hm (by omega) (k := 5) (a := σ 77 (σ 58 30 - 1)) (b := σ 83 (σ 58 37 - 1)) (Or.inr (Or.inr ⟨rfl, by rw [m35]; exact hx, by rw [m35]; exact hb⟩))
  rw [m35] at R2
  refine M_Mo_typeOf (d := d + 10) ⟨by omega, by omega⟩ ?_
  unfold B_Mo_typeOf
  refine ⟨hp, hp, ?_⟩
  rw [if_pos (by omega), if_pos (by omega), if_pos (by omega), if_pos (by omega), if_neg (by omega)]
  refine ⟨⟨by omega, by omega⟩, _, m, by rw [e]; exact r_pop (d := d + 9) ⟨ht, by omega⟩, _, _, R2, _, r_push (d := d + 9) ⟨by omega, by omega⟩ (by rw [mkM_58 (by decide), m37]; omega) (by rw [mkM_58 (by decide), m43]; omega), ?_⟩
  unfold B_Mo_typeOf_213
  rw [hk, if_neg (by decide)]
  unfold B_Mo_typeOf_239
  rw [puM_30, mkM_58 (by decide), m30]
  exact ⟨⟨by omega, by omega⟩, rfl, rfl⟩
end MNS
