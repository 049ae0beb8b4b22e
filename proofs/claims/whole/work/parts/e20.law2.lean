/-! The law's calls: type, load, shown, state. -/
theorem mp_chr {a b : Nat} {u : Int} {st : List Value} : mPure a b (vi u :: st) .i2c = some (vi (zChr u) :: st) := by simp only [mPure, mIx1, zChr, vi_toInt]
section LW2
variable {L : Nat} {xs : Nat → Int32} {d : Nat} {h : mHp} {σ : Mem} {i c : Int} {r : mRes × mHp}
theorem t_both (I : LnE σ) (X : TxE σ) (gc : rg c) : ∃ v σ1 σ2, Rn (d + 9) yF_type [.ref 1, vi c] σ (some v) σ1 ∧ Rn (d + 9) yMo_type [.ref 58, vi c] σ1 (some v) σ2 ∧ LnE σ2 ∧ TxE σ2 ∧ kpW σ σ2 := by
  obtain ⟨l0, l60, lc⟩ := I.1
  have m60 := I.2.1
  have e := I.2.2.1
  have up : ∀ {v : Int} {m1 : Mem}, (v = 0 ∨ v = 1) → B_Ln_append (d + 4) c σ (some v) m1 → Rn (d + 9) yF_type [.ref 1, vi c] σ (some v) m1 := fun {v m1} hv B => M_F_type (d := d + 5) gc ⟨v, m1, M_Ln_append (d := d + 4) gc B, hv, rfl, rfl⟩
  have no : (c < 32 ∨ 126 < c ∨ σ 2 1 = 60) → ∃ v σ1 σ2, Rn (d + 9) yF_type [.ref 1, vi c] σ (some v) σ1 ∧ Rn (d + 9) yMo_type [.ref 58, vi c] σ1 (some v) σ2 ∧ LnE σ2 ∧ TxE σ2 ∧ kpW σ σ2 := fun q => by
    refine ⟨0, σ, mup σ 58 0 0, up (Or.inl rfl) ?_, M_Mo_type (d := d + 5) gc ?_, ?_, ?_, kpW.m8 (Or.inl mlK_0)⟩
    · unfold B_Ln_append
      by_cases a : c < 32
      · rw [if_pos a]; exact ⟨rfl, rfl⟩
      · rw [if_neg a]
        by_cases b : c > 126
        · rw [if_pos b]; exact ⟨rfl, rfl⟩
        · rw [if_neg b, if_neg (by omega)]; exact ⟨rfl, rfl⟩
    · unfold B_Mo_type
      by_cases a : c < 32
      · rw [if_pos a]; exact ⟨rfl, rfl⟩
      · rw [if_neg a]
        by_cases b : c > 126
        · rw [if_pos b]; exact ⟨rfl, rfl⟩
        · rw [if_neg b, if_neg (by omega)]; exact ⟨rfl, rfl⟩
    · exact I.cg (by rw [mup_obj (by decide)]) (mup_obj (by decide)) (mup_nk (by decide)) (mup_obj (by decide)) (fun k => by rw [mup_obj (by decide)]; exact I.2.2.2.2 k)
    · exact X.cg (by rw [mup_obj (by decide)]) (mup_nk (by decide)) (mup_obj (by decide)) (mup_obj (by decide))
  by_cases a : c < 32
  · exact no (Or.inl a)
  by_cases b : 126 < c
  · exact no (Or.inr (Or.inl b))
  by_cases q : σ 2 1 = 60
  · exact no (Or.inr (Or.inr q))
  have er : rows 60 σ 4 (σ 2 1) c = mup σ 4 (σ 2 1) c := if_pos ⟨l0, by omega⟩
  have s1 : (mup (mup σ 4 (σ 2 1) c) 2 1 (σ 2 1 + 1)) 58 = σ 58 := by rw [mup_obj (by decide), mup_obj (by decide)]
  refine ⟨1, mup (mup σ 4 (σ 2 1) c) 2 1 (σ 2 1 + 1), mup (mup (mup (mup (mup σ 4 (σ 2 1) c) 2 1 (σ 2 1 + 1)) 58 0 0) 59 (σ 58 2) c) 58 2 (σ 58 2 + 1), up (Or.inr rfl) ?_, M_Mo_type (d := d + 5) gc ?_, ?_, ?_, ?_⟩
  · unfold B_Ln_append
    rw [if_neg a, if_neg b, if_pos (by omega), er]
    exact ⟨⟨by omega, by omega⟩, rfl, rfl⟩
  · unfold B_Mo_type
    rw [if_neg a, if_neg b, s1, if_pos (by omega)]
    exact ⟨by omega, by omega, ⟨by omega, by omega⟩, rfl, rfl⟩
  · have e2 : (mup (mup (mup (mup (mup σ 4 (σ 2 1) c) 2 1 (σ 2 1 + 1)) 58 0 0) 59 (σ 58 2) c) 58 2 (σ 58 2 + 1)) 2 1 = σ 2 1 + 1 := by
      rw [mup_obj (by decide), mup_obj (by decide), mup_obj (by decide), mup_eq]
    have e58 : (mup (mup (mup (mup (mup σ 4 (σ 2 1) c) 2 1 (σ 2 1 + 1)) 58 0 0) 59 (σ 58 2) c) 58 2 (σ 58 2 + 1)) 58 2 = σ 58 2 + 1 := mup_eq
    have e4 : (mup (mup (mup (mup (mup σ 4 (σ 2 1) c) 2 1 (σ 2 1 + 1)) 58 0 0) 59 (σ 58 2) c) 58 2 (σ 58 2 + 1)) 4 = (mup σ 4 (σ 2 1) c) 4 := by
      rw [mup_obj (by decide), mup_obj (by decide), mup_obj (by decide), mup_obj (by decide)]
    have e59 : (mup (mup (mup (mup (mup σ 4 (σ 2 1) c) 2 1 (σ 2 1 + 1)) 58 0 0) 59 (σ 58 2) c) 58 2 (σ 58 2 + 1)) 59 = (mup σ 59 (σ 58 2) c) 59 := by
      rw [mup_obj (by decide)]
      funext x
      by_cases w : x = σ 58 2
      · rw [w, mup_eq, mup_eq]
      · rw [mup_nk w, mup_nk w, mup_obj (by decide), mup_obj (by decide), mup_obj (by decide)]
    unfold LnE LI MI
    rw [e2, e58, e4, e59]
    refine ⟨⟨by omega, by omega, fun p h0 h1 => ?_⟩, ⟨by omega, by omega, fun p h0 h1 => ?_⟩, by omega, fun p h0 h1 => ?_, fun k => ?_⟩
    · by_cases w : p = σ 2 1
      · rw [w, mup_eq]; omega
      · rw [mup_nk w]; exact lc p h0 (by omega)
    · by_cases w : p = σ 58 2
      · rw [w, mup_eq]; omega
      · rw [mup_nk w]; exact m60.2.2 p h0 (by omega)
    · by_cases w : p = σ 2 1
      · rw [w, mup_eq, e, mup_eq]
      · rw [mup_nk w, mup_nk (by omega)]; exact I.2.2.2.1 p h0 (by omega)
    · rw [mup_obj (by decide), mup_obj (by decide), mup_obj (by decide), mup_obj (by decide), mup_obj (by decide)]; exact I.2.2.2.2 k
  · refine X.cg ?_ ?_ ?_ ?_
    · rw [mup_obj (by decide), mup_obj (by decide), mup_obj (by decide), mup_obj (by decide), mup_obj (by decide)]
    · rw [mup_nk (by decide), mup_ne (by decide), mup_nk (by decide), s1]
    · rw [mup_obj (by decide), mup_obj (by decide), mup_obj (by decide), mup_obj (by decide), mup_obj (by decide)]
    · rw [mup_obj (by decide), mup_obj (by decide), mup_obj (by decide), mup_obj (by decide), mup_obj (by decide)]
  · exact ((((kpW.mu (by decide) (by decide)).tr (kpW.mu (by decide) (by decide))).tr (kpW.m8 (Or.inl mlK_0))).tr (kpW.mu (by decide) (by decide))).tr (kpW.m8 (Or.inr (Or.inl rfl)))
/-- 0: type -/
theorem op_0 (s : scL L xs h) (h0 : 0 ≤ i ∧ i + 2 ≤ L) (I : LnE σ) (X : TxE σ) (M : RM σ) (S : Sh h) (Q : mHp → Prop) (K : ∀ σ', LnE σ' → TxE σ' → RM σ' → kpW σ σ' → ∃ h2, Q h2 ∧ Go (d + 9) true 229 (438, lwB i, [], put h σ') (.inl (some (vi 1)), h2)) : ∃ h2, Q h2 ∧ Go (d + 9) true 229 (100, lwB i, [], put h σ) (.inl (some (vi 1)), h2) := by
  obtain ⟨v, σ1, σ2, R1, R2, I2, X2, k2⟩ := t_both (d := d) (c := zChr (xs (i + 1).toNat).toInt) I X rg_zChr
  have M1 := (R1 M).1
  have M2 := (R2 M1).1
  have gv : rg v := (R1 M).2.1 v rfl
  obtain ⟨h2, hQ, G⟩ := K σ2 I2 X2 M2 k2
  refine ⟨h2, hQ, ?_⟩
  refine g_l rfl rfl rfl ?_
  refine l_arg s h0 rfl rfl rfl rfl rfl rfl rfl ?_
  refine g_p rfl rfl mp_chr ?_
  refine g_iv rfl rfl rfl (S.t 1 rfl) (by decide) rfl (R1.at M S) ?_
  refine g_l rfl rfl rfl ?_
  refine l_arg s h0 rfl rfl rfl rfl rfl rfl rfl ?_
  refine g_p rfl rfl mp_chr ?_
  refine g_iv rfl rfl rfl (S.t 58 rfl) (by decide) rfl (R2.at M1 S) ?_
  exact eq_go rfl (by decide) gv rfl G
/-- 3: shown -/
theorem op_3 (s : scL L xs h) (h0 : 0 ≤ i ∧ i + 2 ≤ L) (I : LnE σ) (X : TxE σ) (M : RM σ) (S : Sh h) (Q : mHp → Prop) (K : ∀ σ', LnE σ' → TxE σ' → RM σ' → kpW σ σ' → ∃ h2, Q h2 ∧ Go (d + 9) true 229 (438, lwB i, [], put h σ') (.inl (some (vi 1)), h2)) : ∃ h2, Q h2 ∧ Go (d + 9) true 229 (182, lwB i, [], put h σ) (.inl (some (vi 1)), h2) := by
  have gz : rg (xs (i + 1).toNat).toInt := rg_toInt
  generalize hz : (xs (i + 1).toNat).toInt = z at gz
  obtain ⟨x1, x2, x3⟩ := X
  obtain ⟨v, R1, R2⟩ : ∃ v, Rn (d + 9) yF_shown [.ref 1, vi z] σ (some v) σ ∧ Rn (d + 9) yMo_shown [.ref 58, vi z] σ (some v) (mup σ 58 0 0) := by
    by_cases a : z < 0
    · refine ⟨-1, M_F_shown (d := d + 5) gz ?_, M_Mo_shown (d := d + 5) gz ?_⟩
      · unfold B_F_shown; rw [if_pos a]; exact ⟨rfl, rfl⟩
      · unfold B_Mo_shown B_Mo_shown_17; rw [if_pos a]; exact ⟨rfl, rfl⟩
    by_cases b : z ≥ σ 1 8
    · refine ⟨-1, M_F_shown (d := d + 5) gz ?_, M_Mo_shown (d := d + 5) gz ?_⟩
      · unfold B_F_shown; rw [if_neg a, if_pos b]; exact ⟨rfl, rfl⟩
      · unfold B_Mo_shown B_Mo_shown_17; rw [if_neg a, if_neg (by omega)]; exact ⟨rfl, rfl⟩
    · refine ⟨σ 57 z, M_F_shown (d := d + 5) gz ?_, M_Mo_shown (d := d + 5) gz ?_⟩
      · unfold B_F_shown rowv; rw [if_neg a, if_neg b, if_pos ⟨by omega, by omega⟩]; exact ⟨rfl, rfl⟩
      · unfold B_Mo_shown B_Mo_shown_17; rw [if_neg a, if_pos (by omega)]
        exact ⟨⟨by omega, by omega⟩, by rw [x3 z (by omega) (by omega)], rfl⟩
  have gv : rg v := (R1 M).2.1 v rfl
  have M2 := (R2 M).1
  obtain ⟨h2, hQ, G⟩ : ∃ h2, Q h2 ∧ Go (d + 9) true 229 (438, lwB i, [], put h (mup σ 58 0 0)) (.inl (some (vi 1)), h2) := by
    refine K _ ?_ ?_ M2 (kpW.m8 (Or.inl mlK_0))
    · exact I.cg (by rw [mup_obj (by decide)]) (mup_obj (by decide)) (mup_nk (by decide)) (mup_obj (by decide)) (fun k => by rw [mup_obj (by decide)]; exact I.2.2.2.2 k)
    · exact TxE.cg ⟨x1, x2, x3⟩ (by rw [mup_obj (by decide)]) (mup_nk (by decide)) (mup_obj (by decide)) (mup_obj (by decide))
  refine ⟨h2, hQ, ?_⟩
  refine g_l rfl rfl rfl ?_
  refine l_arg s h0 rfl rfl rfl rfl rfl rfl rfl ?_
  rw [hz]
  refine g_iv rfl rfl rfl (S.t 1 rfl) (by decide) rfl (R1.at M S) ?_
  refine g_l rfl rfl rfl ?_
  refine l_arg s h0 rfl rfl rfl rfl rfl rfl rfl ?_
  rw [hz]
  refine g_iv rfl rfl rfl (S.t 58 rfl) (by decide) rfl (R2.at M S) ?_
  exact eq_go rfl (by decide) gv rfl G
/-- what state tells is the same -/
def StE (σ : Mem) : Prop := σ 54 7 = σ 58 65 ∧ σ 54 8 = σ 58 66 ∧ σ 54 9 = σ 58 67 ∧ σ 54 10 = σ 58 68
/-- 5: state -/
theorem op_5 (s : scL L xs h) (h0 : 0 ≤ i ∧ i + 2 ≤ L) (T : StE σ) (I : LnE σ) (X : TxE σ) (M : RM σ) (S : Sh h) (Q : mHp → Prop) (K : ∀ σ', LnE σ' → TxE σ' → RM σ' → kpW σ σ' → ∃ h2, Q h2 ∧ Go (d + 9) true 229 (438, lwB i, [], put h σ') (.inl (some (vi 1)), h2)) : ∃ h2, Q h2 ∧ Go (d + 9) true 229 (232, lwB i, [], put h σ) (.inl (some (vi 1)), h2) := by
  have gz : rg (xs (i + 1).toNat).toInt := rg_toInt
  generalize hz : (xs (i + 1).toNat).toInt = z at gz
  obtain ⟨t1, t2, t3, t4⟩ := T
  obtain ⟨v, R1, R2⟩ : ∃ v, Rn (d + 9) yF_state [.ref 1, vi z] σ (some v) σ ∧ Rn (d + 9) yMo_state [.ref 58, vi z] σ (some v) (mup σ 58 0 0) := by
    by_cases a0 : z = 0
    · refine ⟨σ 54 7, M_F_state (d := d + 5) gz ?_, M_Mo_state (d := d + 5) gz ?_⟩
      · unfold B_F_state; rw [if_pos a0]; exact ⟨_, _, M_Mc_phase (d := d + 4) ⟨rfl, rfl⟩, rfl, rfl⟩
      · unfold B_Mo_state; rw [if_neg (by omega), t1]; exact ⟨rfl, rfl⟩
    by_cases a1 : z = 1
    · refine ⟨σ 54 8, M_F_state (d := d + 5) gz ?_, M_Mo_state (d := d + 5) gz ?_⟩
      · unfold B_F_state; rw [if_neg a0, if_pos a1]; exact ⟨_, _, M_Mc_failure (d := d + 4) ⟨rfl, rfl⟩, rfl, rfl⟩
      · unfold B_Mo_state; rw [if_pos a0, if_neg (by omega), t2]; exact ⟨rfl, rfl⟩
    by_cases a2 : z = 2
    · refine ⟨σ 54 9, M_F_state (d := d + 5) gz ?_, M_Mo_state (d := d + 5) gz ?_⟩
      · unfold B_F_state; rw [if_neg a0, if_neg a1, if_pos a2]; exact ⟨_, _, M_Mc_steps (d := d + 4) ⟨rfl, rfl⟩, rfl, rfl⟩
      · unfold B_Mo_state; rw [if_pos a0, if_pos a1, if_neg (by omega), t3]; exact ⟨rfl, rfl⟩
    by_cases a3 : z = 3
    · refine ⟨σ 54 10, M_F_state (d := d + 5) gz ?_, M_Mo_state (d := d + 5) gz ?_⟩
      · unfold B_F_state; rw [if_neg a0, if_neg a1, if_neg a2, if_pos a3]; exact ⟨_, _, M_Mc_allSteps (d := d + 4) ⟨rfl, rfl⟩, rfl, rfl⟩
      · unfold B_Mo_state; rw [if_pos a0, if_pos a1, if_pos a2, if_neg (by omega), t4]; exact ⟨rfl, rfl⟩
    · refine ⟨-1, M_F_state (d := d + 5) gz ?_, M_Mo_state (d := d + 5) gz ?_⟩
      · unfold B_F_state; rw [if_neg a0, if_neg a1, if_neg a2, if_neg a3]; exact ⟨rfl, rfl⟩
      · unfold B_Mo_state; rw [if_pos a0, if_pos a1, if_pos a2, if_pos a3]; exact ⟨rfl, rfl⟩
  have gv : rg v := (R1 M).2.1 v rfl
  have M2 := (R2 M).1
  obtain ⟨h2, hQ, G⟩ : ∃ h2, Q h2 ∧ Go (d + 9) true 229 (438, lwB i, [], put h (mup σ 58 0 0)) (.inl (some (vi 1)), h2) := by
    refine K _ ?_ ?_ M2 (kpW.m8 (Or.inl mlK_0))
    · exact I.cg (by rw [mup_obj (by decide)]) (mup_obj (by decide)) (mup_nk (by decide)) (mup_obj (by decide)) (fun k => by rw [mup_obj (by decide)]; exact I.2.2.2.2 k)
    · exact X.cg (by rw [mup_obj (by decide)]) (mup_nk (by decide)) (mup_obj (by decide)) (mup_obj (by decide))
  refine ⟨h2, hQ, ?_⟩
  refine g_l rfl rfl rfl ?_
  refine l_arg s h0 rfl rfl rfl rfl rfl rfl rfl ?_
  rw [hz]
  refine g_iv rfl rfl rfl (S.t 1 rfl) (by decide) rfl (R1.at M S) ?_
  refine g_l rfl rfl rfl ?_
  refine l_arg s h0 rfl rfl rfl rfl rfl rfl rfl ?_
  rw [hz]
  refine g_iv rfl rfl rfl (S.t 58 rfl) (by decide) rfl (R2.at M S) ?_
  exact eq_go rfl (by decide) gv rfl G
end LW2
