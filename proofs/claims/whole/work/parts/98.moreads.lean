/-! The model's reader: a line. -/
section MRD
variable {σ : Mem}
theorem s_moreads (H : MI σ) : ∃ v σ', Rn 16 yMo_reads [.ref 58] σ (some v) σ' ∧ frM σ σ' ∧ match pLine (mch σ) with
    | none => v = 0
    | some T => v = 1 ∧ σ' 58 7 = ln T ∧ σ' 58 14 = sn T ∧ isC σ' T 0 0 := by
  have h60 := H.2.1
  generalize eρ : mup (mup (mup (mup (mup (mup σ 58 3 0) 58 7 0) 58 14 0) 58 21 0) 58 22 0) 58 24 0 = ρ
  have fρ : frM σ ρ := by
    rw [← eρ]
    exact (((((frM.m8 (by unfold mfP; omega)).tr (frM.m8 (by unfold mfP; omega))).tr (frM.m8 (by unfold mfP; omega))).tr (frM.m8 (by unfold mfP; omega))).tr (frM.m8 (by unfold mfP; omega))).tr (frM.m8 (by unfold mfP; omega))
  have r24 : ρ 58 24 = 0 := by rw [← eρ]; exact mup_eq
  have r22 : ρ 58 22 = 0 := by rw [← eρ, mup_nk (by decide)]; exact mup_eq
  have r21 : ρ 58 21 = 0 := by rw [← eρ, mup_nk (by decide), mup_nk (by decide)]; exact mup_eq
  have r14 : ρ 58 14 = 0 := by rw [← eρ, mup_nk (by decide), mup_nk (by decide), mup_nk (by decide)]; exact mup_eq
  have r7 : ρ 58 7 = 0 := by rw [← eρ, mup_nk (by decide), mup_nk (by decide), mup_nk (by decide), mup_nk (by decide)]; exact mup_eq
  have r3 : ρ 58 3 = 0 := by rw [← eρ, mup_nk (by decide), mup_nk (by decide), mup_nk (by decide), mup_nk (by decide), mup_nk (by decide)]; exact mup_eq
  have Bg := s_begin (d := 11) (σ := ρ) (g := 0) (rgk rfl) (by omega)
  have b58 : ∀ k, k ≠ 21 → (bgn ρ 0) 58 k = ρ 58 k := fun k hk => by
    unfold bgn
    rw [mup_nk hk, mup_ne (by decide), mup_ne (by decide), mup_ne (by decide), mup_ne (by decide)]
  have b21 : (bgn ρ 0) 58 21 = 1 := by unfold bgn; rw [mup_eq, r21]; rfl
  have b70 : (bgn ρ 0) 70 0 = 0 := by unfold bgn; rw [r21, mup_ne (by decide), mup_ne (by decide), mup_ne (by decide), mup_ne (by decide), mup_eq]
  have b71 : (bgn ρ 0) 71 0 = 0 := by unfold bgn; rw [r21, mup_ne (by decide), mup_ne (by decide), mup_ne (by decide), mup_eq]
  have b72 : (bgn ρ 0) 72 0 = 0 := by unfold bgn; rw [r21, mup_ne (by decide), mup_ne (by decide), mup_eq]
  have b73 : (bgn ρ 0) 73 0 = 0 := by unfold bgn; rw [r21, mup_ne (by decide), mup_eq]
  have fb : frM σ (bgn ρ 0) := fρ.tr frM.bgn
  have gi : GI (bgn ρ 0) 0 := by
    have e0 : (1 : Int) - 1 = 0 := rfl
    have ug := gu_0
    refine ⟨fb.mi H, (b58 24 (by decide)).trans r24, ?_, ?_, ?_, ?_, ?_, ?_, ?_, ?_, ?_⟩
    · rw [b58 3 (by decide), r3, fb.len]; exact ⟨by decide, H.1⟩
    · rw [b58 7 (by decide), b58 3 (by decide), r7, r3]; decide
    · rw [b58 14 (by decide), b58 3 (by decide), r14, r3]; decide
    · rw [b58 22 (by decide), r22]; decide
    · rw [b21, b58 22 (by decide), b58 3 (by decide), r22, r3, ug]; decide
    · rw [b21, e0]; exact b70
    · rw [b21, e0]; exact b71
    · rw [b21, e0]; exact b72
    · rw [b21, e0]; exact b73
  have G := s_moE 16 0 rfl (bgn ρ 0) gi ((b58 22 (by decide)).trans r22)
  have G : DnM (pE (mch (bgn ρ 0)) 16 ((bgn ρ 0) 58 3)) (bgn ρ 0) := G
  rw [fb.ch, b58 3 (by decide), r3] at G
  have M : ∀ {o s'}, Mw (bgn ρ 0) o s' → Rn 16 yMo_reads [.ref 58] σ o s' := fun {o s'} h => M_Mo_reads (d := 12) (by
    unfold B_Mo_reads
    rw [eρ]
    exact ⟨_, Bg, h⟩)
  unfold pLine
  cases hP : pE (mch σ) 16 0 with
  | none =>
    rw [hP] at G
    obtain ⟨s', g1, g2⟩ := G
    exact ⟨0, s', M g1, fb.tr g2, rfl⟩
  | some t =>
    obtain ⟨T, q⟩ := t
    rw [hP] at G
    obtain ⟨τ, sm, d1, d2, d3, d4, d5, d6, d7, d8, d9, d10, d11, d12⟩ := G
    rw [b58 3 (by decide), r3, fb.len] at d4
    rw [b58 7 (by decide), r7] at d10 d12
    rw [b58 14 (by decide), r14] at d11 d12
    rw [b21] at d5
    have fτ := fb.tr d1
    have N := s_peek (d := 10) (b := 0) (σ := τ) (q := q) (fτ.mi H) ⟨by omega, by omega⟩
    have eτ : Zm τ q 0 = τ := by
      have h := Zm_id (σ := τ)
      rwa [d3, d2] at h
    rw [eτ, fτ.ch] at N
    have ge := sk_ge (ch := mch σ) (p := q)
    have z3 : (Zm τ (sk (mch σ) q) 0) 58 3 = sk (mch σ) q := Zm_at
    have z2 : (Zm τ (sk (mch σ) q) 0) 58 2 = σ 58 2 := (Zm_f (by decide) (by decide)).trans fτ.len
    have go : ∀ {v : Int}, (if hr (nx (mch σ) q) ≠ 10 then v = 0 else if sk (mch σ) q < σ 58 2 then v = 0 else v = 1) → Mw τ (some v) (Zm τ (sk (mch σ) q) 0) := by
      intro v hv
      refine K_Mo_reads_35 (d := 12) ?_
      unfold B_Mo_reads_35
      rw [if_pos (by omega)]
      unfold B_Mo_reads_146
      rw [if_neg (fun w => w d2)]
      refine ⟨_, _, N, ?_⟩
      rw [z3, z2]
      by_cases c1 : hr (nx (mch σ) q) ≠ 10
      · rw [if_pos c1] at hv ⊢
        exact ⟨by rw [hv], rfl⟩
      · rw [if_neg c1] at hv ⊢
        by_cases c2 : sk (mch σ) q < σ 58 2
        · rw [if_pos c2] at hv ⊢
          exact ⟨by rw [hv], rfl⟩
        · rw [if_neg c2] at hv ⊢
          exact ⟨by rw [hv], rfl⟩
    dsimp only
    by_cases c : nx (mch σ) q = -1
    · rw [if_pos c]
      have e1 : hr (nx (mch σ) q) = 10 := by rw [c]; rfl
      have e2 : ¬ sk (mch σ) q < σ 58 2 := fun w => by
        have := H.2.2 (sk (mch σ) q) (by omega) w
        have e : mch σ (sk (mch σ) q) = σ 59 (sk (mch σ) q) := if_pos ⟨by omega, w⟩
        have c' : mch σ (sk (mch σ) q) = -1 := c
        omega
      refine ⟨1, _, M (sm _ _ (go ?_)), fτ.tr frM.Z, rfl, ?_, ?_, ?_⟩
      · rw [if_neg (fun w => w e1), if_neg e2]
      · rw [Zm_f (by decide) (by decide), d10]; omega
      · rw [Zm_f (by decide) (by decide), d11]; omega
      · exact d12.Z
    · rw [if_neg c]
      have e1 : hr (nx (mch σ) q) ≠ 10 := by
        have := H.cr (sk (mch σ) q)
        have c' : mch σ (sk (mch σ) q) ≠ -1 := c
        show hr (mch σ (sk (mch σ) q)) ≠ 10
        unfold hr
        rw [if_neg c']; omega
      refine ⟨0, _, M (sm _ _ (go ?_)), fτ.tr frM.Z, rfl⟩
      rw [if_pos e1]
end MRD
