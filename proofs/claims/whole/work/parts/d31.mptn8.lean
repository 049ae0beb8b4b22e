/-! The model's patternTypes, whole. -/
section MP8
variable {σ : Mem} {d : Nat} {p s l : Int} {M : Int → Prop} {A : Tr}
theorem m_pt (hA : wfP A) (hn : (bnd A).Nodup) (H : MT σ) (P : isP σ A s) (hM : inC (mS σ) M) (lM : ∀ m, M m → lO (mS σ) 0 m) (hl : M l) (hp : 0 ≤ p ∧ p < 124) (h61 : σ 61 p = s) (h62 : σ 62 p = s + pn A) (hs : 0 ≤ s ∧ s + pn A ≤ 80) (h37 : 0 ≤ σ 58 37 ∧ σ 58 37 + pn A ≤ 118) (h43 : 0 ≤ σ 58 43 ∧ σ 58 43 + pn A ≤ 260) (hi : σ 58 44 = 0) (h30 : 0 ≤ σ 58 30 ∧ σ 58 30 + (bnd A).length ≤ 64) (hc : σ 58 35 + 2 * pn A ≤ 1300) : ∃ σ', Rn (d + 12) yMo_patternTypes [.ref 58, vi p, vi l] σ none σ' ∧ FP σ σ' (σ 58 37 + 1) ∧ ((σ' 58 44 = 1 ∧ (σ' 58 43 ≤ σ 58 43 + pn A ∧ σ' 58 30 ≤ σ 58 30 + (bnd A).length) ∧ ∀ α ρ, VS (mS σ).1 (mS σ).2.1 ρ → ¬ tpP true α A (ρ l)) ∨ (σ' 58 44 = 0 ∧ MT σ' ∧ σ' 58 43 = σ 58 43 + pn A ∧ σ' 58 35 ≤ σ 58 35 + 2 * pn A ∧ ∃ nu, NmA σ σ' A nu ∧ QRes (mS σ) (mS σ') M 0 A (PsA σ σ') nu l)) := by
  have il : 0 ≤ l ∧ l < σ 58 35 := hM l hl
  have c0 := H.2.1
  have g := pn_ge (T := A)
  generalize h0 : mup σ 83 (σ 58 37) l = τ
  have ob : ∀ i, i ≠ 83 → τ i = σ i := fun i h => by rw [← h0, mup_obj h]
  have o58 : τ 58 = σ 58 := ob 58 (by decide)
  obtain ⟨Ht, et⟩ : MT τ ∧ mS τ = mS σ := H.cg (ob 79 (by decide)) (ob 80 (by decide)) (ob 81 (by decide)) (ob 82 (by decide)) (by rw [o58])
  have e83 : τ 83 (σ 58 37 + 1 - 1) = l := by rw [show σ 58 37 + 1 - 1 = σ 58 37 by omega, ← h0, mup_eq]
  have P' : isP τ A s := P.mv (fun x _ _ => by rw [ob 66 (by decide), ob 67 (by decide)]; exact ⟨rfl, rfl⟩)
  obtain ⟨σ', F, O⟩ := mptt_all A hA hn d p (σ 58 37 + 1) s τ M Ht P' (by rw [et]; exact hM) (by rw [et]; exact lM) (by rw [e83]; exact hl) ⟨hp, by omega, hs, by rw [ob 62 (by decide), h62]; exact Int.le_refl _, by rw [o58]; exact h43, by rw [o58]; exact hi, by rw [o58]; exact h30, by rw [o58]; exact hc⟩
  have F0 : FP σ τ (σ 58 37 + 1) := ⟨fun i _ _ _ _ _ _ _ _ h9 _ _ _ => ob i h9, fun k _ _ _ _ _ _ _ => by rw [o58], fun i h => by rw [← h0, mup_nk (by omega)], ⟨by rw [o58]; omega, fun i _ => by rw [ob 85 (by decide)]⟩, by rw [o58]; omega, fun i _ => by rw [ob 76 (by decide), ob 77 (by decide), ob 78 (by decide)]; exact ⟨rfl, rfl, rfl⟩⟩
  have start : ∀ s', Lb (d + 11) yMo_patternTypes 25 [(0, .ref 58), (1, vi p), (3, vi (σ 58 37 + 1)), (4, vi s)] [] τ none s' → Rn (d + 12) yMo_patternTypes [.ref 58, vi p, vi l] σ none s' := fun s' k => M_Mo_patternTypes (d := d + 8) ⟨by omega, by omega⟩ ⟨by omega, by omega⟩ ⟨⟨by omega, by omega⟩, hp, ⟨by omega, by omega⟩, by rw [h61, h0]; exact k⟩
  refine ⟨σ', ?_, F0.tr F, ?_⟩
  · rcases O with ⟨-, -, o2, -⟩ | ⟨o1, o2, -, -, o5, -⟩
    · exact start _ o2
    · refine start _ (o5 none σ' ?_)
      refine K_Mo_patternTypes_25 (d := d + 8) ⟨by omega, by omega⟩ ⟨by omega, by omega⟩ ⟨by omega, by omega⟩ ?_
      unfold B_Mo_patternTypes_25
      have e62 : σ' 62 p = s + pn A := by rw [(F0.tr F).1 62 (by decide) (by decide) (by decide) (by decide) (by decide) (by decide) (by decide) (by decide) (by decide) (by decide) (by decide) (by decide), h62]
      rw [e62, if_pos (by omega)]
      exact ⟨hp, rfl, rfl⟩
  · rcases O with ⟨o1, o0, -, o3⟩ | ⟨o1, o2, o3, o4, -, nu, o6, o7⟩
    · rw [o58] at o0
      refine Or.inl ⟨o1, o0, fun α ρ V => ?_⟩
      have := o3 α ρ (by rw [et]; exact V)
      rw [e83] at this; exact this
    · rw [e83, et] at o7
      have ep : PsA τ σ' = PsA σ σ' := by unfold PsA; rw [o58]
      rw [ep] at o7
      unfold NmA at o6
      rw [o58] at o6 o3 o4
      exact Or.inr ⟨o1, o2, o3, o4, nu, o6, o7⟩
end MP8
