/-! The model's patternTypes: patterns with a type without parts. -/
section MP4
variable {p x s l z q : Int} {M : Int → Prop} {T : Tr}
theorem PTt_bs (hq : q = 2 ∨ q = 3) (pn1 : pn T = 1) (bn : bnd T = []) (hT : ∀ w α s, tpP w α T s ↔ ((w = true → gw s ≤ 80) ∧ s = gK (q - 1))) (hi : ∀ σ s, isP σ T s → σ 66 s = q) : PTt T := by
  intro d p x s σ M H c hM lM hl r
  obtain ⟨r1, r2, r3, r4, r5, r6, r7, r8⟩ := r
  rw [pn1] at r2 r3 r4 r5 r8
  have c := hi σ s c
  have il := hM _ hl
  have hc := H.2.1
  have il : 0 ≤ σ 83 (x - 1) ∧ σ 83 (x - 1) < σ 58 35 := il
  obtain ⟨H1, e1⟩ := ptM_mt (l := σ 83 (x - 1)) H
  have k35 : ptM σ (σ 83 (x - 1)) 58 35 = σ 58 35 := ptM_fx.2 35 (by decide)
  have k44 : ptM σ (σ 83 (x - 1)) 58 44 = 0 := (ptM_fx.2 44 (by decide)).trans r6
  have kn : σ 79 (q - 2) = q - 1 := by
    have z := H.2.2.1
    rcases hq with h | h
    · rw [h]; exact z.1
    · rw [h]; exact z.2.1
  have b : bsN (mS σ) (q - 2) (q - 1) := ⟨⟨by omega, by show q - 2 < σ 58 35; omega⟩, kn, by omega, by omega⟩
  have lb : lO (mS σ) 0 (q - 2) := fun u o oc => (lf_no (by rw [b.2.1]; exact b.2.2) o oc).elim
  obtain ⟨m, U, F, out⟩ := s_munify (d := d) (a := σ 83 (x - 1)) (b := q - 2) H1 k44 (by rw [k35]; exact il) (by rw [k35]; omega) (by rw [e1]; exact lM _ hl) (by rw [e1]; exact lb)
  rw [e1] at out
  have fp : FP σ m x := ptM.fp.tr F.fk.fp
  have g43 : m 58 43 = σ 58 43 + 1 := (F.2 43 (by decide) (by decide) (by decide)).trans ptM_43
  have g85 : m 85 = (ptM σ (σ 83 (x - 1))) 85 := F.1 85 (by decide) (by decide) (by decide) (by decide)
  have g30 : m 58 30 = σ 58 30 := (F.2 30 (by decide) (by decide) (by decide)).trans (ptM_fx.2 30 (by decide))
  have R : pRm σ p x s := ⟨r1, by omega, by omega, by omega, by omega, r6⟩
  have hs : σ 66 s = 2 ∨ σ 66 s = 3 := by omega
  have U' : Rn (d + 11) yMo_unify [.ref 58, vi (σ 83 (x - 1)), vi (σ 66 s - 2)] (ptM σ (σ 83 (x - 1))) none m := by rw [c]; exact U
  refine ⟨m, fp, ?_⟩
  rcases out with ⟨o1, o2, o3, o4, o5⟩ | ⟨o1, o2⟩
  · refine Or.inr ⟨o1, o2, by rw [g43, pn1], by rw [o4, k35]; omega, fun o s' k => pt_w (d := d) R ⟨by omega, by omega⟩ (Or.inr (Or.inr (Or.inl ⟨hs, m, U', by rw [pn1] at k; exact k⟩))), fun _ => 0, ⟨by rw [g30, bn]; show σ 58 30 = σ 58 30 + ((0 : Nat) : Int); omega, fun i hi => by rw [bn] at hi; exact absurd hi (Nat.not_lt_zero i)⟩, ?_⟩
    have Q := QR_base (nu := fun _ => 0) (T := T) hM hl b bn hT (o3 0) o5 H.1
    have e : (fun y => y = σ 83 (x - 1)) = PsA σ m := by
      funext y
      refine propext ⟨fun h => ⟨σ 58 43, Int.le_refl _, by omega, by rw [g85, ptM_85, if_pos rfl]; exact h⟩, fun ⟨i, h1, h2, h3⟩ => ?_⟩
      rw [g43] at h2
      rw [h3, g85, ptM_85, if_pos (by omega)]
    rw [← e]; exact Q
  · exact Or.inl ⟨o1, ⟨by rw [g43, pn1]; exact Int.le_refl _, by rw [g30]; omega⟩, pt_w (d := d) R ⟨by omega, by omega⟩ (Or.inr (Or.inr (Or.inl ⟨hs, m, U', pt_ill r1 ⟨by omega, by omega⟩ ⟨by omega, by omega⟩ (by omega)⟩))), fun α ρ V => QR_base_no b hT o2 V⟩
end MP4
