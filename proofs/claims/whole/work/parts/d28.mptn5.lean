/-! The model's patternTypes: a list is made for a part; []. -/
section MP5
variable {σ : Mem} {p x s l z q : Int} {M : Int → Prop} {T : Tr}
theorem plM_mt (H : MT σ) (hc : σ 58 35 + 2 ≤ 1300) : MT (plM σ l) ∧ mS (plM σ l) = adT (adT (mS σ) (0, -1, 0) 0) (4, σ 58 35, 0) 0 ∧ FP σ (plM σ l) x ∧ plM σ l 58 35 = σ 58 35 + 2 ∧ plM σ l 58 43 = σ 58 43 + 1 ∧ plM σ l 85 = ptM σ l 85 ∧ plM σ l 58 30 = σ 58 30 ∧ plM σ l 58 44 = σ 58 44 := by
  have c0 := H.2.1
  obtain ⟨H1, e1⟩ := ptM_mt (l := l) H
  have k35 : ptM σ l 58 35 = σ 58 35 := ptM_fx.2 35 (by decide)
  obtain ⟨-, H2, -⟩ := m_make (d := 0) H1 (by omega) (k := 0) (a := -1) (b := 0) (Or.inl ⟨rfl, rfl, rfl⟩)
  have k2 : mkM (ptM σ l) 0 (-1) 0 58 35 = σ 58 35 + 1 := by rw [mkM_c, k35]
  obtain ⟨-, H3, -⟩ := m_make (d := 0) H2 (by omega) (k := 4) (a := σ 58 35) (b := 0) (Or.inr (Or.inl ⟨rfl, by omega, rfl⟩))
  have f : FK (ptM σ l) (plM σ l) := mkM.fk.tr mkM.fk
  refine ⟨H3, ?_, ptM.fp.tr f.fp, ?_, ?_, ?_, ?_, ?_⟩
  · unfold plM
    rw [mkM_S, mkM_S, e1, if_neg (by decide), if_neg (by decide), if_neg (by decide)]
  · unfold plM
    rw [mkM_c, k2]; omega
  · rw [f.2 43 (by decide) (by decide) (by decide) (by decide) (by decide), ptM_43]
  · exact f.1 85 (by decide) (by decide) (by decide) (by decide) (by decide) (by decide) (by decide)
  · rw [f.2 30 (by decide) (by decide) (by decide) (by decide) (by decide), ptM_fx.2 30 (by decide)]
  · unfold plM
    rw [mkM_58 (by decide), mkM_58 (by decide), ptM_fx.2 44 (by decide)]
/-- no general variable stands in a node that was there before nodes were added, or in the list -/
theorem plM_lo (H : MT σ) (hc : σ 58 35 + 2 ≤ 1300) {n : Int} (h0 : 0 ≤ n) (h1 : n < σ 58 35) (lo : lO (mS σ) 0 n) : lO (mS (plM σ l)) 0 n ∧ lO (mS (plM σ l)) 0 (σ 58 35 + 1) := by
  have c0 := H.2.1
  obtain ⟨-, e, -⟩ := plM_mt (l := l) (x := 0) H hc
  have s1 : TSt (mS σ) (adT (mS σ) (0, -1, 0) 0) (fun _ => False) 0 := ad_S H.1 (by show 0 ≤ σ 58 35; omega) nw_fr (fun _ => by decide)
  have c1 : (adT (mS σ) (0, -1, 0) 0).2.1 = σ 58 35 + 1 := rfl
  have n2 : nwT (adT (mS σ) (0, -1, 0) 0) (4, σ 58 35, 0) := Or.inr (Or.inl ⟨rfl, by show 0 ≤ σ 58 35; omega, by show σ 58 35 < σ 58 35 + 1; omega⟩)
  have s2 : TSt (adT (mS σ) (0, -1, 0) 0) (adT (adT (mS σ) (0, -1, 0) 0) (4, σ 58 35, 0) 0) (fun _ => False) 0 := ad_S s1.1 (by show 0 ≤ σ 58 35 + 1; omega) n2 (fun q => absurd q (by show ¬ (4 : Int) = 0; decide))
  have rr1 : Res (mS σ) (fun _ => False) 0 (adT (mS σ) (0, -1, 0) 0) (σ 58 35) := fresh_r XE.rf (by show 0 ≤ σ 58 35; omega)
  have rr2 := rr1.up s2.2.1 s1.2.1.1 (fun m q => q.elim)
  have k2 : (adT (adT (mS σ) (0, -1, 0) 0) (4, σ 58 35, 0) 0).1 (σ 58 35 + 1) = (4, σ 58 35, 0) := ad_c
  have rl2 : Res (mS σ) (fun _ => False) 0 (adT (adT (mS σ) (0, -1, 0) 0) (4, σ 58 35, 0) 0) (σ 58 35 + 1) := Res.p4 ⟨by omega, by show σ 58 35 + 1 < σ 58 35 + 1 + 1; omega⟩ k2 rr2
  rw [e]
  exact ⟨s2.2.1.2.2.2.2.1 0 n h0 (by rw [c1]; omega) (s1.2.1.2.2.2.2.1 0 n h0 h1 lo), rl2.2.2.2 (fun m q => q.elim)⟩
theorem PTt_emp : PTt (nd 3 0 nl nl nl) := by
  intro d p x s σ M H c hM lM hl r
  obtain ⟨r1, r2, r3, r4, r5, r6, r7, r8⟩ := r
  have pn1 : pn (nd 3 0 nl nl nl) = 1 := rfl
  have bn : bnd (nd 3 0 nl nl nl) = [] := rfl
  rw [pn1] at r2 r3 r4 r5 r8
  have c : σ 66 s = 4 ∧ σ 67 s = 0 := c
  have il := hM _ hl
  have hc := H.2.1
  have il : 0 ≤ σ 83 (x - 1) ∧ σ 83 (x - 1) < σ 58 35 := il
  obtain ⟨H1, e1, fp1, k35, k43, k85, k30, k44⟩ := plM_mt (l := σ 83 (x - 1)) (x := x) H (by omega)
  obtain ⟨lo1, lo2⟩ := plM_lo (l := σ 83 (x - 1)) H (by omega) il.1 il.2 (lM _ hl)
  obtain ⟨m, U, F, out⟩ := s_munify (d := d) (a := σ 83 (x - 1)) (b := σ 58 35 + 1) H1 (k44.trans r6) (by rw [k35]; omega) (by rw [k35]; omega) lo1 lo2
  have fp : FP σ m x := fp1.tr F.fk.fp
  have g43 : m 58 43 = σ 58 43 + 1 := (F.2 43 (by decide) (by decide) (by decide)).trans k43
  have g85 : m 85 = (ptM σ (σ 83 (x - 1))) 85 := (F.1 85 (by decide) (by decide) (by decide) (by decide)).trans k85
  have g30 : m 58 30 = σ 58 30 := (F.2 30 (by decide) (by decide) (by decide)).trans k30
  have R : pRm σ p x s := ⟨r1, by omega, by omega, by omega, by omega, r6⟩
  refine ⟨m, fp, ?_⟩
  rcases out with ⟨o1, o2, o3, o4, o5⟩ | ⟨o1, o2⟩
  · refine Or.inr ⟨o1, o2, by rw [g43, pn1], by rw [o4, k35, pn1]; omega, fun o s' k => pt_w (d := d) R ⟨by omega, by omega⟩ (Or.inr (Or.inr (Or.inr (Or.inl ⟨c.1, H, by omega, m, U, by rw [pn1] at k; exact k⟩)))), fun _ => 0, ⟨by rw [g30, bn]; show σ 58 30 = σ 58 30 + ((0 : Nat) : Int); omega, fun i hi => by rw [bn] at hi; exact absurd hi (Nat.not_lt_zero i)⟩, ?_⟩
    have Q := QR_emp (nu := fun _ => 0) (M := M) (h := 0) (l := σ 83 (x - 1)) H.1 (by show 0 ≤ σ 58 35; omega) (by decide) hM hl rfl e1 (o3 0) o5
    have e : (fun y => y = σ 83 (x - 1)) = PsA σ m := by
      funext y
      refine propext ⟨fun h => ⟨σ 58 43, Int.le_refl _, by omega, by rw [g85, ptM_85, if_pos rfl]; exact h⟩, fun ⟨i, h1, h2, h3⟩ => ?_⟩
      rw [g43] at h2
      rw [h3, g85, ptM_85, if_pos (by omega)]
    rw [← e]; exact Q
  · refine Or.inl ⟨o1, ⟨by rw [g43, pn1]; exact Int.le_refl _, by rw [g30]; omega⟩, pt_w (d := d) R ⟨by omega, by omega⟩ (Or.inr (Or.inr (Or.inr (Or.inl ⟨c.1, H, by omega, m, U, pt_ill r1 ⟨by omega, by omega⟩ ⟨by omega, by omega⟩ (by omega)⟩)))), fun α ρ V => ?_⟩
    exact QR_emp_no (M := M) (h := 0) (l := σ 83 (x - 1)) H.1 (by show 0 ≤ σ 58 35; omega) (by decide) hM hl rfl e1 o2 V
end MP5
