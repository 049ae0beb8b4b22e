/-! The model's patternTypes, by patterns: leaves. -/
def PR (σ : Mem) (A : Tr) (p x s : Int) : Prop := (0 ≤ p ∧ p < 124) ∧ (1 ≤ x ∧ x + pn A ≤ 119) ∧ (0 ≤ s ∧ s + pn A ≤ 80) ∧ s + pn A ≤ σ 62 p ∧ (0 ≤ σ 58 43 ∧ σ 58 43 + pn A ≤ 260) ∧ σ 58 44 = 0 ∧ (0 ≤ σ 58 30 ∧ σ 58 30 + (bnd A).length ≤ 64) ∧ σ 58 35 + 2 * pn A ≤ 1300
/-- what the loop does with the signs of A: it ends, A has no such type; or it goes on behind them -/
def PTo (d : Nat) (σ σ' : Mem) (M : Int → Prop) (A : Tr) (p x s : Int) : Prop := (σ' 58 44 = 1 ∧ (σ' 58 43 ≤ σ 58 43 + pn A ∧ σ' 58 30 ≤ σ 58 30 + (bnd A).length) ∧ Lb (d + 11) yMo_patternTypes 25 [(0, .ref 58), (1, vi p), (3, vi x), (4, vi s)] [] σ none σ' ∧ ∀ α ρ, VS (mS σ).1 (mS σ).2.1 ρ → ¬ tpP true α A (ρ (σ 83 (x - 1)))) ∨ (σ' 58 44 = 0 ∧ MT σ' ∧ σ' 58 43 = σ 58 43 + pn A ∧ σ' 58 35 ≤ σ 58 35 + 2 * pn A ∧ (∀ o s', Lb (d + 11) yMo_patternTypes 25 [(0, .ref 58), (1, vi p), (3, vi (x - 1)), (4, vi (s + pn A))] [] σ' o s' → Lb (d + 11) yMo_patternTypes 25 [(0, .ref 58), (1, vi p), (3, vi x), (4, vi s)] [] σ o s') ∧ ∃ nu, NmA σ σ' A nu ∧ QRes (mS σ) (mS σ') M 0 A (PsA σ σ') nu (σ 83 (x - 1)))
def PTt (A : Tr) : Prop := ∀ (d : Nat) (p x s : Int) (σ : Mem) (M : Int → Prop), MT σ → isP σ A s → inC (mS σ) M → (∀ m, M m → lO (mS σ) 0 m) → M (σ 83 (x - 1)) → PR σ A p x s → ∃ σ', FP σ σ' x ∧ PTo d σ σ' M A p x s
section MP3
variable {σ σ' σ1 m : Mem} {d : Nat} {p x s l z : Int} {M : Int → Prop} {nu : Int → Int}
theorem PTt_any : PTt (nd 7 0 nl nl nl) := by
  intro d p x s σ M H c hM lM hl r
  obtain ⟨r1, r2, r3, r4, r5, r6, r7, r8⟩ := r
  have pn1 : pn (nd 7 0 nl nl nl) = 1 := rfl
  rw [pn1] at r2 r3 r4 r5 r8
  have c : σ 66 s = 1 ∧ σ 67 s = 0 := c
  have il := hM _ hl
  have hc := H.2.1
  have il : 0 ≤ σ 83 (x - 1) ∧ σ 83 (x - 1) < σ 58 35 := il
  refine ⟨ptM σ (σ 83 (x - 1)), ptM.fp, Or.inr ⟨(ptM_fx.2 44 (by decide)).trans r6, (ptM_mt H).1, by rw [ptM_43, pn1], by rw [ptM_fx.2 35 (by decide)]; omega, fun o s' k => pt_w (d := d) ⟨r1, by omega, by omega, by omega, by omega, r6⟩ ⟨by omega, by omega⟩ (Or.inl ⟨c.1, by omega, by rw [pn1] at k; exact k⟩), fun _ => 0, ⟨?_, fun i hi => absurd hi (Nat.not_lt_zero i)⟩, pq_any H hM hl⟩⟩
  rw [ptM_fx.2 30 (by decide)]
  show σ 58 30 = σ 58 30 + ((0 : Nat) : Int)
  omega
theorem PTt_nm (hz : 1 ≤ z ∧ z ≤ 1000) : PTt (nd 6 z nl nl nl) := by
  intro d p x s σ M H c hM lM hl r
  obtain ⟨r1, r2, r3, r4, r5, r6, r7, r8⟩ := r
  have pn1 : pn (nd 6 z nl nl nl) = 1 := rfl
  have bn : bnd (nd 6 z nl nl nl) = [z] := rfl
  rw [pn1] at r2 r3 r4 r5 r8
  rw [bn] at r7
  have r7 : 0 ≤ σ 58 30 ∧ σ 58 30 + ((1 : Nat) : Int) ≤ 64 := r7
  have c : σ 66 s = 1 ∧ σ 67 s = z := c
  have il := hM _ hl
  have hc := H.2.1
  have il : 0 ≤ σ 83 (x - 1) ∧ σ 83 (x - 1) < σ 58 35 := il
  obtain ⟨H1, e1⟩ := ptM_mt (l := σ 83 (x - 1)) H
  obtain ⟨H2, e2⟩ := bdM_mt (z := z) (l := σ 83 (x - 1)) H1
  have k30 : ptM σ (σ 83 (x - 1)) 58 30 = σ 58 30 := ptM_fx.2 30 (by decide)
  have b43 : bdM (ptM σ (σ 83 (x - 1))) z (σ 83 (x - 1)) 58 43 = σ 58 43 + 1 := (bdM_fx.2 43 (by decide)).trans ptM_43
  have b85 : bdM (ptM σ (σ 83 (x - 1))) z (σ 83 (x - 1)) 85 = (ptM σ (σ 83 (x - 1))) 85 := bdM_fx.1 85 (by decide) (by decide) (by decide) (by decide)
  refine ⟨bdM (ptM σ (σ 83 (x - 1))) z (σ 83 (x - 1)), ptM.fp.tr bdM.fp, Or.inr ⟨((bdM_fx.2 44 (by decide)).trans (ptM_fx.2 44 (by decide))).trans r6, H2, by rw [b43, pn1], by rw [bdM_fx.2 35 (by decide), ptM_fx.2 35 (by decide)]; omega, fun o s' k => pt_w (d := d) ⟨r1, by omega, by omega, by omega, by omega, r6⟩ ⟨by omega, by omega⟩ (Or.inr (Or.inl ⟨c.1, by omega, by rw [c.2]; exact ⟨by omega, by omega⟩, by omega, by rw [pn1] at k; rw [c.2]; exact k⟩)), fun _ => σ 83 (x - 1), ⟨?_, fun i hi => ?_⟩, ?_⟩⟩
  · rw [bdM_30, k30, bn]; rfl
  · rw [bn] at hi ⊢
    have i0 : i = 0 := by
      have : i < 1 := hi
      omega
    obtain ⟨a, b, e⟩ := bdM_r (σ := ptM σ (σ 83 (x - 1))) (z := z) (l := σ 83 (x - 1)) (i := σ 58 30 + i)
    rw [a, b, e, k30, if_pos (by omega), if_pos (by omega), if_pos (by omega), i0]
    exact ⟨rfl, rfl, rfl⟩
  · rw [e2, e1]
    have q := QR_nm (nu := fun _ => σ 83 (x - 1)) (h := 0) (z := z) H.1 hM hl rfl
    have e : (fun y => y = σ 83 (x - 1)) = PsA σ (bdM (ptM σ (σ 83 (x - 1))) z (σ 83 (x - 1))) := by
      funext y
      refine propext ⟨fun h => ⟨σ 58 43, Int.le_refl _, by omega, by rw [b85, ptM_85, if_pos rfl]; exact h⟩, fun ⟨i, h1, h2, h3⟩ => ?_⟩
      rw [b43] at h2
      rw [h3, b85, ptM_85, if_pos (by omega)]
    rw [← e]; exact q
end MP3
