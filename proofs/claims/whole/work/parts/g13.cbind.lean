/-! The class's machine: what a pattern binds. -/
/-- some cells more (at most k), those below are as they were -/
def exB (k : Nat) (h h' : mHp) : Prop := (h.1 ≤ h'.1 ∧ h'.1 ≤ h.1 + k) ∧ h'.2.1 ≤ h.2.1 + 6 * k ∧ (∀ i, i < h.1 → hTag h' i = hTag h i ∧ ∀ x, hAt h' i x = hAt h i x) ∧ ∀ i, i < h.1 → hLen h' i = hLen h i
section CBIND
variable {h h' h2 : mHp} {σ : Mem} {d n : Nat} {P : Tr → Int → Prop}
theorem exB.rf : exB 0 h h := ⟨⟨Nat.le_refl _, Nat.le_refl _⟩, Nat.le_refl _, fun _ _ => ⟨rfl, fun _ => rfl⟩, fun _ _ => rfl⟩
theorem exB.tr {k m : Nat} (a : exB k h h') (b : exB m h' h2) : exB (k + m) h h2 := ⟨⟨Nat.le_trans a.1.1 b.1.1, by have := a.1.2; have := b.1.2; omega⟩, by have := a.2.1; have := b.2.1; omega, fun i hi => ⟨(b.2.2.1 i (Nat.lt_of_lt_of_le hi a.1.1)).1.trans (a.2.2.1 i hi).1, fun x => ((b.2.2.1 i (Nat.lt_of_lt_of_le hi a.1.1)).2 x).trans ((a.2.2.1 i hi).2 x)⟩, fun i hi => (b.2.2.2 i (Nat.lt_of_lt_of_le hi a.1.1)).trans (a.2.2.2 i hi)⟩
theorem exB.le {k m : Nat} (a : exB k h h') (hm : k ≤ m) : exB m h h' := ⟨⟨a.1.1, by have := a.1.2; omega⟩, by have := a.2.1; omega, a.2.2⟩
theorem exB.sm {k : Nat} (a : exB k h h') : smC h.1 h h' := fun i _ h1 => a.2.2.1 i h1
theorem neC.ex (e : neC h h') (s : h'.2.1 ≤ h.2.1 + 6) : exB 1 h h' := ⟨⟨by rw [e.1]; omega, by rw [e.1]; omega⟩, by omega, fun i hi => e.2.1 i (Nat.ne_of_lt hi), fun i hi => e.2.2 i (Nat.ne_of_lt hi)⟩
theorem exB.I {k z : Int} : exB 1 h (hvI h k z) := neC.I.ex (Nat.le_refl _)
theorem exB.R {b : UInt64} : exB 1 h (hvR h b) := neC.R.ex (Nat.le_refl _)
theorem exB.L {m : Int} {x w : Value} : exB 1 h (hvL h m x w) := neC.L.ex (Nat.le_refl _)
theorem exB.F {m : Int} {s : Value} : exB 1 h (hvF h m s) := neC.F.ex (Nat.le_refl _)
theorem exB.S {z : Int} {v o : Value} : exB 1 h (hSc h z v o) := neC.S.ex (show h.2.1 + 3 ≤ h.2.1 + 6 by omega)
theorem exB.Fr {a : Int} {s c : Value} : exB 1 h (hFr h a s c) := neC.Fr.ex (show h.2.1 + 3 ≤ h.2.1 + 6 by omega)
/-- what is bound: one name more -/
theorem RPv.sc {z : Int} {v : Va} {ρ : En} {j : Nat} {us : Value} (S : 100 ≤ h.1) (gz : rg z) (r : RPv h P h.1 v false (.ref j)) (e : RPv h P h.1 ρ true us) : RPv (hSc h z (.ref j) us) P (h.1 + 1) (eC z v ρ) true (.ref h.1) := by
  obtain ⟨t, a0, a1, a2⟩ := hSc_at (h := h) (z := z) (v := .ref j) (o := us)
  have s := (neC.S (h := h) (z := z) (v := .ref j) (o := us)).sm
  exact ⟨h.1, rfl, ⟨⟨S, Nat.lt_succ_self _⟩, t⟩, a0, gz, by rw [a1]; exact r.mv s (Nat.le_succ _), by rw [a2]; exact e.mv s (Nat.le_succ _)⟩
theorem ltZ_rg {z : Int} (h : ltZ z) : rg z := by
  unfold ltZ at h
  unfold rg
  omega
theorem fit10 {z : Int} {A B C : Tr} {v : Va} {ρ ρ' : En} (hf : fitE (.tag 10 (.nest z (.append A (.append B C)))) v ρ = some ρ') : ∃ x w ρ1, v = vC x w ∧ fitE A x ρ = some ρ1 ∧ fitE B w ρ1 = some ρ' := by
  unfold fitE at hf
  simp only at hf
  split at hf
  · next a b =>
    split at hf
    · next ρ1 q => exact ⟨a, b, ρ1, rfl, q, hf⟩
    · cases hf
  · cases hf
theorem r_pbind (g : pg8 σ) (hn : n ≤ 2000000) : ∀ (A : Tr) (p : Int) (v : Va) (u us : Value) (ρ ρ' : En) (k : Nat) (h : mHp), 100 ≤ h.1 → wfP A → nT σ A p → RPv h P h.1 v false u → RPv h P h.1 ρ true us → fitE A v ρ = some ρ' → k + pdp A ≤ 16 → ∃ h' us', Rh (d + 3 + pdp A) yMc_bind [.ref 54, vi p, u, us, vi k] h σ (.inl (some us')) h' σ ∧ exB (szT A) h h' ∧ RPv h' P h'.1 ρ' true us' := by
  intro A
  have same : ∀ {B : Tr} {k : Nat} {p : Int} {u us : Value} {ρ ρ' : En} {h : mHp} {v : Va}, (0 ≤ p ∧ p < σ 20 7) → σ 22 p ≠ 6 → σ 22 p ≠ 10 → k ≤ 16 → RPv h P h.1 v false u → RPv h P h.1 ρ true us → ρ = ρ' → ∃ h' us', Rh (d + 3 + pdp B) yMc_bind [.ref 54, vi p, u, us, vi k] h σ (.inl (some us')) h' σ ∧ exB (szT B) h h' ∧ RPv h' P h'.1 ρ' true us' := by
    intro B k p u us ρ ρ' h v hp h6 h10 hk r e q
    subst q
    obtain ⟨i, rfl, c⟩ := r.v
    refine ⟨h, us, (M_Mc_bind (d := d) (rg8 g hp) isQ.j e.qe (by unfold rg; omega) (Or.inr ⟨i, rfl, ?_⟩)).deep (by omega), exB.rf.le (Nat.zero_le _), e⟩
    rw [if_pos (by omega), if_neg (by rw [rw8 g hp]; exact h6), if_neg (by rw [rw8 g hp]; exact h10)]
    exact ⟨rfl, rfl, rfl⟩
  induction A using wfP.induct with
  | case1 z A B C =>
    intro p v u us ρ ρ' k h H hw ht r e hf hd
    obtain ⟨hp, e1, -⟩ := nT_nd.mp ht
    refine same hp (by omega) (by omega) (by omega) r e ?_
    have hf : (if isV 0 z v then some ρ else none) = some ρ' := hf
    split at hf
    · cases hf; rfl
    · cases hf
  | case2 z A B C =>
    intro p v u us ρ ρ' k h H hw ht r e hf hd
    obtain ⟨hp, e1, -⟩ := nT_nd.mp ht
    refine same hp (by omega) (by omega) (by omega) r e ?_
    have hf : (if isV 1 z v then some ρ else none) = some ρ' := hf
    split at hf
    · cases hf; rfl
    · cases hf
  | case3 z A B C =>
    intro p v u us ρ ρ' k h H hw ht r e hf hd
    obtain ⟨hp, e1, -⟩ := nT_nd.mp ht
    refine same hp (by omega) (by omega) (by omega) r e ?_
    have hf : (if isVE v then some ρ else none) = some ρ' := hf
    split at hf
    · cases hf; rfl
    · cases hf
  | case4 z A B C =>
    intro p v u us ρ ρ' k h H hw ht r e hf hd
    obtain ⟨hp, e1, e2, -⟩ := nT_nd.mp ht
    have hf : some (eC z v ρ) = some ρ' := hf
    cases hf
    obtain ⟨i, rfl, c⟩ := r.v
    have gz : rg z := ltZ_rg hw.1
    refine ⟨hSc h z (.ref i) us, .ref h.1, (M_Mc_bind (d := d) (rg8 g hp) isQ.j e.qe (by unfold rg; omega) (Or.inr ⟨i, rfl, ?_⟩)).deep (by omega), exB.S.le (Nat.le_add_left _ _), RPv.sc H gz r e⟩
    rw [if_pos (by omega), if_pos (by rw [rw8 g hp]; omega)]
    refine ⟨H, nw_tag, _, _, ?_, rfl, rfl, rfl⟩
    rw [rw8 g hp, e2]
    exact r_scope H gz isQ.j e.qe
  | case5 z A B C =>
    intro p v u us ρ ρ' k h H hw ht r e hf hd
    obtain ⟨hp, e1, -⟩ := nT_nd.mp ht
    refine same hp (by omega) (by omega) (by omega) r e ?_
    have hf : some ρ = some ρ' := hf
    cases hf; rfl
  | case6 z A B C iA iB =>
    intro p v u us ρ ρ' k h H hw ht r e hf hd
    obtain ⟨hp, e1, e2, tA, tB, -⟩ := nT_nd.mp ht
    obtain ⟨-, wA, wB, -⟩ := (show z = 0 ∧ wfP A ∧ wfP B ∧ C = nl from hw)
    have hd : k + (1 + max (pdp A) (pdp B)) ≤ 16 := hd
    have dep : pdp (.tag 10 (.nest z (.append A (.append B C)))) = 1 + max (pdp A) (pdp B) := rfl
    have dp : d + 3 + pdp (.tag 10 (.nest z (.append A (.append B C)))) = (d + max (pdp A) (pdp B) + 1) + 3 := by rw [dep]; omega
    obtain ⟨x, w, ρ1, rfl, f1, f2⟩ := fit10 hf
    obtain ⟨i, rfl, c, a, b, ll, rx, rw'⟩ := r
    have ek : ((k + 1 : Nat) : Int) = (k : Int) + 1 := by omega
    obtain ⟨h1, u1, R1, x1, q1⟩ := iA (σ 26 p) x _ us ρ ρ1 (k + 1) h H wA tA rx e f1 (by omega)
    have rw2 := rw'.mv x1.sm x1.1.1
    obtain ⟨h2, u2, R2, x2, q2⟩ := iB (σ 28 p) w _ u1 ρ1 ρ' (k + 1) h1 (Nat.le_trans H x1.1.1) wB tB rw2 q1 f2 (by omega)
    rw [ek] at R1 R2
    have R1 := R1.deep (e := d + max (pdp A) (pdp B) + 1 + 2) (by omega)
    have R2 := R2.deep (e := d + max (pdp A) (pdp B) + 1 + 2) (by omega)
    rw [dp]
    refine ⟨h2, u2, M_Mc_bind (rg8 g hp) isQ.j e.qe (by unfold rg; omega) (Or.inr ⟨i, rfl, ?_⟩), (x1.tr x2).le (by show szT A + szT B ≤ szT A + szT B + szT C + 1; omega), q2⟩
    rw [if_pos (by omega), if_neg (by rw [rw8 g hp]; omega), if_pos (by rw [rw8 g hp]; omega)]
    obtain ⟨t1, a1⟩ := x1.2.2.1 i c.1.2
    exact ⟨c.1.1, c.2, _, rfl, rx.qv, u1, h1, σ, by rw [rw8 g hp]; exact R1, q1.qe, c.1.1, t1.trans c.2, hAt h i 4, a1 4, rw'.qv, u2, h2, σ, by rw [rw8 g hp]; exact R2, q2.qe, rfl, rfl, rfl⟩
  | case7 k z a b c h1 h2 h3 h4 h5 h6 => intro p v u us ρ ρ' m h H hw; exfalso; revert hw; unfold wfP; split <;> simp_all
  | case8 t hx =>
    intro p v u us ρ ρ' m h H hw; exfalso; revert hw; unfold wfP; split
    · exact (hx _ _ _ _ _ rfl).elim
    · exact id
end CBIND
