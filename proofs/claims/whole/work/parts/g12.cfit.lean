/-! The class's machine: patterns. -/
abbrev nT (σ : Mem) (T : Tr) (a : Int) : Prop := isT (shf σ) 5 0 (shf σ 5 7) T a
/-- the program's rows are as long as they are -/
def pg8 (σ : Mem) : Prop := σ 20 7 ≤ 128
section CFIT
variable {h h' : mHp} {σ : Mem} {d n : Nat} {P : Tr → Int → Prop}
theorem nT_nd {k : Nat} {z a : Int} {A B C : Tr} : nT σ (nd k z A B C) a ↔ (0 ≤ a ∧ a < σ 20 7) ∧ σ 22 a = k ∧ σ 24 a = z ∧ nT σ A (σ 26 a) ∧ nT σ B (σ 28 a) ∧ nT σ C (σ 30 a) := Iff.rfl
theorem rw8 {i : Nat} {a : Int} (g : pg8 σ) (ha : 0 ≤ a ∧ a < σ 20 7) : rowv 128 σ i a = σ i a := by
  unfold rowv
  unfold pg8 at g
  exact if_pos ⟨ha.1, by omega⟩
theorem rg8 {a : Int} (g : pg8 σ) (ha : 0 ≤ a ∧ a < σ 20 7) : rg a := by
  unfold pg8 at g
  unfold rg
  omega
theorem fit_some {P : Tr} {v : Va} {ρ ρ2 : En} : (fitE P v ρ).isSome = (fitE P v ρ2).isSome := by
  fun_induction fitE P v ρ generalizing ρ2 with
  | case1 | case2 | case3 | case4 | case5 | case6 => unfold fitE; simp_all
  | case7 | case8 => unfold fitE; simp_all
  | case9 z A B C ρ a b ρ1 h1 i1 i2 =>
    have q := @i1 ρ2
    rw [h1] at q
    have u : fitE (.tag 10 (.nest z (.append A (.append B C)))) (.append a b) ρ2 = match fitE A a ρ2 with
      | some ρ1 => fitE B b ρ1
      | none => none := rfl
    rw [u]
    cases e : fitE A a ρ2 with
    | none => rw [e] at q; cases q
    | some ρ3 => exact i2
  | case10 z A B C ρ a b h1 i1 =>
    have q := @i1 ρ2
    rw [h1] at q
    have u : fitE (.tag 10 (.nest z (.append A (.append B C)))) (.append a b) ρ2 = match fitE A a ρ2 with
      | some ρ1 => fitE B b ρ1
      | none => none := rfl
    rw [u]
    cases e : fitE A a ρ2 with
    | none => rfl
    | some ρ3 => rw [e] at q; cases q
  | case11 | case12 | case13 => unfold fitE; simp_all
def fz (P : Tr) (v : Va) : Int := if (fitE P v eN).isSome = true then 1 else 0
theorem ll_rg {w : Va} {i : Nat} (hl : llen w + 100 ≤ i) (hi : i < n) (hn : n ≤ 2000000) : rg ((llen w + 1 : Nat) : Int) := by unfold rg; omega
theorem lsv {Q : Va → Prop} {v : Va} (l : VLs Q v) : v = vE ∨ ∃ x w, v = vC x w ∧ VLs Q w := by
  unfold VLs at l
  split at l
  · next x w => exact Or.inr ⟨x, w, rfl, l.2⟩
  · exact Or.inl l
theorem r_fits (g : pg8 σ) (hn : n ≤ 2000000) : ∀ (A : Tr) (p : Int) (v : Va) (u : Value) (k : Nat), wfP A → nT σ A p → RPv h P n v false u → KiP A v → k + pdp A ≤ 16 → Rh (d + 3 + pdp A) yMc_fits [.ref 54, vi p, u, vi k] h σ (.inl (some (vi (fz A v)))) h σ := by
  intro A
  induction A using wfP.induct with
  | case1 z A B C =>
    intro p v u k hw ht r hk hd
    obtain ⟨hp, e1, e2, -⟩ := nT_nd.mp ht
    obtain ⟨z', rfl, gz⟩ := (show isNv v from hk)
    obtain ⟨i, rfl, c, a, b, g'⟩ := r
    refine M_Mc_fits (rg8 g hp) isQ.j (by unfold rg; omega) (Or.inr ⟨i, rfl, ?_⟩)
    rw [if_pos (by omega), if_pos (by rw [rw8 g hp]; omega)]
    refine ⟨i, rfl, c.1.1, c.2, z', b, g', ?_⟩
    rw [rw8 g hp, e2]
    have e : fz (.tag 0 (.nest z (.append A (.append B C)))) (vN z') = if z' = z then 1 else 0 := by
      unfold fz
      show (if (if isV 0 z (vN z') then some eN else none).isSome = true then (1 : Int) else 0) = _
      have : isV 0 z (vN z') = decide (z' = z) := by show (0 == 0 && z' == z) = _; simp [BEq.beq]
      rw [this]
      by_cases q : z' = z
      · rw [if_pos q, if_pos (decide_eq_true q)]; rfl
      · rw [if_neg q, if_neg (by simpa using q)]
    rw [e]
    by_cases q : z' = z
    · rw [if_neg (by simpa using q), if_pos q]; exact ⟨rfl, rfl, rfl⟩
    · rw [if_pos q, if_neg q]; exact ⟨rfl, rfl, rfl⟩
  | case2 z A B C =>
    intro p v u k hw ht r hk hd
    obtain ⟨hp, e1, e2, -⟩ := nT_nd.mp ht
    obtain ⟨z', rfl⟩ : ∃ z', v = vB z' := by
      rcases (show isBv v from hk) with e | e
      · exact ⟨0, e⟩
      · exact ⟨1, e⟩
    obtain ⟨i, rfl, c, a, b, g'⟩ := r
    refine M_Mc_fits (rg8 g hp) isQ.j (by unfold rg; omega) (Or.inr ⟨i, rfl, ?_⟩)
    rw [if_pos (by omega), if_neg (by rw [rw8 g hp]; omega), if_pos (by rw [rw8 g hp]; omega)]
    refine ⟨i, rfl, c.1.1, c.2, z', b, g', ?_⟩
    rw [rw8 g hp, e2]
    have e : fz (.tag 2 (.nest z (.append A (.append B C)))) (vB z') = if z' = z then 1 else 0 := by
      unfold fz
      show (if (if isV 1 z (vB z') then some eN else none).isSome = true then (1 : Int) else 0) = _
      have : isV 1 z (vB z') = decide (z' = z) := by show (1 == 1 && z' == z) = _; simp [BEq.beq]
      rw [this]
      by_cases q : z' = z
      · rw [if_pos q, if_pos (decide_eq_true q)]; rfl
      · rw [if_neg q, if_neg (by simpa using q)]
    rw [e]
    by_cases q : z' = z
    · rw [if_neg (by simpa using q), if_pos q]; exact ⟨rfl, rfl, rfl⟩
    · rw [if_pos q, if_neg q]; exact ⟨rfl, rfl, rfl⟩
  | case3 z A B C =>
    intro p v u k hw ht r hk hd
    obtain ⟨hp, e1, e2, -⟩ := nT_nd.mp ht
    have hz : z = 0 := hw.1
    subst hz
    rcases lsv (show isLv v from hk) with rfl | ⟨x, w, rfl, -⟩
    · obtain ⟨i, rfl, c, a, b⟩ := r
      refine M_Mc_fits (rg8 g hp) isQ.j (by unfold rg; omega) (Or.inr ⟨i, rfl, ?_⟩)
      rw [if_pos (by omega), if_neg (by rw [rw8 g hp]; omega), if_neg (by rw [rw8 g hp]; omega), if_pos (by rw [rw8 g hp]; omega)]
      refine ⟨i, rfl, c.1.1, c.2, 0, b, rgk rfl, ?_⟩
      rw [rw8 g hp, e2, if_neg (by decide)]
      exact ⟨rfl, rfl, rfl⟩
    · obtain ⟨i, rfl, c, a, b, ll, -⟩ := r
      refine M_Mc_fits (rg8 g hp) isQ.j (by unfold rg; omega) (Or.inr ⟨i, rfl, ?_⟩)
      rw [if_pos (by omega), if_neg (by rw [rw8 g hp]; omega), if_neg (by rw [rw8 g hp]; omega), if_pos (by rw [rw8 g hp]; omega)]
      refine ⟨i, rfl, c.1.1, c.2, _, b, ll_rg ll c.1.2 hn, ?_⟩
      rw [rw8 g hp, e2, if_pos (by omega)]
      exact ⟨rfl, rfl, rfl⟩
  | case4 z A B C =>
    intro p v u k hw ht r hk hd
    obtain ⟨hp, e1, e2, -⟩ := nT_nd.mp ht
    obtain ⟨i, rfl, c⟩ := r.v
    refine M_Mc_fits (rg8 g hp) isQ.j (by unfold rg; omega) (Or.inr ⟨i, rfl, ?_⟩)
    rw [if_pos (by omega), if_neg (by rw [rw8 g hp]; omega), if_neg (by rw [rw8 g hp]; omega), if_neg (by rw [rw8 g hp]; omega), if_neg (by rw [rw8 g hp]; omega)]
    exact ⟨rfl, rfl, rfl⟩
  | case5 z A B C =>
    intro p v u k hw ht r hk hd
    obtain ⟨hp, e1, e2, -⟩ := nT_nd.mp ht
    obtain ⟨i, rfl, c⟩ := r.v
    refine M_Mc_fits (rg8 g hp) isQ.j (by unfold rg; omega) (Or.inr ⟨i, rfl, ?_⟩)
    rw [if_pos (by omega), if_neg (by rw [rw8 g hp]; omega), if_neg (by rw [rw8 g hp]; omega), if_neg (by rw [rw8 g hp]; omega), if_neg (by rw [rw8 g hp]; omega)]
    exact ⟨rfl, rfl, rfl⟩
  | case6 z A B C iA iB =>
    intro p v u k hw ht r hk hd
    obtain ⟨hp, e1, e2, tA, tB, -⟩ := nT_nd.mp ht
    obtain ⟨-, wA, wB, -⟩ := (show z = 0 ∧ wfP A ∧ wfP B ∧ C = nl from hw)
    have hd : k + (1 + max (pdp A) (pdp B)) ≤ 16 := hd
    have dep : pdp (.tag 10 (.nest z (.append A (.append B C)))) = 1 + max (pdp A) (pdp B) := rfl
    obtain ⟨kl, kp⟩ := (show isLv v ∧ ∀ x w, v = vC x w → KiP A x ∧ KiP B w from hk)
    have dp : d + 3 + pdp (.tag 10 (.nest z (.append A (.append B C)))) = (d + max (pdp A) (pdp B) + 1) + 3 := by rw [dep]; omega
    rw [dp]
    rcases lsv kl with rfl | ⟨x, w, rfl, -⟩
    · obtain ⟨i, rfl, c, a, b⟩ := r
      refine M_Mc_fits (rg8 g hp) isQ.j (by unfold rg; omega) (Or.inr ⟨i, rfl, ?_⟩)
      rw [if_pos (by omega), if_neg (by rw [rw8 g hp]; omega), if_neg (by rw [rw8 g hp]; omega), if_neg (by rw [rw8 g hp]; omega), if_pos (by rw [rw8 g hp]; omega)]
      refine ⟨c.1.1, c.2, 0, b, rgk rfl, ?_⟩
      rw [if_pos (Int.le_refl _)]
      exact ⟨rfl, rfl, rfl⟩
    · obtain ⟨i, rfl, c, a, b, ll, rx, rw'⟩ := r
      obtain ⟨kx, kw⟩ := kp x w rfl
      refine M_Mc_fits (rg8 g hp) isQ.j (by unfold rg; omega) (Or.inr ⟨i, rfl, ?_⟩)
      rw [if_pos (by omega), if_neg (by rw [rw8 g hp]; omega), if_neg (by rw [rw8 g hp]; omega), if_neg (by rw [rw8 g hp]; omega), if_pos (by rw [rw8 g hp]; omega)]
      refine ⟨c.1.1, c.2, _, b, ll_rg ll c.1.2 hn, ?_⟩
      rw [if_neg (by omega)]
      have RA := (iA (σ 26 p) x _ (k + 1) wA tA rx kx (by omega)).deep (e := d + max (pdp A) (pdp B) + 1 + 2) (by omega)
      have RB := (iB (σ 28 p) w _ (k + 1) wB tB rw' kw (by omega)).deep (e := d + max (pdp A) (pdp B) + 1 + 2) (by omega)
      have ek : ((k + 1 : Nat) : Int) = (k : Int) + 1 := by omega
      rw [ek] at RA RB
      refine ⟨_, rfl, rx.qv, fz A x, h, σ, by rw [rw8 g hp]; exact RA, ?_, ?_⟩
      · unfold fz; split <;> exact rgk rfl
      have ef : fz (.tag 10 (.nest z (.append A (.append B C)))) (vC x w) = if fz A x = 0 then 0 else fz B w := by
        have u1 : fitE (.tag 10 (.nest z (.append A (.append B C)))) (vC x w) eN = match fitE A x eN with
          | some ρ1 => fitE B w ρ1
          | none => none := rfl
        unfold fz
        rw [u1]
        cases q : fitE A x eN with
        | none => rfl
        | some ρ1 =>
          dsimp only
          rw [fit_some (ρ2 := eN)]
          rfl
      rw [ef]
      by_cases q : fz A x = 0
      · rw [if_pos q, if_pos q]; exact ⟨rfl, rfl, rfl⟩
      · rw [if_neg q, if_neg q]
        refine ⟨c.1.1, c.2, _, rfl, rw'.qv, fz B w, h, σ, by rw [rw8 g hp]; exact RB, ?_, ?_⟩
        · unfold fz; split <;> exact rgk rfl
        · by_cases q2 : fz B w = 0
          · rw [if_pos q2, q2]; exact ⟨rfl, rfl, rfl⟩
          · rw [if_neg q2, show fz B w = 1 from by
              unfold fz at q2 ⊢
              split at q2
              · next e => rw [if_pos e]
              · exact absurd rfl q2]
            exact ⟨rfl, rfl, rfl⟩
  | case7 k z a b c h1 h2 h3 h4 h5 h6 => intro p v u m hw; exfalso; revert hw; unfold wfP; split <;> simp_all
  | case8 t hx =>
    intro p v u m hw; exfalso; revert hw; unfold wfP; split
    · exact (hx _ _ _ _ _ rfl).elim
    · exact id
end CFIT
