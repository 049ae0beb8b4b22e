/-! The class's types: the type of a name at one place. -/
/-- only the store of types has changed, and its list -/
def FT2 (σ σ' : Mem) : Prop := (∀ i, i ≠ 38 → i ≠ 40 → i ≠ 42 → i ≠ 44 → i ≠ 46 → i ≠ 48 → σ' i = σ i) ∧ ∀ k, k ≠ 5 → k ≠ 6 → σ' 38 k = σ 38 k
section CIN
variable {σ σ1 σ' : Mem} {d : Nat} {h : Int}
theorem FT2.tr (a : FT2 σ σ1) (b : FT2 σ1 σ') : FT2 σ σ' := ⟨fun i p q r s t u => (b.1 i p q r s t u).trans (a.1 i p q r s t u), fun k p q => (b.2 k p q).trans (a.2 k p q)⟩
theorem FT.f2 (a : FT σ σ') : FT2 σ σ' := ⟨fun i p q r s _ _ => a.1 i p q r s, fun k p _ => a.2 k p⟩
theorem FT2.rf : FT2 σ σ := ⟨fun _ _ _ _ _ _ _ => rfl, fun _ _ _ => rfl⟩
theorem pickV {P : Int → Prop} {f g : Int → Int} {F G : Int → GT} (inj : ∀ i j, P i → P j → f i = f j → i = j) : ∃ α : Int → GT, (∀ i, P i → α (f i) = F (g i)) ∧ ∀ u, (∀ i, P i → u ≠ f i) → α u = G u := by
  refine ⟨fun u => @dite _ (∃ i, P i ∧ f i = u) (Classical.propDecidable _) (fun h => F (g (Classical.choose h))) (fun _ => G u), fun i hi => ?_, fun u hu => ?_⟩
  · have ex : ∃ j, P j ∧ f j = f i := ⟨i, hi, rfl⟩
    refine (dif_pos ex).trans ?_
    have sp := Classical.choose_spec ex
    rw [inj _ _ sp.1 hi sp.2]
  · exact dif_neg (fun ⟨i, a, b⟩ => hu i a b.symm)
theorem c_instance (T : TI σ) (hh : 0 ≤ h ∧ h ≤ 999) {n : Int} (h0 : 0 ≤ n) (h1 : n < σ 38 5) (hb : σ 38 5 ≤ 2959) : ∃ r σ', Rn (d + 53) yTy_instance [.ref 38, vi n, vi h] σ (some r) σ' ∧ FT2 σ σ' ∧ ((r = -1 ∧ σ' 38 5 = σ 38 5 ∧ ∀ ρ, VS (cS σ) (σ 38 5) ρ → 80 < gw (ρ n)) ∨ (TI σ' ∧ TSt (tS σ) (tS σ') (fun _ => False) h ∧ (0 ≤ r ∧ r < σ' 38 5) ∧ σ' 38 5 ≤ σ 38 5 + 40 ∧ (∀ ρ, VS (tS σ').1 (tS σ').2.1 ρ → Den (tS σ) n ρ (ρ r)) ∧ (∀ ρ s, VS (tS σ).1 (tS σ).2.1 ρ → Den (tS σ) n ρ s → ∃ ρ', VS (tS σ').1 (tS σ').2.1 ρ' ∧ (∀ m, 0 ≤ m → m < (tS σ).2.1 → ρ' m = ρ m) ∧ ρ' r = s) ∧ ∀ M, gO (tS σ) 1000 M n → Res (tS σ) M h (tS σ') r)) := by
  obtain ⟨T0, e0⟩ := T.cg (σ' := mup σ 38 6 0) (mup_obj (by decide)) (mup_obj (by decide)) (mup_obj (by decide)) (mup_nk (by decide))
  have z6 : (mup σ 38 6 0) 38 6 = 0 := mup_eq
  have z5 : (mup σ 38 6 0) 38 5 = σ 38 5 := mup_nk (by decide)
  have F0 : FT2 σ (mup σ 38 6 0) := ⟨fun i p _ _ _ _ _ => mup_obj p, fun k _ q => mup_nk q⟩
  have rn : rg n := ⟨by omega, by have := T.1.2.1.2; omega⟩
  have rh : rg h := ⟨by omega, by omega⟩
  obtain ⟨μ, M⟩ := min_ex T0.1
  have mk : ∀ {r : Int} {σ' : Mem}, _ → Rn (d + 53) yTy_instance [.ref 38, vi n, vi h] σ (some r) σ' := fun {r σ'} z => M_Ty_instance (d := d + 49) rn rh (s' := σ') (o := some r) z
  unfold B_Ty_instance at mk
  have e5 : (tS σ).2.1 = (mup σ 38 6 0) 38 5 := z5.symm
  have ec : cS σ = cS (mup σ 38 6 0) := (congrArg (fun S : TS => S.1) e0).symm
  rw [← e0, ec, ← z5]
  rw [← z5] at h1 hb
  generalize mup σ 38 6 0 = τ at *
  have R1 := s_tooLong (d := d + 5) T0.1 M h0 h1
  obtain ⟨L, st, S, -⟩ := T0.1.2.2.1
  by_cases w : gw (μ n) ≤ 80
  rotate_left
  · rw [if_neg w] at R1
    refine ⟨-1, τ, mk ⟨1, τ, R1, ?_⟩, F0, Or.inl ⟨rfl, rfl, fun ρ V => ?_⟩⟩
    · rw [if_neg (by decide)]; exact ⟨rfl, rfl⟩
    · have := wid_le T0.1.1 M.1 V S M.2 n h0 h1; omega
  rw [if_pos w] at R1
  have G0 : GL τ h τ := ⟨T0, Int.le_refl _, fun _ _ _ => ⟨rfl, rfl, rfl⟩, by omega, fun i a b => by omega, fun i j a b => by omega⟩
  obtain ⟨r, σ', C, G, X, ⟨b1, -⟩, rr, cp, cv⟩ := s_copy (d := d + 3) T0 M hh 41 n 0 τ G0 rfl (by decide) h0 h1 (by omega) (by omega) (by omega)
  rw [show 41 + (d + 3) + 8 = d + 49 + 3 by omega] at C
  have so0 := T0.so
  have so1 := G.1.so
  have ti1 := G.1
  obtain ⟨-, g1, g2, g3, g4, g5⟩ := G
  refine ⟨r, σ', mk ⟨0, τ, R1, ?_⟩, F0.tr ⟨X.1, X.2.1⟩, Or.inr ⟨ti1, ⟨so1, XE.add T0.1.1 X.2.2.1.1 (fun m a b => cS_e (X.2.2.2.1 m a b)) (fun m o => (X.2.2.2.1 m o.1.1 o.1.2).2.2), fun ρ V => X.v V⟩, rr, by omega, fun ρ1 V1 => ?_, fun ρ s V D => ?_, fun N gN => ⟨rr, fun u o oc => ?_, fun l Y hl hY hN u o oc lt => ?_, fun hN u o oc => ?_⟩⟩⟩
  · rw [if_pos rfl]
    exact ⟨r, σ', C, rfl, rfl⟩
  · obtain ⟨α, a1, a2⟩ := pickV (P := fun i => 0 ≤ i ∧ i < σ' 38 6) (f := fun i => σ' 46 i) (g := fun i => σ' 48 i) (F := ρ1) (G := ρ1) (fun i j a b q => g5 i j a b (Or.inl q))
    obtain ⟨ρ2, V2, e2⟩ := ev_o so0 (X.v V1) α
    have ag : ∀ u, Op τ u → Oc (cS τ) u n → τ 44 u ≠ 1000 → ρ2 u = ρ1 u := fun u o oc lv => by
      rw [e2 u ((oP_Op T0.1).mpr o)]
      exact a2 u (fun i a q => lv (by have := (g4 i a.1 a.2).1.2; rw [q]; exact this))
    refine ⟨ρ2, V2, fun u o oc lv => ag u ((oP_Op T0.1).mp o) oc lv, ?_⟩
    exact (cp ρ1 V1 ρ2 V2 (fun i a b => (e2 _ ((oP_Op T0.1).mpr (g4 i a b).1.1)).trans (a1 i ⟨a, b⟩)) ag).symm
  · obtain ⟨ρ2, V2, ag, es⟩ := D
    obtain ⟨ρ0, V0⟩ := ti1.1.2.2.2.2.2
    obtain ⟨α, a1, a2⟩ := pickV (P := fun i => 0 ≤ i ∧ i < σ' 38 6) (f := fun i => σ' 48 i) (g := fun i => σ' 46 i) (F := ρ2) (G := ρ) (fun i j a b q => g5 i j a b (Or.inr q))
    obtain ⟨ρ', V', e'⟩ := ev_o so1 V0 α
    have old : ∀ u, Op τ u → ρ' u = ρ u := fun u o => by
      have o' := (Op_e (X.2.2.2.1 u o.1.1 o.1.2) o.1.2 (by have := o.1.2; omega)).mpr o
      rw [e' u ((oP_Op ti1.1).mpr o')]
      exact a2 u (fun i a q => by have := (g4 i a.1 a.2).2.1; have := o.1.2; omega)
    refine ⟨ρ', V', fun m m0 m1 => val_o so0 (X.v V') V m0 m1 (fun v o _ => old v ((oP_Op T0.1).mp o)), ?_⟩
    rw [← es]
    refine cp ρ' V' ρ2 V2 (fun i a b => ?_) (fun u o oc lv => ?_)
    · rw [e' _ ((oP_Op ti1.1).mpr (g4 i a b).2.2.1)]
      exact (a1 i ⟨a, b⟩).symm
    · rw [old u o]
      exact ag u ((oP_Op T0.1).mpr o) oc lv
  · have o' := (oP_Op ti1.1).mp o
    rcases cv u o' oc with z | ⟨z1, z2, z3⟩
    · exact Or.inl z.1
    · have z1 := (oP_Op T0.1).mpr z1
      have := so0.2.2 u z1
      exact Or.inr ⟨z1, gN u z1 z2 (by have z3 : (tS τ).2.2 u ≠ 1000 := z3; omega)⟩
  · have o' := (oP_Op ti1.1).mp o
    have lt : σ' 44 u < l := lt
    rcases cv u o' oc with z | ⟨z1, z2, z3⟩
    · have := z.2; omega
    · have e := (X.2.2.2.1 u z1.1.1 z1.1.2).2.2
      have z1' := (oP_Op T0.1).mpr z1
      have := so0.2.2 u z1'
      obtain ⟨m, m1, m2⟩ := gN u z1' z2 (by have z3 : (tS τ).2.2 u ≠ 1000 := z3; omega)
      obtain ⟨y, y1, y2⟩ := hN m m1 u z1' m2 (by show τ 44 u < l; omega)
      exact ⟨y, y1, (X.oc T0 (hY y y1).1 (hY y y1).2).mpr y2⟩
  · have o' := (oP_Op ti1.1).mp o
    show σ' 44 u ≤ h
    rcases cv u o' oc with z | ⟨z1, z2, z3⟩
    · have := z.2; omega
    · have e := (X.2.2.2.1 u z1.1.1 z1.1.2).2.2
      have z1' := (oP_Op T0.1).mpr z1
      have := so0.2.2 u z1'
      obtain ⟨m, m1, m2⟩ := gN u z1' z2 (by have z3 : (tS τ).2.2 u ≠ 1000 := z3; omega)
      have : τ 44 u ≤ h := hN m m1 u z1' m2
      omega
end CIN
