/-! The model's types: names. -/
section MNM
variable {σ m : Mem} {z x n : Int} {E : List (Int × Int)} {F : List Int} {S S' : TS} {M : Int → Prop} {h : Int}
theorem mnF_lk : ∀ {E : List (Int × Int)} {F : List Int}, tmR σ E F → inE E z = true → lkF z E F = 0 → mnF E F (lkE z E)
  | [], _, _, h, _ => by cases h
  | (y, n) :: E, f :: F, ⟨_, r⟩, h, k => by
    have el : lkE z ((y, n) :: E) = if y = z then n else lkE z E := rfl
    have k : (if y = z then f else lkF z E F) = 0 := k
    rw [el]
    by_cases e : y = z
    · rw [if_pos e] at k ⊢
      exact Or.inl ⟨k, rfl⟩
    · rw [if_neg e] at k ⊢
      have h' : inE E z = true := by
        have h : (decide (y = z) || inE E z) = true := h
        rw [decide_eq_false e, Bool.false_or] at h; exact h
      exact Or.inr (mnF_lk r h' k)
  | _ :: _, [], t, _, _ => t.elim
/-- a node with one type is a result -/
theorem mono_re (r : 0 ≤ n ∧ n < S.2.1) (l : lO S 999 n) (g : gO S 1000 M n) : Res S M h S n := by
  have im : ∀ u, oP S u → Oc S.1 u n → InM S M u := fun u o oc => g u o oc (by have := l u o oc; omega)
  refine ⟨r, fun u o oc => Or.inr ⟨o, im u o oc⟩, fun k X _ _ hM u o oc lt => ?_, fun hM u o oc => ?_⟩
  · obtain ⟨m, a, b⟩ := im u o oc
    exact hM m a u o b lt
  · obtain ⟨m, a, b⟩ := im u o oc
    exact hM m a u o b
theorem PM_name : PMT (nd 5 z nl nl nl) := by
  intro p s σ E F C N cl hp hs t r rm
  obtain ⟨C1, C2⟩ : σ 60 p = 5 ∧ σ 62 p = z := C
  have N : σ 61 p = ix z (E.map Prod.fst) := N
  have cl : inE E z = true := by rw [clo_nd, if_pos rfl] at cl; exact cl
  have hl : ln (nd 5 z nl nl nl) = 1 := rfl
  have hr : rwl (nd 5 z nl nl nl) = 1 := rfl
  have rm : lkF z E F = 1 → σ 58 35 + 40 ≤ 1300 := rm
  rw [hl] at hp
  have c0 := t.1.2.1
  obtain ⟨i1, i2, i3, i4, i5⟩ := t.2.1.2.lk cl
  have l30 := t.2.1.1
  rw [← l30, ← N] at i2 i3
  rw [← N] at i1
  have hz : ∃ e ∈ E, e.1 = z := ⟨_, i5, rfl⟩
  have nr := (t.2.2.1.2.2 _ i5).1
  have ng := (t.2.2.1.2.2 _ i5).2
  have nr : 0 ≤ lkE z E ∧ lkE z E < σ 58 35 := nr
  have rms := r.rm (by omega) t.2.1
  by_cases f0 : lkF z E F = 0
  · -- one type
    have R := t_mono (d := 6) (p := p) (σ := σ) ⟨by omega, by omega⟩ C1 rms (by omega) (by rw [i3]; exact f0) (by rw [i2]; exact ⟨by omega, by omega⟩)
    rw [i2] at R
    obtain ⟨b, k30, k37, k41, k43, k83, eP⟩ := pu_f (x := lkE z E) (Blw.rf (σ := σ)) rfl rfl rfl
    obtain ⟨Hm, em⟩ := puM_mt (x := lkE z E) t.1
    have no : ∀ y, ¬ PsA σ σ y := fun y ⟨i, i0, i1, _⟩ => by omega
    have l0 : lO (mS σ) 999 (lkE z E) := lO_mono (t.2.2.1.2.1 _ (mnF_lk t.2.1.2 cl f0)) (by decide)
    refine td_fin (P := fun y => y = lkE z E) t r (by omega) ⟨hp.1, by rw [hl], by omega, by omega⟩ t.2.2.2.1 R (fun _ _ h => h) fT.rf puM.fT Hm ((puM_fx.2 44 (by decide) (by decide)).trans t.2.2.2.1) b k30 k37 k41 (by omega) k83 ?_ (fun y => ?_) rfl (fun sx => ?_)
    · rw [em]
      exact TR_name hz t.2.2.1 (TSt.rf t.1.1) (fun ρ V => ⟨ρ, V, fun _ _ _ _ => rfl, rfl⟩) (fun ρ s V d => ⟨ρ, V, fun _ _ _ => rfl, ((den_1 t.1.1 V nr.1 nr.2 l0 s).mp d).symm⟩) (fun M g => mono_re nr l0 g)
    · rw [← eP y]
      exact ⟨fun h => Or.inr h, fun h => h.elim (fun h => (no y h).elim) (fun h => h)⟩
    · rw [em] at sx ⊢
      exact ⟨sx, Or.inl ⟨f0, rfl, rfl⟩⟩
  · have f1 : lkF z E F = 1 := i4.resolve_left f0
    obtain ⟨v, m, I, fk, vr, out⟩ := m_instance (d := 12) (B := 40) t.1 t.2.2.2.1 nr (fun hw => bd_w t.1 nr hw (rm f1))
    have R := t_many (d := 6) (p := p) (σ := σ) (m := m) (v := v) ⟨by omega, by omega⟩ C1 rms (by omega) (by rw [i3]; exact f0) (by rw [i2]; exact I) (by
      have cm : m 58 35 ≤ 1300 := by
        rcases out with ⟨-, o, -⟩ | ⟨-, o, -⟩
        · omega
        · exact o.2.1.2
      exact ⟨by omega, by omega⟩) fk
    obtain ⟨q37, q30, q41, q43⟩ := fk.ks
    obtain ⟨b, k30, k37, k41, k43, k83, eP⟩ := pu_f (x := v) fk.bl q37 q30 q41
    have no : ∀ y, ¬ PsA σ m y := fun y ⟨i, i0, i1, _⟩ => by omega
    have r43 := r.2.1
    rcases out with ⟨o1, o2, o3⟩ | ⟨o1, o2, o3, o4, o5, o6, o7, o8⟩
    · refine Or.inr ⟨tf_bad ⟨hp.1, by omega, by omega⟩ t.2.2.2.1 R ((puM_fx.2 44 (by decide) (by decide)).trans o1) ⟨by omega, by omega⟩ (fk.fT.tr puM.fT), fun ρ s V sm y => ?_⟩
      have y : (_ → _ → gw s ≤ 80) ∧ lkG z (Gam (mS σ) ρ E) s := y
      have y2 := y.2
      rw [lkG_E hz] at y2
      obtain ⟨ρ', V', -, e⟩ := y2
      have := o3 ρ' V'
      rw [e] at this
      have := y.1 (by decide) rfl
      omega
    · obtain ⟨Hm, em⟩ := puM_mt (x := v) o2
      refine td_fin (P := fun y => y = v) t r (by omega) ⟨hp.1, by rw [hl], by omega, by omega⟩ t.2.2.2.1 R (fun _ _ h => h) fT.rf (fk.fT.tr puM.fT) Hm ((puM_fx.2 44 (by decide) (by decide)).trans o1) b k30 k37 k41 (by omega) k83 ?_ (fun y => ?_) rfl (fun sx => ?_)
      · rw [em]
        exact TR_name hz t.2.2.1 o4 o5 o6 o7
      · rw [← eP y]
        exact ⟨fun h => Or.inr h, fun h => h.elim (fun h => (no y h).elim) (fun h => h)⟩
      · rw [em] at sx ⊢
        exact ⟨sx, Or.inr ⟨f1, o8⟩⟩
end MNM
