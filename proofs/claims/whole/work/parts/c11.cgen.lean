/-! The class's types: generalise. -/
section CGE
variable {d : Nat}
theorem s_generalise {ρ : Int → GT} {lv : Int} (hlv : 0 ≤ lv ∧ lv < 1000) : ∀ (k : Nat) (n x : Int) (σ : Mem), CI σ → MinV (cS σ) (σ 38 5) ρ → LG σ → (k : Int) + x = 41 → 0 ≤ x → 0 ≤ n → n < σ 38 5 → gw (ρ n) + 2 * x ≤ 82 → ∃ σ', Rn (k + d + 5) yTy_generalise [.ref 38, vi n, vi lv, vi x] σ none σ' ∧ TL σ σ' ∧ LG σ' ∧ ∀ u, Op σ u → ((Oc (cS σ) u n ∧ lv < σ 44 u) → σ' 44 u = 1000) ∧ (¬ (Oc (cS σ) u n ∧ lv < σ 44 u) → σ' 44 u = σ 44 u) := by
  intro k
  induction k with
  | zero =>
    intro n x σ H M hl hk hx h0 h1 hw
    have g := gw_ge (t := ρ n)
    omega
  | succ k ih =>
    intro n x σ H M hl hk hx h0 h1 hw
    have hc := H.2.1
    obtain ⟨hr, r0, r1⟩ := rC_root H h0 h1
    have R := s_resolve (d := k + 1 + d) H h0 h1
    have ev := rC_val H M.1 h0 h1
    have V := M.1 _ r0 r1
    have orv : ∀ u, Op σ u → (Oc (cS σ) u (rC σ n) ↔ Oc (cS σ) u n) := fun u hu => oc_rv hu.2.2 3000 n
    generalize rC σ n = r at *
    have g := gw_ge (t := ρ n)
    have mm : ∀ {σ' : Mem}, (if σ 40 r = 62 then (∃ (m6 : Mem), Rn (k + 1 + d + 1 + 3) yTy_generalise [.ref 38, vi (σ 42 r), vi lv, vi (x + 1)] σ none m6 ∧ (∃ (m8 : Mem), Rn (k + 1 + d + 1 + 3) yTy_generalise [.ref 38, vi (rowv 3000 m6 44 r), vi lv, vi (x + 1)] m6 none m8 ∧ ((none : Option Int) = none ∧ σ' = m8))) else (if σ 40 r = 63 then (if σ 44 r ≤ lv then ((none : Option Int) = none ∧ σ' = σ) else ((none : Option Int) = none ∧ σ' = rows 3000 σ 44 r 1000)) else (if σ 40 r = 91 then (∃ (m14 : Mem), Rn (k + 1 + d + 1 + 3) yTy_generalise [.ref 38, vi (σ 42 r), vi lv, vi (x + 1)] σ none m14 ∧ ((none : Option Int) = none ∧ σ' = m14)) else ((none : Option Int) = none ∧ σ' = σ)))) → Rn (k + 1 + d + 5) yTy_generalise [.ref 38, vi n, vi lv, vi x] σ none σ' := by
      intro σ' h
      refine M_Ty_generalise (d := k + 1 + d + 1) ⟨by omega, by omega⟩ ⟨by omega, by omega⟩ ⟨by omega, by omega⟩ ⟨_, _, R, ?_⟩
      rw [if_pos (by omega), rw_in r0 (by omega), rw_in r0 (by omega), rw_in r0 (by omega)]
      exact h
    have leaf : σ 40 r ≠ 62 → σ 40 r ≠ 63 → σ 40 r ≠ 91 → kC (σ 40 r) ≠ 4 → kC (σ 40 r) ≠ 5 → ∃ σ', Rn (k + 1 + d + 5) yTy_generalise [.ref 38, vi n, vi lv, vi x] σ none σ' ∧ TL σ σ' ∧ LG σ' ∧ ∀ u, Op σ u → ((Oc (cS σ) u n ∧ lv < σ 44 u) → σ' 44 u = 1000) ∧ (¬ (Oc (cS σ) u n ∧ lv < σ 44 u) → σ' 44 u = σ 44 u) := by
      intro a1 a2 a3 a4 a5
      refine ⟨σ, mm ?_, TL.rf, hl, fun u hu => ⟨fun o => ?_, fun _ => rfl⟩⟩
      · rw [if_neg a1, if_neg a2, if_neg a3]; exact ⟨rfl, rfl⟩
      · have := (oc_leaf hr a4 a5).mp ((orv u hu).mpr o.1)
        exact absurd (by rw [this]; exact hu.2.1) a2
    rcases root_k H r0 r1 hr with ⟨e, -⟩ | e | e | e | ⟨e, f0, f1⟩ | ⟨e, ⟨f0, f1⟩, g0, g1⟩
    · have lf : ∀ u, Op σ u → (Oc (cS σ) u n ↔ r = u) := fun u hu => (orv u hu).symm.trans (oc_leaf hr (by show kC (σ 40 r) ≠ 4; rw [e]; decide) (by show kC (σ 40 r) ≠ 5; rw [e]; decide))
      by_cases q : σ 44 r ≤ lv
      · refine ⟨σ, mm ?_, TL.rf, hl, fun u hu => ⟨fun o => ?_, fun _ => rfl⟩⟩
        · rw [if_neg (by omega), if_pos e, if_pos q]; exact ⟨rfl, rfl⟩
        · have := (lf u hu).mp o.1
          have z := o.2
          rw [← this] at z; omega
      · have e44 : ∀ u, (rows 3000 σ 44 r 1000) 44 u = if u = r then 1000 else σ 44 u := fun u => by
          rw [rows_in r0 (by omega)]
          by_cases q : u = r
          · rw [if_pos q, q, mup_eq]
          · rw [if_neg q, mup_nk q]
        refine ⟨rows 3000 σ 44 r 1000, mm ?_, ⟨fun i hi => by rw [rows_in r0 (by omega)]; exact mup_obj hi, fun u hu => ?_⟩, fun u => ?_, fun u hu => ⟨fun o => ?_, fun o => ?_⟩⟩
        · rw [if_neg (by omega), if_pos e, if_neg q]; exact ⟨rfl, rfl⟩
        · rw [e44, if_neg (fun q => by rw [q] at hu; omega)]
        · rw [e44]
          split
          · exact ⟨by decide, by decide⟩
          · exact hl u
        · rw [e44, if_pos ((lf u hu).mp o.1).symm]
        · rw [e44]
          by_cases z : u = r
          · exact absurd ⟨(lf u hu).mpr z.symm, by rw [z]; omega⟩ o
          · rw [if_neg z]
    · exact leaf (by omega) (by omega) (by omega) (by rw [e]; decide) (by rw [e]; decide)
    · exact leaf (by omega) (by omega) (by omega) (by rw [e]; decide) (by rw [e]; decide)
    · exact leaf (by omega) (by omega) (by omega) (by rw [e]; decide) (by rw [e]; decide)
    · have k4 : (cS σ r).1 = 4 := by show kC (σ 40 r) = 4; rw [e]; decide
      have er : gw (ρ n) = 2 + gw (ρ (σ 42 r)) := by rw [← ev, V.2.2.1 k4]; rfl
      have oc4 : ∀ u, Op σ u → (Oc (cS σ) u n ↔ Oc (cS σ) u (σ 42 r)) := fun u hu => by
        refine (orv u hu).symm.trans ⟨fun o => ?_, fun o => o.p4 k4⟩
        rcases o.cs with q | ⟨q, _⟩ | ⟨_, o⟩ | ⟨q, _⟩
        · have := hu.2.1; rw [q] at e; omega
        · exact absurd q hr
        · exact o
        · omega
      obtain ⟨σ1, hb, t1, l1, p⟩ := ih (σ 42 r) (x + 1) σ H M hl (by omega) (by omega) f0 f1 (by omega)
      rw [show k + d + 5 = k + 1 + d + 1 + 3 by omega] at hb
      refine ⟨σ1, mm ?_, t1, l1, fun u hu => ?_⟩
      · rw [if_neg (by omega), if_neg (by omega), if_pos e]
        exact ⟨σ1, hb, rfl, rfl⟩
      · rw [oc4 u hu]; exact p u hu
    · have k5 : (cS σ r).1 = 5 := by show kC (σ 40 r) = 5; rw [e]; decide
      have e22 : (cS σ r).2.2 = σ 44 r := if_pos e
      have er : gw (ρ n) = 3 + gw (ρ (σ 42 r)) + gw (ρ (σ 44 r)) := by rw [← ev, V.2.2.2 k5, e22]; rfl
      have ga := gw_ge (t := ρ (σ 42 r))
      have gb := gw_ge (t := ρ (σ 44 r))
      have oc5 : ∀ u, Op σ u → (Oc (cS σ) u n ↔ (Oc (cS σ) u (σ 42 r) ∨ Oc (cS σ) u (σ 44 r))) := fun u hu => by
        refine (orv u hu).symm.trans ⟨fun o => ?_, fun o => Oc.p5 k5 (by rw [e22]; exact o)⟩
        rcases o.cs with q | ⟨q, _⟩ | ⟨q, _⟩ | ⟨_, o⟩
        · have := hu.2.1; rw [q] at e; omega
        · exact absurd q hr
        · omega
        · rw [e22] at o; exact o
      obtain ⟨σ1, hb, t1, l1, p⟩ := ih (σ 42 r) (x + 1) σ H M hl (by omega) (by omega) f0 f1 (by omega)
      have ec := t1.cS
      have e38 := t1.c
      have e40 : σ1 40 = σ 40 := t1.1 40 (by decide)
      have r44 : σ1 44 r = σ 44 r := t1.2 r e
      have op : ∀ u, Op σ u → Op σ1 u := fun u ⟨a, b, c⟩ => ⟨by rw [e38]; exact a, by rw [e40]; exact b, by rw [ec]; exact c⟩
      obtain ⟨σ2, hb2, t2, l2, p'⟩ := ih (σ 44 r) (x + 1) σ1 (t1.ci H) (by rw [ec, e38]; exact M) l1 (by omega) (by omega) g0 (by rw [e38]; exact g1) (by omega)
      rw [show k + d + 5 = k + 1 + d + 1 + 3 by omega] at hb hb2
      refine ⟨σ2, mm ?_, t1.tr t2, l2, fun u hu => ?_⟩
      · rw [if_pos e]
        refine ⟨σ1, hb, σ2, ?_, rfl, rfl⟩
        rw [rw_in r0 (by omega), r44]; exact hb2
      · obtain ⟨p1, p2⟩ := p u hu
        obtain ⟨q1, q2⟩ := p' u (op u hu)
        rw [ec] at q1 q2
        rw [oc5 u hu]
        by_cases a : Oc (cS σ) u (σ 42 r) ∧ lv < σ 44 u
        · have e1 := p1 a
          refine ⟨fun _ => ?_, fun z => absurd ⟨Or.inl a.1, a.2⟩ z⟩
          by_cases b : Oc (cS σ) u (σ 44 r) ∧ lv < σ1 44 u
          · exact q1 b
          · rw [q2 b, e1]
        · have e1 := p2 a
          rw [e1] at q1 q2
          refine ⟨fun z => q1 ⟨?_, z.2⟩, fun z => q2 (fun y => z ⟨Or.inr y.1, y.2⟩)⟩
          rcases z.1 with y | y
          · exact absurd ⟨y, z.2⟩ a
          · exact y
end CGE
