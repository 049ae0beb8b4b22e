/-! The class's store of types: does a variable stand in a type? A variable is linked. -/
/-- only levels of variables have changed -/
def TL (σ σ' : Mem) : Prop := (∀ i, i ≠ 44 → σ' i = σ i) ∧ ∀ n, σ 40 n = 62 → σ' 44 n = σ 44 n
section CTK
variable {σ σ1 σ' : Mem} {d : Nat}
theorem TL.rf : TL σ σ := ⟨fun _ _ => rfl, fun _ _ => rfl⟩
theorem TL.tr (a : TL σ σ1) (b : TL σ1 σ') : TL σ σ' := ⟨fun i h => (b.1 i h).trans (a.1 i h), fun n h => (b.2 n (by rw [a.1 40 (by decide)]; exact h)).trans (a.2 n h)⟩
theorem TL.cS (h : TL σ σ') : cS σ' = cS σ := by
  funext n
  unfold Jvm.Pilot.CFunDeskLaw_law_r1384_8f7fae.cS
  rw [h.1 40 (by decide), h.1 42 (by decide)]
  by_cases e : σ 40 n = 62
  · rw [if_pos e, if_pos e, h.2 n e]
  · rw [if_neg e, if_neg e]
theorem TL.c (h : TL σ σ') : σ' 38 = σ 38 := h.1 38 (by decide)
theorem TL.ci (h : TL σ σ') (H : CI σ) : CI σ' := by
  unfold CI at H ⊢
  rw [h.cS, h.c, h.1 40 (by decide), h.1 42 (by decide)]; exact H
theorem oc_rv {s : Sto} {v : Int} (hv : ¬ lkd s v) : ∀ (k : Nat) (n : Int), Oc s v (rv s k n) ↔ Oc s v n
  | 0, n => Iff.rfl
  | k + 1, n => by
    unfold rv
    by_cases q : lkd s n
    · rw [if_pos q, oc_rv hv k]
      refine ⟨fun o => o.lnk q, fun o => ?_⟩
      rcases o.cs with e | ⟨_, o⟩ | ⟨h, _⟩ | ⟨h, _⟩
      · exact absurd (by rw [← e]; exact q) hv
      · exact o
      · have := q.1; omega
      · have := q.1; omega
    · rw [if_neg q]
theorem oc_leaf {s : Sto} {u n : Int} (h : ¬ lkd s n) (h4 : (s n).1 ≠ 4) (h5 : (s n).1 ≠ 5) : Oc s u n ↔ n = u := by
  refine ⟨fun o => ?_, fun e => by rw [e]; exact Oc.self⟩
  rcases o.cs with e | ⟨q, _⟩ | ⟨q, _⟩ | ⟨q, _⟩
  · exact e
  · exact absurd q h
  · exact absurd q h4
  · exact absurd q h5
theorem s_takesIn {ρ : Int → GT} {v : Int} : ∀ (k : Nat) (n x : Int) (σ : Mem), CI σ → MinV (cS σ) (σ 38 5) ρ → (σ 40 v = 63 ∧ ¬ lkd (cS σ) v) → (0 ≤ v ∧ v < σ 38 5) → (∀ u, rg (σ 44 u)) → (k : Int) + x = 41 → 0 ≤ x → 0 ≤ n → n < σ 38 5 → gw (ρ n) + 2 * x ≤ 82 → ∃ b σ', Rn (k + d + 5) yTy_takesIn [.ref 38, vi v, vi n, vi x] σ (some b) σ' ∧ TL σ σ' ∧ (∀ u, rg (σ' 44 u)) ∧ ((b = 0 ∧ Oc (cS σ) v n) ∨ (b = 1 ∧ ¬ Oc (cS σ) v n ∧ (∀ u, σ 40 u = 63 → ¬ lkd (cS σ) u → 0 ≤ u → u < σ 38 5 → (Oc (cS σ) u n → σ' 44 u = min (σ 44 u) (σ 44 v)) ∧ (¬ Oc (cS σ) u n → σ' 44 u = σ 44 u)))) := by
  intro k
  induction k with
  | zero =>
    intro n x σ H M hv hvr hl hk hx h0 h1 hw
    have g := gw_ge (t := ρ n)
    omega
  | succ k ih =>
    intro n x σ H M hv hvr hl hk hx h0 h1 hw
    have hc := H.2.1
    obtain ⟨hr, r0, r1⟩ := rC_root H h0 h1
    have R := s_resolve (d := k + 1 + d) H h0 h1
    have ev := rC_val H M.1 h0 h1
    have V := M.1 _ r0 r1
    have orv : ∀ u, ¬ lkd (cS σ) u → (Oc (cS σ) u (rC σ n) ↔ Oc (cS σ) u n) := fun u hu => oc_rv hu 3000 n
    generalize rC σ n = r at *
    have m : ∀ {b : Int} {σ' : Mem}, B_Ty_takesIn (k + 1 + d + 1) v n x σ (some b) σ' → Rn (k + 1 + d + 5) yTy_takesIn [.ref 38, vi v, vi n, vi x] σ (some b) σ' := fun h => M_Ty_takesIn ⟨by omega, by omega⟩ ⟨by omega, by omega⟩ ⟨by omega, by omega⟩ h
    have g := gw_ge (t := ρ n)
    by_cases e0 : r = v
    · refine ⟨0, σ, m ?_, TL.rf, hl, Or.inl ⟨rfl, (orv v hv.2).mp (by rw [e0]; exact Oc.self)⟩⟩
      refine ⟨_, _, R, ?_⟩
      rw [if_pos e0]
      exact ⟨rfl, rfl⟩
    have mm : ∀ {b : Int} {σ' : Mem}, (if rowv 3000 σ 40 r = 62 then (∃ (v7 : Int) (m7 : Mem), Rn (k + 1 + d + 1 + 3) yTy_takesIn [.ref 38, vi v, vi (rowv 3000 σ 42 r), vi (x + 1)] σ (some v7) m7 ∧ (if v7 = 0 then (some b = some 0 ∧ σ' = m7) else (∃ (v10 : Int) (m10 : Mem), Rn (k + 1 + d + 1 + 3) yTy_takesIn [.ref 38, vi v, vi (rowv 3000 m7 44 r), vi (x + 1)] m7 (some v10) m10 ∧ (if v10 = 0 then (some b = some 0 ∧ σ' = m10) else (some b = some 1 ∧ σ' = m10))))) else (if rowv 3000 σ 40 r = 63 then (some b = some 1 ∧ σ' = rows 3000 σ 44 r (zMin (rowv 3000 σ 44 r) (rowv 3000 σ 44 v))) else (if rowv 3000 σ 40 r = 91 then (∃ (v17 : Int) (m17 : Mem), Rn (k + 1 + d + 1 + 3) yTy_takesIn [.ref 38, vi v, vi (rowv 3000 σ 42 r), vi (x + 1)] σ (some v17) m17 ∧ ((v17 = 0 ∨ v17 = 1) ∧ (some b = some v17 ∧ σ' = m17))) else (some b = some 1 ∧ σ' = σ)))) → Rn (k + 1 + d + 5) yTy_takesIn [.ref 38, vi v, vi n, vi x] σ (some b) σ' := by
      intro b σ' h
      refine m ⟨_, _, R, ?_⟩
      rw [if_neg e0, if_pos (by omega)]; exact h
    have leaf : σ 40 r ≠ 62 → σ 40 r ≠ 63 → σ 40 r ≠ 91 → kC (σ 40 r) ≠ 4 → kC (σ 40 r) ≠ 5 → ∃ b σ', Rn (k + 1 + d + 5) yTy_takesIn [.ref 38, vi v, vi n, vi x] σ (some b) σ' ∧ TL σ σ' ∧ (∀ u, rg (σ' 44 u)) ∧ ((b = 0 ∧ Oc (cS σ) v n) ∨ (b = 1 ∧ ¬ Oc (cS σ) v n ∧ (∀ u, σ 40 u = 63 → ¬ lkd (cS σ) u → 0 ≤ u → u < σ 38 5 → (Oc (cS σ) u n → σ' 44 u = min (σ 44 u) (σ 44 v)) ∧ (¬ Oc (cS σ) u n → σ' 44 u = σ 44 u)))) := by
      intro a1 a2 a3 a4 a5
      have lf : ∀ u, Oc (cS σ) u r ↔ r = u := fun u => oc_leaf hr a4 a5
      refine ⟨1, σ, mm ?_, TL.rf, hl, Or.inr ⟨rfl, fun o => e0 ((lf v).mp ((orv v hv.2).mpr o)), fun u hu hul _ _ => ⟨fun o => ?_, fun _ => rfl⟩⟩⟩
      · rw [rw_in r0 (by omega), if_neg a1, if_neg a2, if_neg a3]; exact ⟨rfl, rfl⟩
      · have := (lf u).mp ((orv u hul).mpr o)
        rw [← this] at hu; exact absurd hu a2
    rcases root_k H r0 r1 hr with ⟨e, -⟩ | e | e | e | ⟨e, f0, f1⟩ | ⟨e, ⟨f0, f1⟩, g0, g1⟩
    · have lf : ∀ u, Oc (cS σ) u r ↔ r = u := fun u => oc_leaf hr (by show kC (σ 40 r) ≠ 4; rw [e]; decide) (by show kC (σ 40 r) ≠ 5; rw [e]; decide)
      have zm : zMin (σ 44 r) (σ 44 v) = min (σ 44 r) (σ 44 v) := by unfold zMin; split <;> omega
      have e44 : ∀ u, (rows 3000 σ 44 r (min (σ 44 r) (σ 44 v))) 44 u = if u = r then min (σ 44 r) (σ 44 v) else σ 44 u := fun u => by
        rw [rows_in r0 (by omega)]
        by_cases q : u = r
        · rw [if_pos q, q, mup_eq]
        · rw [if_neg q, mup_nk q]
      refine ⟨1, rows 3000 σ 44 r (min (σ 44 r) (σ 44 v)), mm ?_, ⟨fun i hi => by rw [rows_in r0 (by omega)]; exact mup_obj hi, fun u hu => ?_⟩, fun u => ?_, Or.inr ⟨rfl, fun o => e0 ((lf v).mp ((orv v hv.2).mpr o)), fun u hu hul _ _ => ⟨fun o => ?_, fun o => ?_⟩⟩⟩
      · rw [rw_in r0 (by omega), if_neg (by omega), if_pos e, rw_in r0 (by omega), rw_in hvr.1 (by omega), zm]; exact ⟨rfl, rfl⟩
      · rw [e44, if_neg (fun q => by rw [q] at hu; omega)]
      · rw [e44]
        split
        · have a := hl r
          have b := hl v
          exact ⟨by have := a.1; have := b.1; omega, by have := a.2; omega⟩
        · exact hl u
      · have := (lf u).mp ((orv u hul).mpr o)
        rw [e44, if_pos this.symm, this]
      · rw [e44, if_neg (fun q => o ((orv u hul).mp ((lf u).mpr q.symm)))]
    · exact leaf (by omega) (by omega) (by omega) (by rw [e]; decide) (by rw [e]; decide)
    · exact leaf (by omega) (by omega) (by omega) (by rw [e]; decide) (by rw [e]; decide)
    · exact leaf (by omega) (by omega) (by omega) (by rw [e]; decide) (by rw [e]; decide)
    · have k4 : (cS σ r).1 = 4 := by show kC (σ 40 r) = 4; rw [e]; decide
      have er : gw (ρ n) = 2 + gw (ρ (σ 42 r)) := by rw [← ev, V.2.2.1 k4]; rfl
      have oc4 : ∀ u, σ 40 u = 63 → (Oc (cS σ) u r ↔ Oc (cS σ) u (σ 42 r)) := fun u hu => by
        refine ⟨fun o => ?_, fun o => o.p4 k4⟩
        rcases o.cs with q | ⟨q, _⟩ | ⟨_, o⟩ | ⟨q, _⟩
        · rw [q] at e; omega
        · exact absurd q hr
        · exact o
        · omega
      obtain ⟨b, σ1, hb, t1, l1, p⟩ := ih (σ 42 r) (x + 1) σ H M hv hvr hl (by omega) (by omega) f0 f1 (by omega)
      rw [show k + d + 5 = k + 1 + d + 1 + 3 by omega] at hb
      refine ⟨b, σ1, mm ?_, t1, l1, ?_⟩
      · rw [rw_in r0 (by omega), if_neg (by omega), if_neg (by omega), if_pos e, rw_in r0 (by omega)]
        exact ⟨b, σ1, hb, by rcases p with p | p; exact Or.inl p.1; exact Or.inr p.1, rfl, rfl⟩
      · rcases p with ⟨p1, p2⟩ | ⟨p1, p2, p3⟩
        · exact Or.inl ⟨p1, (orv v hv.2).mp ((oc4 v hv.1).mpr p2)⟩
        · refine Or.inr ⟨p1, fun o => p2 ((oc4 v hv.1).mp ((orv v hv.2).mpr o)), fun u hu hul u0 u1 => ?_⟩
          obtain ⟨q1, q2⟩ := p3 u hu hul u0 u1
          exact ⟨fun o => q1 ((oc4 u hu).mp ((orv u hul).mpr o)), fun o => q2 (fun h => o ((orv u hul).mp ((oc4 u hu).mpr h)))⟩
    · have k5 : (cS σ r).1 = 5 := by show kC (σ 40 r) = 5; rw [e]; decide
      have e22 : (cS σ r).2.2 = σ 44 r := if_pos e
      have er : gw (ρ n) = 3 + gw (ρ (σ 42 r)) + gw (ρ (σ 44 r)) := by rw [← ev, V.2.2.2 k5, e22]; rfl
      have ga := gw_ge (t := ρ (σ 42 r))
      have gb := gw_ge (t := ρ (σ 44 r))
      have oc5 : ∀ u, σ 40 u = 63 → (Oc (cS σ) u r ↔ (Oc (cS σ) u (σ 42 r) ∨ Oc (cS σ) u (σ 44 r))) := fun u hu => by
        refine ⟨fun o => ?_, fun o => Oc.p5 k5 (by rw [e22]; exact o)⟩
        rcases o.cs with q | ⟨q, _⟩ | ⟨q, _⟩ | ⟨_, o⟩
        · rw [q] at e; omega
        · exact absurd q hr
        · omega
        · rw [e22] at o; exact o
      obtain ⟨b, σ1, hb, t1, l1, p⟩ := ih (σ 42 r) (x + 1) σ H M hv hvr hl (by omega) (by omega) f0 f1 (by omega)
      rw [show k + d + 5 = k + 1 + d + 1 + 3 by omega] at hb
      rcases p with ⟨p1, p2⟩ | ⟨p1, p2, p3⟩
      · refine ⟨0, σ1, mm ?_, t1, l1, Or.inl ⟨rfl, (orv v hv.2).mp ((oc5 v hv.1).mpr (Or.inl p2))⟩⟩
        rw [rw_in r0 (by omega), if_pos e, rw_in r0 (by omega)]
        refine ⟨b, σ1, hb, ?_⟩
        rw [if_pos p1]; exact ⟨rfl, rfl⟩
      · have ec := t1.cS
        have e38 := t1.c
        have e40 : σ1 40 = σ 40 := t1.1 40 (by decide)
        have v44 : σ1 44 v = σ 44 v := (p3 v hv.1 hv.2 hvr.1 hvr.2).2 p2
        have r44 : σ1 44 r = σ 44 r := t1.2 r e
        obtain ⟨b2, σ2, hb2, t2, l2, p'⟩ := ih (σ 44 r) (x + 1) σ1 (t1.ci H) (by rw [ec, e38]; exact M) (by rw [ec, e40]; exact hv) (by rw [e38]; exact hvr) l1 (by omega) (by omega) g0 (by rw [e38]; exact g1) (by omega)
        rw [show k + d + 5 = k + 1 + d + 1 + 3 by omega] at hb2
        rw [ec, e38, e40, v44] at p'
        have run : ∀ {y : Int}, (if b2 = 0 then y = 0 else y = 1) → Rn (k + 1 + d + 5) yTy_takesIn [.ref 38, vi v, vi n, vi x] σ (some y) σ2 := by
          intro y hy
          refine mm ?_
          rw [rw_in r0 (by omega), if_pos e, rw_in r0 (by omega)]
          refine ⟨b, σ1, hb, ?_⟩
          rw [if_neg (by omega), rw_in r0 (by omega), r44]
          refine ⟨b2, σ2, hb2, ?_⟩
          by_cases q : b2 = 0
          · rw [if_pos q] at hy ⊢; exact ⟨by rw [hy], rfl⟩
          · rw [if_neg q] at hy ⊢; exact ⟨by rw [hy], rfl⟩
        rcases p' with ⟨q1, q2⟩ | ⟨q1, q2, q3⟩
        · exact ⟨0, σ2, run (by rw [if_pos q1]), t1.tr t2, l2, Or.inl ⟨rfl, (orv v hv.2).mp ((oc5 v hv.1).mpr (Or.inr q2))⟩⟩
        · refine ⟨1, σ2, run (by rw [if_neg (by omega)]), t1.tr t2, l2, Or.inr ⟨rfl, fun o => ?_, fun u hu hul u0 u1 => ?_⟩⟩
          · rcases (oc5 v hv.1).mp ((orv v hv.2).mpr o) with o | o
            · exact p2 o
            · exact q2 o
          · obtain ⟨a1, a2⟩ := p3 u hu hul u0 u1
            obtain ⟨c1, c2⟩ := q3 u hu hul u0 u1
            have iff := (orv u hul).symm.trans (oc5 u hu)
            by_cases w1 : Oc (cS σ) u (σ 42 r)
            · have z1 := a1 w1
              refine ⟨fun _ => ?_, fun o => absurd (iff.mpr (Or.inl w1)) o⟩
              by_cases w2 : Oc (cS σ) u (σ 44 r)
              · rw [c1 w2, z1]; omega
              · rw [c2 w2, z1]
            · have z1 := a2 w1
              by_cases w2 : Oc (cS σ) u (σ 44 r)
              · exact ⟨fun _ => by rw [c1 w2, z1], fun o => absurd (iff.mpr (Or.inr w2)) o⟩
              · refine ⟨fun o => ?_, fun _ => by rw [c2 w2, z1]⟩
                rcases iff.mp o with o | o
                · exact absurd o w1
                · exact absurd o w2
end CTK
