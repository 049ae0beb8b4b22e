/-! The model's unify: one pair, all pairs. -/
section MUS
variable {σ σ' σ1 m : Mem} {d : Nat} {μ ρ : Int → GT} {R : Int → Prop} {j : Nat}
/-- what the loop does to j pairs -/
def UnG (d : Nat) (R : Int → Prop) (N w : Nat) : Prop := ∀ (j : Nat) (σ : Mem) (μ : Int → GT), MT σ → VS (mS σ).1 (mS σ).2.1 μ → ucn σ (σ 58 35).toNat ≤ N → sL μ (σ 87) j ≤ w → σ 58 44 = 0 → (∀ i : Nat, i < 2 * j → R (σ 87 i)) → RC σ R → QI σ R j → ∃ σ', Lb (d + 10) yMo_unify 16 [(0, .ref 58), (3, vi ((2 * j : Nat) : Int))] [] σ none σ' ∧ FU σ σ' ∧ UO σ σ' j
theorem un_0 (H : MT σ) (hi : σ 58 44 = 0) : ∃ σ', Lb (d + 10) yMo_unify 16 [(0, .ref 58), (3, vi ((2 * 0 : Nat) : Int))] [] σ none σ' ∧ FU σ σ' ∧ UO σ σ' 0 := by
  refine ⟨σ, K_Mo_unify_16 (d := d + 7) (rgk rfl) ?_, FU.rf, Or.inl ⟨hi, H, fun h => TSt.rf H.1, rfl, fun ρ => ⟨fun V => ⟨V, fun i q => absurd q (Nat.not_lt_zero i)⟩, And.left⟩⟩⟩
  unfold B_Mo_unify_16
  rw [if_pos (by decide)]
  exact ⟨rfl, rfl⟩
/-- after the memory changed by a link -/
theorem RC.lk (C : RC σ R) {v o : Int} (hv : oP (mS σ) v) (ho : R o) (x : ∀ u, oP (mS (mup σ 80 v o)) u → oP (mS σ) u) : RC (mup σ 80 v o) R := by
  have o79 : (mup σ 80 v o) 79 = σ 79 := mup_obj (by decide)
  have o81 : (mup σ 80 v o) 81 = σ 81 := mup_obj (by decide)
  have oc : (mup σ 80 v o) 58 35 = σ 58 35 := mup_ne (by decide)
  have k0 : σ 79 v = 0 := hv.2.1
  refine ⟨fun n hn => ?_, fun u hu a => ?_, fun l hl hq => C.2.2 l hl (fun q hm => ?_)⟩
  · obtain ⟨c0, c1, c2, c3⟩ := C.1 n hn
    rw [o79, o81, oc]
    refine ⟨c0, fun q => ?_, fun q => ?_, fun q => ?_⟩
    · by_cases e : n = v
      · rw [e, mup_eq]; exact ho
      · rw [mup_nk e]
        refine c1 ?_
        have q : (mup σ 80 v o) 79 n = 0 ∧ 0 ≤ (mup σ 80 v o) 80 n := q
        rw [o79, mup_nk e] at q; exact q
    · rw [mup_nk (fun e => by rw [e] at q; omega)]; exact c2 q
    · rw [mup_nk (fun e => by rw [e] at q; omega)]; exact c3 q
  · have z := C.2.1 u hu (x u a)
    show (if (mup σ 80 v o) 81 u = 1 then (1000 : Int) else 0) ≤ 0
    rw [o81]; exact z
  · have := hq q hm
    rw [o79] at this; exact this
theorem RC.lo (C : RC σ R) {n : Int} (h : R n) : lO (mS σ) 0 n := fun u o oc => C.2.1 u (C.oc oc h) o
/-- a variable and another root -/
theorem un_lk {N w : Nat} (ih : ∀ N', N' < N → ∀ w, UnG d R N' w) (H : MT m) (hu : ucn m (m 58 35).toNat ≤ N) (hi : m 58 44 = 0) (hp : ∀ i : Nat, i < 2 * (j + 1) → R (m 87 i)) (C : RC m R) (Q : QI m R (j + 1)) (hj : j ≤ 40) {v o : Int} (hv : oP (mS m) v) (Rv : R v) (Ro : R o) (no : ¬ lkd (mS m).1 o) (ne : o ≠ v) (hw : ∀ ρ, MinV (mS m).1 (mS m).2.1 ρ → gw (ρ o) ≤ 80) (hc : (Oc (mS m).1 v (m 87 ((2 * j : Nat) : Int)) ∧ Oc (mS m).1 o (m 87 ((2 * j + 1 : Nat) : Int))) ∨ (Oc (mS m).1 o (m 87 ((2 * j : Nat) : Int)) ∧ Oc (mS m).1 v (m 87 ((2 * j + 1 : Nat) : Int)))) (hE : ∀ ρ, VS (mS m).1 (mS m).2.1 ρ → (ρ v = ρ o ↔ ρ (m 87 ((2 * j : Nat) : Int)) = ρ (m 87 ((2 * j + 1 : Nat) : Int)))) : ∃ σ', B_Mo_unify_147 (d + 7) ((2 * j : Nat) : Int) v o m none σ' ∧ FU m σ' ∧ UO m σ' (j + 1) := by
  have hcc := H.2.1
  have ro := (C.1 o Ro).1
  have rv := (C.1 v Rv).1
  obtain ⟨ν, Mi⟩ := ms_min H
  obtain ⟨b, m2, s1, f2, b01, bo⟩ := s_standsIn (d := d + 3) H Mi rv hv.2.2 ro.1 ro.2 (hw ν Mi)
  obtain ⟨H2, e2⟩ := f2.mt H
  have c44 : m2 58 44 = 0 := (f2.2 44 (by decide) (by decide)).trans hi
  by_cases c : Oc (mS m).1 v o
  · have b1 := bo.mpr c
    obtain ⟨σ', a, f, il⟩ := un_168i (σ := m2) (d := d) (x3 := ((2 * j : Nat) : Int)) (x6 := v) (x7 := o) ⟨by omega, by omega⟩ ⟨by omega, by omega⟩
    refine ⟨σ', ?_, f2.fu.tr f, Or.inr ⟨il, fun ρ V p => ?_⟩⟩
    · unfold B_Mo_unify_147
      rw [if_neg (fun q => q hi)]
      refine ⟨b, m2, s1, ?_⟩
      rw [if_neg (by omega)]; exact a
    · exact absurd ((hE ρ V).mpr (p j (by omega))) (c.no H.1.1 V ne no ro.1 ro.2)
  · have b0 : b = 0 := by
      rcases b01 with q | q
      · exact q
      · exact absurd (bo.mp q) c
    -- the memory after
    obtain ⟨H3, e3⟩ : MT (mup m2 58 44 0) ∧ mS (mup m2 58 44 0) = mS m2 := H2.cg (mup_obj (by decide)) (mup_obj (by decide)) (mup_obj (by decide)) (mup_obj (by decide)) (mup_nk (by decide))
    have e3 : mS (mup m2 58 44 0) = mS m := e3.trans e2
    have o79 : (mup m2 58 44 0) 79 = m 79 := (mup_obj (by decide)).trans (f2.1 79 (by decide) (by decide))
    have o80 : (mup m2 58 44 0) 80 = m 80 := (mup_obj (by decide)).trans (f2.1 80 (by decide) (by decide))
    have o81 : (mup m2 58 44 0) 81 = m 81 := (mup_obj (by decide)).trans (f2.1 81 (by decide) (by decide))
    have o87 : (mup m2 58 44 0) 87 = m 87 := (mup_obj (by decide)).trans (f2.1 87 (by decide) (by decide))
    have oc : (mup m2 58 44 0) 58 35 = m 58 35 := (mup_nk (by decide)).trans (f2.2 35 (by decide) (by decide))
    have C3 := C.cg o79 o80 o81 oc e3
    have hv3 : oP (mS (mup m2 58 44 0)) v := by rw [e3]; exact hv
    obtain ⟨H4, T4, V4⟩ := H3.lkd (o := o) hv3 (C3.2.1 v Rv hv3) (by rw [oc]; exact ro) (by rw [e3]; exact no) (by rw [e3]; exact c) (C3.lo Ro)
    have C4 := C3.lk hv3 Ro (fun u a => (T4 0).2.1.op (by have := a.1.2; rw [mS_lk (σ := mup m2 58 44 0) (o := o) hv3.2.1] at this; exact this) a)
    generalize hm4 : mup (mup m2 58 44 0) 80 v o = m4 at *
    have p79 : m4 79 = m 79 := by rw [← hm4]; exact (mup_obj (by decide)).trans o79
    have p81 : m4 81 = m 81 := by rw [← hm4]; exact (mup_obj (by decide)).trans o81
    have p87 : m4 87 = m 87 := by rw [← hm4]; exact (mup_obj (by decide)).trans o87
    have pc : m4 58 35 = m 58 35 := by rw [← hm4]; exact (mup_ne (by decide)).trans oc
    have p44 : m4 58 44 = 0 := by rw [← hm4, mup_ne (by decide), mup_eq]
    rw [e3] at T4 V4
    have hu4 : ucn m4 (m4 58 35).toNat < N := by
      have z := ucn_lk (σ := mup m2 58 44 0) (o := o) ⟨hv3.2.1, fun q => hv3.2.2 ⟨hv3.2.1, q⟩⟩ rv.1 ro.1 (m 58 35).toNat
      rw [hm4, if_pos (by omega), ucn_cg o79 o80] at z
      rw [pc]; omega
    have Q4 : QI m4 R j := by
      obtain ⟨q, q1, q2, q3⟩ := Q
      have rg2 : ∀ i, i + 1 < j + 1 → 0 ≤ m 81 (q i) ∧ m 81 (q i) < m 58 35 := fun i hi => (C.1 _ ((C.1 (q i) (q1 i hi).2).2.2.2 (q1 i hi).1).2).1
      refine ⟨q, fun i hi => ?_, fun i hi k h1 h2 => ?_, fun i hi => ?_⟩
      · rw [p79]; exact q1 i (by omega)
      · rw [p87, p81]
        exact (T4 0).2.1.keep H.1.1 (q2 i (by omega) k h1 (by omega)) (rg2 i (by omega)).1 (rg2 i (by omega)).2
      · rw [p81]
        exact (T4 0).2.1.keep H.1.1 (q3 i (by omega)) (rg2 i (by omega)).1 (rg2 i (by omega)).2
    obtain ⟨ρ4, W4⟩ := H4.2.2.2.2.2.2
    obtain ⟨σ', l, f, u⟩ := ih _ hu4 (sL ρ4 (m4 87) j).toNat j m4 ρ4 H4 W4 (Nat.le_refl _) (by have := sL_0 (μ := ρ4) (p := m4 87) j; omega) p44 (fun i q => by rw [p87]; exact hp i (by omega)) C4 Q4
    refine ⟨σ', ?_, ?_, ?_⟩
    · unfold B_Mo_unify_147
      rw [if_neg (fun q => q hi)]
      refine ⟨b, m2, s1, ?_⟩
      rw [if_pos b0]
      unfold B_Mo_unify_173
      refine ⟨Or.inl rfl, ?_⟩
      rw [if_pos rfl]
      refine ⟨⟨by omega, by omega⟩, ?_⟩
      rw [hm4]; exact l
    · refine f2.fu.tr (FU.tr ?_ f)
      rw [← hm4]; exact FU.m44.tr FU.m80
    · have pe : ∀ ρ, prE m4 j ρ ↔ prE m j ρ := fun ρ => prE_cg (fun i _ => by rw [p87])
      rcases u with ⟨u1, u2, u3, u4, u5⟩ | ⟨u1, u2⟩
      · refine Or.inl ⟨u1, u2, fun h => ?_, u4.trans pc, fun ρ => ?_⟩
        · have x : TSt (mS m) (mS m4) (stk m (j + 1)) h := (T4 h).in (fun n hn => by
            have l0 : stk m (j + 1) (m 87 ((2 * j : Nat) : Int)) := ⟨2 * j, by omega, rfl⟩
            have l1 : stk m (j + 1) (m 87 ((2 * j + 1 : Nat) : Int)) := ⟨2 * j + 1, by omega, rfl⟩
            rcases hc with ⟨h1, h2⟩ | ⟨h1, h2⟩ <;> rcases hn with e | e <;> rw [e]
            · exact ⟨_, l0, h1⟩
            · exact ⟨_, l1, h2⟩
            · exact ⟨_, l1, h2⟩
            · exact ⟨_, l0, h1⟩)
          refine x.tr (u3 h) (fun n hn => Res.m x.2.1 (fun p ⟨i, hi, e⟩ => by rw [e]; exact (C.1 _ (hp i hi)).1) ?_)
          obtain ⟨i, hi, e⟩ := hn
          exact ⟨i, by omega, by rw [e, p87]⟩
        · rw [u5 ρ, V4 ρ, pe ρ, prE_s]
          constructor
          · intro ⟨⟨V, e⟩, p⟩; exact ⟨V, p, (hE ρ V).mp e⟩
          · intro ⟨V, p, e⟩; exact ⟨⟨V, (hE ρ V).mpr e⟩, p⟩
      · refine Or.inr ⟨u1, fun ρ V p => ?_⟩
        have p := prE_s.mp p
        obtain ⟨i, hi, g⟩ := u2 ρ ((V4 ρ).mpr ⟨V, (hE ρ V).mpr p.2⟩) ((pe ρ).mpr p.1)
        rw [p87] at g
        exact ⟨i, by omega, g⟩
end MUS
