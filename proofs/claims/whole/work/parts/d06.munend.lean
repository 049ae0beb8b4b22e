/-! The model's unify, whole. -/
section MUE
variable {σ σ' σ1 m : Mem} {d : Nat} {μ ρ : Int → GT} {R : Int → Prop} {j : Nat}
theorem un_step {N w : Nat} (ihN : ∀ N', N' < N → ∀ w, UnG d R N' w) (ihw : ∀ w', w' < w → UnG d R N w') : UnG d R N w := by
  intro j σ μ H V hu hs hi hp C Q
  cases j with
  | zero => exact un_0 H hi
  | succ j =>
    have hl := Q.len H C
    have hcc := H.2.1
    have Ra := hp (2 * j) (by omega)
    have Rb := hp (2 * j + 1) (by omega)
    have ra := (C.1 _ Ra).1
    have rb := (C.1 _ Rb).1
    obtain ⟨p, Rp⟩ := rt_ex H ra.1 ra.2
    obtain ⟨q, Rq⟩ := rt_ex H rb.1 rb.2
    have e1 : ((2 * (j + 1) : Nat) : Int) + (-2) = ((2 * j : Nat) : Int) := by omega
    have e2 : ((2 * (j + 1) : Nat) : Int) + (-2) + 1 = ((2 * j + 1 : Nat) : Int) := by omega
    have h3 : 2 ≤ ((2 * (j + 1) : Nat) : Int) ∧ ((2 * (j + 1) : Nat) : Int) ≤ 200 := by omega
    have sa : Rn (d + 10) yMo_realType [.ref 58, vi (σ 87 (((2 * (j + 1) : Nat) : Int) + (-2)))] σ (some p) σ := by rw [e1]; exact s_real (d := d + 6) H ra.1 ra.2 Rp
    have sb : Rn (d + 10) yMo_realType [.ref 58, vi (σ 87 (((2 * (j + 1) : Nat) : Int) + (-2) + 1))] σ (some q) σ := by rw [e2]; exact s_real (d := d + 6) H rb.1 rb.2 Rq
    have rp := Rp.in H ra.1 ra.2
    have rq := Rq.in H rb.1 rb.2
    have ep : ∀ ρ, VS (mS σ).1 (mS σ).2.1 ρ → ρ p = ρ (σ 87 ((2 * j : Nat) : Int)) ∧ ρ q = ρ (σ 87 ((2 * j + 1 : Nat) : Int)) := fun ρ W => ⟨Rp.val H ra.1 ra.2 W, Rq.val H rb.1 rb.2 W⟩
    have op : Oc (mS σ).1 p (σ 87 ((2 * j : Nat) : Int)) := by obtain ⟨⟨k, rfl⟩, -⟩ := Rp; exact oc_rt k _
    have oq : Oc (mS σ).1 q (σ 87 ((2 * j + 1 : Nat) : Int)) := by obtain ⟨⟨k, rfl⟩, -⟩ := Rq; exact oc_rt k _
    have Cp := C.oc op Ra
    have Cq := C.oc oq Rb
    have kp := H.kd rp.1 rp.2
    have ls : ∀ i : Nat, i < 2 * j → ∃ x, stk σ (j + 1) x ∧ Oc (mS σ).1 (σ 87 i) x := fun i hi => ⟨_, ⟨i, by omega, rfl⟩, Oc.self⟩
    have QJ : QI σ R j := by
      obtain ⟨c, q1, q2, q3⟩ := Q
      exact ⟨c, fun i hi => q1 i (by omega), fun i hi k h1 h2 => q2 i (by omega) k h1 (by omega), fun i hi => q3 i (by omega)⟩
    by_cases e : p = q
    · -- the same root
      have gp1 := gw_ge (t := μ (σ 87 ((2 * j : Nat) : Int)))
      have g0 := sL_0 (μ := μ) (p := σ 87) j
      have hs : sL μ (σ 87) j + gw (μ (σ 87 ((2 * j : Nat) : Int))) ≤ w := hs
      obtain ⟨σ', l, f, u⟩ := ihw (sL μ (σ 87) j).toNat (by omega) j σ μ H V hu (by omega) hi (fun i q => hp i (by omega)) C QJ
      refine ⟨σ', un_eq h3 hi sa (by rw [e]; exact sb) (by rw [e1]; exact l), f, UO.st rfl rfl ?_ ?_ ?_ u⟩
      · intro n ⟨i, hi, en⟩
        rw [en]; exact ls i hi
      · intro ρ W
        rw [prE_s]
        exact ⟨And.left, fun h => ⟨h, by rw [← (ep ρ W).1, ← (ep ρ W).2, e]⟩⟩
      · intro ρ W i hi g
        exact ⟨i, by omega, g⟩
    · obtain ⟨ν, Mi⟩ := ms_min H
      obtain ⟨W0, ⟨L, st, SSt⟩, -⟩ := H.1
      have wl : ∀ ρ, VS (mS σ).1 (mS σ).2.1 ρ → ∀ n, 0 ≤ n → n < σ 58 35 → gw (ν n) ≤ gw (ρ n) := fun ρ W => wid_le W0 Mi.1 W SSt Mi.2
      obtain ⟨v9, m9, w9, f9, b9, -, p9, q9⟩ := s_width (d := d + 4) H Mi rp.1 rp.2
      by_cases g9 : 80 < v9
      · -- the first is too long
        have big : 80 < gw (ν p) := by
          by_cases h : gw (ν p) ≤ 80
          · have := (p9 h).1; omega
          · omega
        obtain ⟨σ', a, f, il⟩ := un_86i (σ := m9) (d := d) (x3 := ((2 * (j + 1) : Nat) : Int) + (-2)) (x4 := p) (x5 := q) (by omega) (by omega) (by omega) (by rw [f9.1 79 (by decide) (by decide)]; omega)
        refine ⟨σ', un_w1 h3 hi sa sb e w9 g9 a, f9.fu.tr f, Or.inr ⟨il, fun ρ W _ => ⟨j, by omega, ?_⟩⟩⟩
        have := wl ρ W p rp.1 rp.2
        rw [← (ep ρ W).1]; omega
      · have sm : gw (ν p) ≤ 80 := by
          by_cases h : gw (ν p) ≤ 80
          · exact h
          · have := q9 (by omega); omega
        obtain ⟨H9, e9⟩ := f9.mt H
        have c9 : m9 58 35 = σ 58 35 := f9.2 35 (by decide)
        obtain ⟨v12, m12, w12, f12, b12, -, p12, q12⟩ := s_width (d := d + 4) (n := q) H9 (by rw [e9]; exact Mi) rq.1 (by rw [c9]; exact rq.2)
        have F := f9.tr f12
        by_cases g12 : 80 < v12
        · -- the second is too long
          have big : 80 < gw (ν q) := by
            by_cases h : gw (ν q) ≤ 80
            · have := (p12 h).1; omega
            · omega
          obtain ⟨σ', a, f, il⟩ := un_86i (σ := m12) (d := d) (x3 := ((2 * (j + 1) : Nat) : Int) + (-2)) (x4 := p) (x5 := q) (by omega) (by omega) (by omega) (by rw [F.1 79 (by decide) (by decide)]; omega)
          refine ⟨σ', un_w2 h3 hi sa sb e w9 g9 w12 ⟨fun _ => a, fun h => absurd g12 h⟩, F.fu.tr f, Or.inr ⟨il, fun ρ W pr => ⟨j, by omega, ?_⟩⟩⟩
          have := wl ρ W q rq.1 rq.2
          rw [pr j (by omega), ← (ep ρ W).2]; omega
        · have sm2 : gw (ν q) ≤ 80 := by
            by_cases h : gw (ν q) ≤ 80
            · exact h
            · have := q12 (by omega); omega
          -- both are short
          obtain ⟨H12, e12⟩ := F.mt H
          obtain ⟨Hm, em⟩ : MT (mup m12 58 44 0) ∧ mS (mup m12 58 44 0) = mS m12 := H12.cg (mup_obj (by decide)) (mup_obj (by decide)) (mup_obj (by decide)) (mup_obj (by decide)) (mup_nk (by decide))
          have em : mS (mup m12 58 44 0) = mS σ := em.trans e12
          have ob : ∀ i, i ≠ 58 → i ≠ 86 → (mup m12 58 44 0) i = σ i := fun i h1 h2 => (mup_obj h1).trans (F.1 i h1 h2)
          have oc : (mup m12 58 44 0) 58 35 = σ 58 35 := (mup_nk (by decide)).trans (F.2 35 (by decide))
          have o44 : (mup m12 58 44 0) 58 44 = 0 := mup_eq
          have fu : FU σ (mup m12 58 44 0) := F.fu.tr FU.m44
          have o79 := ob 79 (by decide) (by decide)
          have o80 := ob 80 (by decide) (by decide)
          have o81 := ob 81 (by decide) (by decide)
          have o87 := ob 87 (by decide) (by decide)
          have Cm := C.cg o79 o80 o81 oc em
          have k79 : m12 79 = σ 79 := F.1 79 (by decide) (by decide)
          have hum : ucn (mup m12 58 44 0) ((mup m12 58 44 0) 58 35).toNat ≤ N := by rw [oc, ucn_cg o79 o80]; exact hu
          have Qm : QI (mup m12 58 44 0) R (j + 1) := by
            obtain ⟨c, q1, q2, q3⟩ := Q
            exact ⟨c, fun i hi => by rw [o79]; exact q1 i hi, fun i hi k h1 h2 => by rw [em, o81, o87]; exact q2 i hi k h1 h2, fun i hi => by rw [em, o81]; exact q3 i hi⟩
          -- from the memory between back to the first
          have back : ∀ σ', UO (mup m12 58 44 0) σ' (j + 1) → UO σ σ' (j + 1) := fun σ' u => UO.st em oc (fun n ⟨i, hi, en⟩ => ⟨n, ⟨i, hi, by rw [en, o87]⟩, Oc.self⟩) (fun ρ _ => (prE_cg (fun i _ => by rw [o87])).symm) (fun ρ _ i hi g => ⟨i, hi, by rw [o87] at g; exact g⟩) u
          have fin : ∀ σ', B_Mo_unify_91 (d + 7) ((2 * j : Nat) : Int) p q 0 m12 none σ' → Lb (d + 10) yMo_unify 16 [(0, .ref 58), (3, vi ((2 * (j + 1) : Nat) : Int))] [] σ none σ' := fun σ' a => un_w2 h3 hi sa sb e w9 g9 w12 ⟨fun h => absurd h g12, fun _ => by rw [e1]; exact a⟩
          have minq : ∀ n, gw (ν n) ≤ 80 → 0 ≤ n → n < σ 58 35 → ∀ ρ, MinV (mS (mup m12 58 44 0)).1 (mS (mup m12 58 44 0)).2.1 ρ → gw (ρ n) ≤ 80 := fun n h h0 h1 ρ Mr => by
            rw [em] at Mr
            have := wid_le W0 Mr.1 Mi.1 SSt Mr.2 n h0 h1
            omega
          have lk : ∀ v o, (v = p ∧ o = q) ∨ (v = q ∧ o = p) → σ 79 v = 0 → ∃ σ', B_Mo_unify_147 (d + 7) ((2 * j : Nat) : Int) v o (mup m12 58 44 0) none σ' ∧ FU (mup m12 58 44 0) σ' ∧ UO (mup m12 58 44 0) σ' (j + 1) := fun v o hvo kv => by
            refine un_lk (w := w) ihN Hm hum o44 (fun i h => by rw [o87]; exact hp i h) Cm Qm (by omega) (v := v) (o := o) ?_ ?_ ?_ ?_ ?_ ?_ ?_ ?_
            · rw [em]
              rcases hvo with ⟨a, b⟩ | ⟨a, b⟩ <;> subst a <;> subst b
              · exact ⟨rp, kv, Rp.2⟩
              · exact ⟨rq, kv, Rq.2⟩
            · rcases hvo with ⟨a, b⟩ | ⟨a, b⟩ <;> rw [a]
              · exact Cp
              · exact Cq
            · rcases hvo with ⟨a, b⟩ | ⟨a, b⟩ <;> rw [b]
              · exact Cq
              · exact Cp
            · rw [em]
              rcases hvo with ⟨a, b⟩ | ⟨a, b⟩ <;> rw [b]
              · exact Rq.2
              · exact Rp.2
            · rcases hvo with ⟨a, b⟩ | ⟨a, b⟩ <;> rw [a, b]
              · exact fun z => e z.symm
              · exact e
            · rcases hvo with ⟨a, b⟩ | ⟨a, b⟩ <;> rw [b]
              · exact minq q sm2 rq.1 rq.2
              · exact minq p sm rp.1 rp.2
            · rw [em, o87]
              rcases hvo with ⟨a, b⟩ | ⟨a, b⟩ <;> rw [a, b]
              · exact Or.inl ⟨op, oq⟩
              · exact Or.inr ⟨op, oq⟩
            · intro ρ W
              rw [em] at W
              rw [o87, ← (ep ρ W).1, ← (ep ρ W).2]
              rcases hvo with ⟨a, b⟩ | ⟨a, b⟩ <;> rw [a, b]
              exact eq_comm
          by_cases kp0 : σ 79 p = 0
          · obtain ⟨σ', a, f, u⟩ := lk p q (Or.inl ⟨rfl, rfl⟩) kp0
            refine ⟨σ', fin σ' ?_, fu.tr f, back σ' u⟩
            unfold B_Mo_unify_91
            refine ⟨Or.inl rfl, ⟨by omega, by omega⟩, ?_⟩
            rw [k79, if_pos kp0]
            refine ⟨⟨by omega, by omega⟩, ?_⟩
            rw [o79, if_neg (fun z => z kp0)]
            unfold B_Mo_unify_131
            rw [if_neg (fun z => z rfl)]
            exact a
          · by_cases kq0 : σ 79 q = 0
            · obtain ⟨σ', a, f, u⟩ := lk q p (Or.inr ⟨rfl, rfl⟩) kq0
              refine ⟨σ', fin σ' ?_, fu.tr f, back σ' u⟩
              unfold B_Mo_unify_91
              refine ⟨Or.inl rfl, ⟨by omega, by omega⟩, ?_⟩
              rw [k79, if_neg kp0]
              refine ⟨⟨by omega, by omega⟩, ?_⟩
              rw [if_neg (fun z => z kq0)]
              refine ⟨⟨by omega, by omega⟩, ?_⟩
              rw [o79, if_pos kp0]
              unfold B_Mo_unify_131
              rw [if_pos (fun z => e z.symm)]
              exact a
            · by_cases kk : σ 79 p = σ 79 q
              · obtain ⟨σ', a, f, u⟩ := un_cm (d := d) (R := R) (w := w) (p := p) (q := q) ihw Hm (by rw [em]; exact V) hum (by rw [o87]; exact hs) (fun i h => by rw [o87]; exact hp i h) Cm Qm (by omega) Cp Cq (by rw [o79]; exact kp0) (by rw [o79]; exact kk) (by rw [em, o87]; exact op) (by rw [em, o87]; exact oq) (fun ρ W => by rw [em] at W; rw [o87]; exact ep ρ W)
                refine ⟨σ', fin σ' ?_, fu.tr f, back σ' u⟩
                unfold B_Mo_unify_91
                refine ⟨Or.inl rfl, ⟨by omega, by omega⟩, ?_⟩
                rw [k79, if_neg kp0]
                refine ⟨⟨by omega, by omega⟩, ?_⟩
                rw [if_pos kq0, if_neg (by decide)]
                refine ⟨⟨by omega, by omega⟩, ⟨by omega, by omega⟩, ?_⟩
                rw [if_pos kk]
                exact a
              · -- different kinds
                obtain ⟨σ', a, f, il⟩ := un_230i (σ := mup m12 58 44 0) (d := d) (x3 := ((2 * j : Nat) : Int)) (x4 := p) (x5 := q) (by omega) (by omega) (by omega) (by rw [o79]; omega)
                refine ⟨σ', fin σ' ?_, fu.tr f, Or.inr ⟨il, fun ρ W pr => ?_⟩⟩
                · unfold B_Mo_unify_91
                  refine ⟨Or.inl rfl, ⟨by omega, by omega⟩, ?_⟩
                  rw [k79, if_neg kp0]
                  refine ⟨⟨by omega, by omega⟩, ?_⟩
                  rw [if_pos kq0, if_neg (by decide)]
                  refine ⟨⟨by omega, by omega⟩, ⟨by omega, by omega⟩, ?_⟩
                  rw [if_neg kk]
                  exact a
                · have z := pr j (by omega)
                  rw [← (ep ρ W).1, ← (ep ρ W).2] at z
                  have a1 := H.hdk W rp.1 rp.2 kp0
                  have a2 := H.hdk W rq.1 rq.2 kq0
                  rw [z] at a1
                  exact absurd (a1.symm.trans a2) kk
theorem un_all : ∀ N w, UnG d R N w := by
  intro N
  induction N using Nat.strongRecOn with
  | _ N ih =>
    intro w
    induction w using Nat.strongRecOn with
    | _ w ih2 => exact un_step ih ih2
theorem len_flt (p : Int → Bool) : ∀ l : List Int, l.length = (l.filter p).length + (l.filter (fun x => ! p x)).length
  | [] => rfl
  | x :: l => by
    have ih := len_flt p l
    rw [List.filter_cons, List.filter_cons]
    cases h : p x
    · rw [if_neg (by decide), if_pos (by rfl), List.length_cons, List.length_cons]; omega
    · rw [if_pos rfl, if_neg (by decide), List.length_cons, List.length_cons]; omega
/-- a pair of the model's types is made one -/
theorem s_munify (H : MT σ) (hi : σ 58 44 = 0) {a b : Int} (ha : 0 ≤ a ∧ a < σ 58 35) (hb : 0 ≤ b ∧ b < σ 58 35) (la : lO (mS σ) 0 a) (lb : lO (mS σ) 0 b) : ∃ σ', Rn (d + 11) yMo_unify [.ref 58, vi a, vi b] σ none σ' ∧ FU σ σ' ∧ ((σ' 58 44 = 0 ∧ MT σ' ∧ (∀ h, TSt (mS σ) (mS σ') (fun m => m = a ∨ m = b) h) ∧ σ' 58 35 = σ 58 35 ∧ ∀ ρ, VS (mS σ').1 (mS σ').2.1 ρ ↔ (VS (mS σ).1 (mS σ).2.1 ρ ∧ ρ a = ρ b)) ∨ (σ' 58 44 = 1 ∧ ∀ ρ, VS (mS σ).1 (mS σ).2.1 ρ → ρ a = ρ b → ¬ gw (ρ a) ≤ 80)) := by
  have hcc := H.2.1
  generalize hm : mup (mup σ 87 0 a) 87 1 b = m
  have ob : ∀ i, i ≠ 87 → m i = σ i := fun i h => by rw [← hm, mup_obj h, mup_obj h]
  have m0 : m 87 ((2 * 0 : Nat) : Int) = a := by rw [← hm]; exact (mup_nk (by decide)).trans mup_eq
  have m1 : m 87 ((2 * 0 + 1 : Nat) : Int) = b := by rw [← hm]; exact mup_eq
  have fu : FU σ m := by rw [← hm]; exact FU.m87.tr FU.m87
  have oc : m 58 35 = σ 58 35 := by rw [ob 58 (by decide)]
  have o44 : m 58 44 = 0 := by rw [ob 58 (by decide)]; exact hi
  obtain ⟨Hm, em⟩ := H.cg (ob 79 (by decide)) (ob 80 (by decide)) (ob 81 (by decide)) (ob 82 (by decide)) oc
  have fin : (∃ σ', Lb (d + 10) yMo_unify 16 [(0, .ref 58), (3, vi ((2 * 1 : Nat) : Int))] [] m none σ' ∧ FU m σ' ∧ UO m σ' 1) → ∃ σ', Rn (d + 11) yMo_unify [.ref 58, vi a, vi b] σ none σ' ∧ FU σ σ' ∧ ((σ' 58 44 = 0 ∧ MT σ' ∧ (∀ h, TSt (mS σ) (mS σ') (fun m => m = a ∨ m = b) h) ∧ σ' 58 35 = σ 58 35 ∧ ∀ ρ, VS (mS σ').1 (mS σ').2.1 ρ ↔ (VS (mS σ).1 (mS σ).2.1 ρ ∧ ρ a = ρ b)) ∨ (σ' 58 44 = 1 ∧ ∀ ρ, VS (mS σ).1 (mS σ).2.1 ρ → ρ a = ρ b → ¬ gw (ρ a) ≤ 80)) := by
    intro ⟨σ', l, f, u⟩
    refine ⟨σ', M_Mo_unify (d := d + 7) ⟨by omega, by omega⟩ ⟨by omega, by omega⟩ ⟨by decide, by decide, by rw [hm]; exact l⟩, fu.tr f, ?_⟩
    have pr : ∀ ρ, prE m 1 ρ ↔ ρ a = ρ b := fun ρ => by
      rw [prE_s, m0, m1]
      exact ⟨And.right, fun h => ⟨fun i q => absurd q (Nat.not_lt_zero i), h⟩⟩
    rcases u with ⟨u1, u2, u3, u4, u5⟩ | ⟨u1, u2⟩
    · refine Or.inl ⟨u1, u2, fun h => ?_, u4.trans oc, fun ρ => by rw [u5 ρ, em, pr ρ]⟩
      have x := u3 h
      rw [em] at x
      refine x.in (fun n ⟨i, hi, en⟩ => ⟨n, ?_, Oc.self⟩)
      by_cases h0 : i = 0
      · rw [en, h0]; exact Or.inl m0
      · rw [en, show i = 1 by omega]; exact Or.inr m1
    · refine Or.inr ⟨u1, fun ρ V e => ?_⟩
      obtain ⟨i, hi, g⟩ := u2 ρ (by rw [em]; exact V) ((pr ρ).mpr e)
      rw [show i = 0 by omega, m0] at g
      exact g
  refine fin ?_
  obtain ⟨ν, Mi⟩ := ms_min H
  obtain ⟨W0, ⟨L, st, SSt⟩, -⟩ := H.1
  by_cases sm : gw (ν a) ≤ 80 ∧ gw (ν b) ≤ 80
  · obtain ⟨ρ, W⟩ := Hm.2.2.2.2.2.2
    have dc : ∀ x, Decidable (Oc (mS σ).1 x a) := fun x => Classical.propDecidable _
    refine un_all (d := d) (R := fun n => Oc (mS σ).1 n a ∨ Oc (mS σ).1 n b) _ (sL ρ (m 87) 1).toNat 1 m ρ Hm W (Nat.le_refl _) (by have := sL_0 (μ := ρ) (p := m 87) 1; omega) o44 (fun i hi => ?_) ⟨fun n hn => ?_, fun u hu o => ?_, fun l nd hl => ?_⟩ ⟨fun _ => 0, fun i hi => by omega, fun i hi => by omega, fun i hi => by omega⟩
    · by_cases h0 : i = 0
      · rw [h0]; show Oc _ (m 87 ((2 * 0 : Nat) : Int)) a ∨ _
        rw [m0]; exact Or.inl Oc.self
      · rw [show i = 1 by omega]; show _ ∨ Oc _ (m 87 ((2 * 0 + 1 : Nat) : Int)) b
        rw [m1]; exact Or.inr Oc.self
    · have r : 0 ≤ n ∧ n < σ 58 35 := by
        rcases hn with h | h
        · exact h.rg W0 ha.1 ha.2
        · exact h.rg W0 hb.1 hb.2
      rw [oc, em, ob 79 (by decide), ob 80 (by decide), ob 81 (by decide)]
      have up : ∀ x, Oc (mS σ).1 x n → Oc (mS σ).1 x a ∨ Oc (mS σ).1 x b := fun x o => hn.imp o.tr o.tr
      refine ⟨r, fun q => up _ (Oc.self.lnk q), fun q => up _ (Oc.p4 q Oc.self), fun q => ⟨up _ (Oc.p5 q (Or.inl Oc.self)), up _ (Oc.p5 q (Or.inr ?_))⟩⟩
      have e81 : ((mS σ).1 n).2.2 = σ 81 n := by show (if σ 79 n = 5 then σ 81 n else 0) = _; rw [if_pos q]
      rw [e81]; exact Oc.self
    · rw [em] at o ⊢
      rcases hu with h | h
      · exact la u o h
      · exact lb u o h
    · rw [ob 79 (by decide)] at hl
      have ca := arr_n W0 Mi.1 SSt a ha.1 ha.2 (l.filter (fun x => decide (Oc (mS σ).1 x a))) (nd.filter _) (fun x hx => by
        have z := List.mem_filter.mp hx
        exact ⟨(hl x z.1).2, of_decide_eq_true z.2⟩)
      have cb := arr_n W0 Mi.1 SSt b hb.1 hb.2 (l.filter (fun x => ! decide (Oc (mS σ).1 x a))) (nd.filter _) (fun x hx => by
        have z := List.mem_filter.mp hx
        have z2 : ¬ Oc (mS σ).1 x a := by
          have := z.2
          intro h
          rw [decide_eq_true h] at this
          exact absurd this (by decide)
        exact ⟨(hl x z.1).2, (hl x z.1).1.resolve_left z2⟩)
      have ln := len_flt (fun x => decide (Oc (mS σ).1 x a)) l
      omega
  · -- too long at once, or one root
    obtain ⟨p, Rp⟩ := rt_ex H ha.1 ha.2
    obtain ⟨q, Rq⟩ := rt_ex H hb.1 hb.2
    have rp := Rp.in H ha.1 ha.2
    have rq := Rq.in H hb.1 hb.2
    have tr : ∀ {x r}, rtM σ x r → rtM m x r := fun {x r} ⟨⟨k, hk⟩, nl⟩ => ⟨⟨k, by rw [em]; exact hk⟩, by rw [em]; exact nl⟩
    have c0 : ((2 * 1 : Nat) : Int) + (-2) = ((2 * 0 : Nat) : Int) := by decide
    have c1 : ((2 * 1 : Nat) : Int) + (-2) + 1 = ((2 * 0 + 1 : Nat) : Int) := by decide
    have sa : Rn (d + 10) yMo_realType [.ref 58, vi (m 87 (((2 * 1 : Nat) : Int) + (-2)))] m (some p) m := by rw [c0, m0]; exact s_real (d := d + 6) Hm ha.1 (by rw [oc]; exact ha.2) (tr Rp)
    have sb : Rn (d + 10) yMo_realType [.ref 58, vi (m 87 (((2 * 1 : Nat) : Int) + (-2) + 1))] m (some q) m := by rw [c1, m1]; exact s_real (d := d + 6) Hm hb.1 (by rw [oc]; exact hb.2) (tr Rq)
    have h3 : 2 ≤ ((2 * 1 : Nat) : Int) ∧ ((2 * 1 : Nat) : Int) ≤ 200 := by decide
    by_cases e : p = q
    · obtain ⟨σ', l, f, u⟩ := un_0 (d := d) Hm o44
      refine ⟨σ', un_eq h3 o44 sa (by rw [e]; exact sb) (by rw [c0]; exact l), f, UO.st rfl rfl (fun n ⟨i, hi, _⟩ => absurd hi (Nat.not_lt_zero i)) (fun ρ W => ?_) (fun ρ W i hi => absurd hi (Nat.not_lt_zero i)) u⟩
      rw [em] at W
      rw [prE_s, m0, m1, ← Rp.val H ha.1 ha.2 W, ← Rq.val H hb.1 hb.2 W, e]
      exact ⟨And.left, fun h => ⟨h, rfl⟩⟩
    · have wl : ∀ ρ, VS (mS σ).1 (mS σ).2.1 ρ → ∀ n, 0 ≤ n → n < σ 58 35 → gw (ν n) ≤ gw (ρ n) := fun ρ W => wid_le W0 Mi.1 W SSt Mi.2
      have kp := H.kd rp.1 rp.2
      obtain ⟨v9, m9, w9, f9, -, -, p9, q9⟩ := s_width (d := d + 4) (n := p) Hm (by rw [em]; exact Mi) rp.1 (by rw [oc]; exact rp.2)
      obtain ⟨H9, e9⟩ := f9.mt Hm
      have c9 : m9 58 35 = σ 58 35 := (f9.2 35 (by decide)).trans oc
      obtain ⟨v12, m12, w12, f12, -, -, p12, q12⟩ := s_width (d := d + 4) (n := q) H9 (by rw [e9, em]; exact Mi) rq.1 (by rw [c9]; exact rq.2)
      have F := f9.tr f12
      have va := Rp.val H ha.1 ha.2 Mi.1
      have vb := Rq.val H hb.1 hb.2 Mi.1
      by_cases g9 : 80 < v9
      · have big : 80 < gw (ν p) := by
          by_cases h : gw (ν p) ≤ 80
          · have := (p9 h).1; omega
          · omega
        obtain ⟨σ', a', f, il⟩ := un_86i (σ := m9) (d := d) (x3 := ((2 * 1 : Nat) : Int) + (-2)) (x4 := p) (x5 := q) (by decide) (by omega) (by omega) (by rw [f9.1 79 (by decide) (by decide), ob 79 (by decide)]; omega)
        refine ⟨σ', un_w1 h3 o44 sa sb e w9 g9 a', f9.fu.tr f, Or.inr ⟨il, fun ρ W _ => ⟨0, by omega, ?_⟩⟩⟩
        rw [em] at W
        have := wl ρ W p rp.1 rp.2
        rw [m0, ← Rp.val H ha.1 ha.2 W]; omega
      · have s9 : gw (ν p) ≤ 80 := by
          by_cases h : gw (ν p) ≤ 80
          · exact h
          · have := q9 (by omega); omega
        have big : 80 < gw (ν q) := by
          rw [va] at s9
          rw [vb]
          have : ¬ gw (ν b) ≤ 80 := fun h => sm ⟨s9, h⟩
          omega
        have g12 : 80 < v12 := q12 big
        obtain ⟨σ', a', f, il⟩ := un_86i (σ := m12) (d := d) (x3 := ((2 * 1 : Nat) : Int) + (-2)) (x4 := p) (x5 := q) (by decide) (by omega) (by omega) (by rw [F.1 79 (by decide) (by decide), ob 79 (by decide)]; omega)
        refine ⟨σ', un_w2 h3 o44 sa sb e w9 g9 w12 ⟨fun _ => a', fun h => absurd g12 h⟩, F.fu.tr f, Or.inr ⟨il, fun ρ W pr => ⟨0, by omega, ?_⟩⟩⟩
        rw [em] at W
        have := wl ρ W q rq.1 rq.2
        rw [pr 0 (by omega), m1, ← Rq.val H hb.1 hb.2 W]; omega
end MUE
