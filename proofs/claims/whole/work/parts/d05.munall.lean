/-! The model's unify: parts of a pair; all pairs; one pair. -/
section MUC
variable {σ σ' σ1 m : Mem} {d : Nat} {μ ρ : Int → GT} {R : Int → Prop} {j : Nat}
/-- two roots of one kind -/
theorem un_cm {N w : Nat} (ih : ∀ w', w' < w → UnG d R N w') (H : MT m) (V : VS (mS m).1 (mS m).2.1 μ) (hu : ucn m (m 58 35).toNat ≤ N) (hs : sL μ (m 87) (j + 1) ≤ w) (hp : ∀ i : Nat, i < 2 * (j + 1) → R (m 87 i)) (C : RC m R) (Q : QI m R (j + 1)) (hj : j ≤ 40) {p q : Int} (Rp : R p) (Rq : R q) (kp : m 79 p ≠ 0) (kk : m 79 p = m 79 q) (op : Oc (mS m).1 p (m 87 ((2 * j : Nat) : Int))) (oq : Oc (mS m).1 q (m 87 ((2 * j + 1 : Nat) : Int))) (ep : ∀ ρ, VS (mS m).1 (mS m).2.1 ρ → ρ p = ρ (m 87 ((2 * j : Nat) : Int)) ∧ ρ q = ρ (m 87 ((2 * j + 1 : Nat) : Int))) : ∃ σ', B_Mo_unify_235 (d + 7) ((2 * j : Nat) : Int) p q 0 m none σ' ∧ FU m σ' ∧ UO m σ' (j + 1) := by
  have hcc := H.2.1
  have rp := (C.1 p Rp).1
  have rq := (C.1 q Rq).1
  generalize hm5 : mup (mup (mup (mup (mup m 58 44 0) 87 ((2 * j : Nat) : Int) (m 80 p)) 87 (((2 * j : Nat) : Int) + 1) (m 80 q)) 87 (((2 * j : Nat) : Int) + 2) (m 81 p)) 87 (((2 * j : Nat) : Int) + 3) (m 81 q) = m5
  have ob : ∀ i, i ≠ 87 → i ≠ 58 → m5 i = m i := fun i h1 h2 => by rw [← hm5, mup_obj h1, mup_obj h1, mup_obj h1, mup_obj h1, mup_obj h2]
  have k58 : ∀ k, k ≠ 44 → m5 58 k = m 58 k := fun k h => by rw [← hm5, mup_ne (by decide), mup_ne (by decide), mup_ne (by decide), mup_ne (by decide), mup_nk h]
  have k44 : m5 58 44 = 0 := by rw [← hm5, mup_ne (by decide), mup_ne (by decide), mup_ne (by decide), mup_ne (by decide), mup_eq]
  have o79 := ob 79 (by decide) (by decide)
  have o80 := ob 80 (by decide) (by decide)
  have o81 := ob 81 (by decide) (by decide)
  have o82 := ob 82 (by decide) (by decide)
  have oc := k58 35 (by decide)
  obtain ⟨H5, e5⟩ := H.cg o79 o80 o81 o82 oc
  have C5 := C.cg o79 o80 o81 oc e5
  have lo : ∀ i : Nat, i < 2 * j → m5 87 i = m 87 i := fun i hi => by rw [← hm5, mup_nk (by omega), mup_nk (by omega), mup_nk (by omega), mup_nk (by omega), mup_ne (by decide)]
  have v0 : m5 87 ((2 * j : Nat) : Int) = m 80 p := by rw [← hm5, mup_nk (by omega), mup_nk (by omega), mup_nk (by omega), mup_eq]
  have v1 : m5 87 ((2 * j + 1 : Nat) : Int) = m 80 q := by
    have e : ((2 * j + 1 : Nat) : Int) = ((2 * j : Nat) : Int) + 1 := by omega
    rw [e, ← hm5, mup_nk (by omega), mup_nk (by omega), mup_eq]
  have v2 : m5 87 ((2 * (j + 1) : Nat) : Int) = m 81 p := by
    have e : ((2 * (j + 1) : Nat) : Int) = ((2 * j : Nat) : Int) + 2 := by omega
    rw [e, ← hm5, mup_nk (by omega), mup_eq]
  have v3 : m5 87 ((2 * (j + 1) + 1 : Nat) : Int) = m 81 q := by
    have e : ((2 * (j + 1) + 1 : Nat) : Int) = ((2 * j : Nat) : Int) + 3 := by omega
    rw [e, ← hm5, mup_eq]
  have fu : FU m m5 := by rw [← hm5]; exact (((FU.m44.tr FU.m87).tr FU.m87).tr FU.m87).tr FU.m87
  have hu5 : ucn m5 (m5 58 35).toNat ≤ N := by rw [oc, ucn_cg o79 o80]; exact hu
  have V5 : VS (mS m5).1 (mS m5).2.1 μ := by rw [e5]; exact V
  have s0 : sL μ (m5 87) j = sL μ (m 87) j := sL_cg j lo
  have g0 := sL_0 (μ := μ) (p := m 87) j
  have hs : sL μ (m 87) j + gw (μ (m 87 ((2 * j : Nat) : Int))) ≤ w := hs
  have gp : gw (μ p) = gw (μ (m 87 ((2 * j : Nat) : Int))) := by rw [(ep μ V).1]
  obtain ⟨c, q1, q2, q3⟩ := Q
  have l0 : ∀ n, Oc (mS m).1 n p → ∃ x, stk m (j + 1) x ∧ Oc (mS m).1 n x := fun n a => ⟨_, ⟨2 * j, by omega, rfl⟩, a.tr op⟩
  have l1 : ∀ n, Oc (mS m).1 n q → ∃ x, stk m (j + 1) x ∧ Oc (mS m).1 n x := fun n a => ⟨_, ⟨2 * j + 1, by omega, rfl⟩, a.tr oq⟩
  have ls : ∀ i : Nat, i < 2 * j → ∃ x, stk m (j + 1) x ∧ Oc (mS m).1 (m5 87 i) x := fun i hi => ⟨m 87 i, ⟨i, by omega, rfl⟩, by rw [lo i hi]; exact Oc.self⟩
  have kd := H.kd rp.1 rp.2
  have hB : ∀ σ', (m 79 p ≤ 3 → Lb (d + 10) yMo_unify 16 [(0, .ref 58), (3, vi (((2 * j : Nat) : Int) + 0))] [] m5 none σ') → (¬ m 79 p ≤ 3 → Lb (d + 10) yMo_unify 16 [(0, .ref 58), (3, vi (((2 * j : Nat) : Int) + (2 * m 79 p - 6)))] [] m5 none σ') → B_Mo_unify_235 (d + 7) ((2 * j : Nat) : Int) p q 0 m none σ' := fun σ' h1 h2 => by
    unfold B_Mo_unify_235
    refine ⟨Or.inl rfl, ⟨by omega, by omega⟩, ⟨by omega, by omega⟩, ⟨by omega, by omega⟩, ⟨by omega, by omega⟩, ⟨by omega, by omega⟩, ⟨by omega, by omega⟩, ⟨by omega, by omega⟩, ⟨by omega, by omega⟩, ⟨by omega, by omega⟩, ?_⟩
    rw [hm5]
    by_cases c : m 79 p ≤ 3
    · rw [if_pos c]; exact ⟨⟨by omega, by omega⟩, h1 c⟩
    · rw [if_neg c]; exact ⟨⟨by omega, by omega⟩, ⟨by omega, by omega⟩, ⟨by omega, by omega⟩, h2 c⟩
  by_cases k3 : m 79 p ≤ 3
  · -- the kinds tell all
    have gp1 := gw_ge (t := μ (m 87 ((2 * j : Nat) : Int)))
    obtain ⟨σ', l, f, u⟩ := ih (sL μ (m5 87) j).toNat (by omega) j m5 μ H5 V5 hu5 (by omega) k44 (fun i hi => by rw [lo i hi]; exact hp i (by omega)) C5 ⟨c, fun i hi => by rw [o79]; exact q1 i (by omega), fun i hi k h1 h2 => by rw [e5, o81, lo (2 * k) (by omega)]; exact q2 i (by omega) k h1 (by omega), fun i hi => by rw [e5, o81]; exact q3 i (by omega)⟩
    have e : ((2 * j : Nat) : Int) + 0 = ((2 * j : Nat) : Int) := by omega
    refine ⟨σ', hB σ' (fun _ => by rw [e]; exact l) (fun h => absurd k3 h), fu.tr f, UO.st e5 oc (fun n ⟨i, hi, en⟩ => by rw [en]; exact ls i hi) (fun ρ W => ?_) (fun ρ W i hi g => ⟨i, by omega, by rw [lo (2 * i) (by omega)] at g; exact g⟩) u⟩
    rw [prE_s, prE_cg lo]
    have a1 := (W p rp.1 rp.2).2.1 ⟨by show 1 ≤ m 79 p; omega, k3⟩
    have a2 := (W q rq.1 rq.2).2.1 ⟨by show 1 ≤ m 79 q; omega, by show m 79 q ≤ 3; omega⟩
    have e2 : ρ p = ρ q := by
      rw [a1, a2]; show gK (m 79 p) = gK (m 79 q); rw [kk]
    have z := ep ρ W
    exact ⟨And.left, fun h => ⟨h, by rw [← z.1, ← z.2, e2]⟩⟩
  · by_cases k4 : m 79 p = 4
    · -- lists
      have r4 := (C.1 p Rp).2.2.1 k4
      have s4 := (C.1 q Rq).2.2.1 (by omega)
      have val : ∀ ρ, VS (mS m).1 (mS m).2.1 ρ → ρ p = gL (ρ (m 80 p)) ∧ ρ q = gL (ρ (m 80 q)) := fun ρ W => ⟨(W p rp.1 rp.2).2.2.1 k4, (W q rq.1 rq.2).2.2.1 (by show m 79 q = 4; omega)⟩
      have gl : gw (μ p) = 2 + gw (μ (m 80 p)) := by rw [(val μ V).1]; rfl
      have s1 : sL μ (m5 87) (j + 1) = sL μ (m 87) j + gw (μ (m 80 p)) := by
        show sL μ (m5 87) j + gw (μ (m5 87 ((2 * j : Nat) : Int))) = _
        rw [s0, v0]
      have g2 := gw_ge (t := μ (m 80 p))
      have ro : Oc (mS m).1 (m 80 p) p := Oc.p4 k4 Oc.self
      have rs : Oc (mS m).1 (m 80 q) q := Oc.p4 (show m 79 q = 4 by omega) Oc.self
      obtain ⟨σ', l, f, u⟩ := ih (sL μ (m5 87) (j + 1)).toNat (by omega) (j + 1) m5 μ H5 V5 hu5 (by omega) k44 (fun i hi => by
          by_cases h : i < 2 * j
          · rw [lo i h]; exact hp i (by omega)
          · by_cases h2 : i = 2 * j
            · rw [h2, v0]; exact r4
            · rw [show i = 2 * j + 1 by omega, v1]; exact s4) C5 ⟨c, fun i hi => by rw [o79]; exact q1 i hi, fun i hi k h1 h2 => by
          rw [e5, o81]
          by_cases h : k < j
          · rw [lo (2 * k) (by omega)]; exact q2 i hi k h1 h2
          · have h3 := q2 i hi j (by omega) (by omega)
            rw [show k = j by omega, v0]
            exact (ro.tr op).tr h3, fun i hi => by rw [e5, o81]; exact q3 i hi⟩
      have e : ((2 * j : Nat) : Int) + (2 * m 79 p - 6) = ((2 * (j + 1) : Nat) : Int) := by omega
      refine ⟨σ', hB σ' (fun h => absurd h k3) (fun _ => by rw [e]; exact l), fu.tr f, UO.st e5 oc ?_ ?_ ?_ u⟩
      · intro n ⟨i, hi, en⟩
        rw [en]
        by_cases h : i < 2 * j
        · exact ls i h
        · by_cases h2 : i = 2 * j
          · rw [h2, v0]; exact l0 _ ro
          · rw [show i = 2 * j + 1 by omega, v1]; exact l1 _ rs
      · intro ρ W
        rw [prE_s, prE_s, prE_cg lo, v0, v1, ← (ep ρ W).1, ← (ep ρ W).2, (val ρ W).1, (val ρ W).2, gL_inj]
      · intro ρ W i hi g
        refine ⟨i, by omega, ?_⟩
        by_cases h : i < j
        · rw [lo (2 * i) (by omega)] at g; exact g
        · have ei : i = j := by omega
          rw [ei] at g ⊢
          rw [v0] at g
          rw [← (ep ρ W).1, (val ρ W).1]
          intro h2
          have h2 : 2 + gw (ρ (m 80 p)) ≤ 80 := h2
          omega
    · -- functions
      have k5 : m 79 p = 5 := by omega
      have k5q : m 79 q = 5 := by omega
      have r5 := (C.1 p Rp).2.2.2 k5
      have s5 := (C.1 q Rq).2.2.2 k5q
      have e81 : ∀ n, m 79 n = 5 → ((mS m).1 n).2.2 = m 81 n := fun n k => by show (if m 79 n = 5 then m 81 n else 0) = _; rw [if_pos k]
      have val : ∀ ρ, VS (mS m).1 (mS m).2.1 ρ → ρ p = gA (ρ (m 80 p)) (ρ (m 81 p)) ∧ ρ q = gA (ρ (m 80 q)) (ρ (m 81 q)) := fun ρ W => by
        have a := (W p rp.1 rp.2).2.2.2 k5
        have b := (W q rq.1 rq.2).2.2.2 k5q
        rw [e81 p k5] at a
        rw [e81 q k5q] at b
        exact ⟨a, b⟩
      have ga : gw (μ p) = 3 + gw (μ (m 80 p)) + gw (μ (m 81 p)) := by rw [(val μ V).1]; rfl
      have s1 : sL μ (m5 87) (j + 2) = sL μ (m 87) j + gw (μ (m 80 p)) + gw (μ (m 81 p)) := by
        show sL μ (m5 87) j + gw (μ (m5 87 ((2 * j : Nat) : Int))) + gw (μ (m5 87 ((2 * (j + 1) : Nat) : Int))) = _
        rw [s0, v0, v2]
      have g2 := gw_ge (t := μ (m 80 p))
      have g3 := gw_ge (t := μ (m 81 p))
      have ro : Oc (mS m).1 (m 80 p) p := Oc.p5 k5 (Or.inl Oc.self)
      have ro2 : Oc (mS m).1 (m 81 p) p := Oc.p5 k5 (Or.inr (by rw [e81 p k5]; exact Oc.self))
      have rs : Oc (mS m).1 (m 80 q) q := Oc.p5 k5q (Or.inl Oc.self)
      have rs2 : Oc (mS m).1 (m 81 q) q := Oc.p5 k5q (Or.inr (by rw [e81 q k5q]; exact Oc.self))
      obtain ⟨c', hc1, hc2⟩ : ∃ c' : Nat → Int, c' j = p ∧ ∀ i, i ≠ j → c' i = c i := ⟨fun i => if i = j then p else c i, if_pos rfl, fun i h => if_neg h⟩
      obtain ⟨σ', l, f, u⟩ := ih (sL μ (m5 87) (j + 2)).toNat (by omega) (j + 2) m5 μ H5 V5 hu5 (by omega) k44 (fun i hi => by
          by_cases h : i < 2 * j
          · rw [lo i h]; exact hp i (by omega)
          · by_cases h2 : i = 2 * j
            · rw [h2, v0]; exact r5.1
            · by_cases h3 : i = 2 * j + 1
              · rw [h3, v1]; exact s5.1
              · by_cases h4 : i = 2 * (j + 1)
                · rw [h4, v2]; exact r5.2
                · rw [show i = 2 * (j + 1) + 1 by omega, v3]; exact s5.2) C5 ⟨c', fun i hi => by
          rw [o79]
          by_cases h : i = j
          · rw [h, hc1]; exact ⟨k5, Rp⟩
          · rw [hc2 i h]; exact q1 i (by omega), fun i hi k h1 h2 => by
          rw [e5, o81]
          by_cases h : i = j
          · rw [h, hc1, show k = j + 1 by omega, v2]; exact Oc.self
          · rw [hc2 i h]
            by_cases h3 : k < j
            · rw [lo (2 * k) (by omega)]; exact q2 i (by omega) k h1 (by omega)
            · have h4 := q2 i (by omega) j (by omega) (by omega)
              by_cases h5 : k = j
              · rw [h5, v0]; exact (ro.tr op).tr h4
              · rw [show k = j + 1 by omega, v2]; exact (ro2.tr op).tr h4, fun i hi => by
          rw [e5, o81, hc2 i (by omega)]
          by_cases h : i + 1 = j
          · rw [h, hc1]; exact op.tr (q2 i (by omega) j (by omega) (by omega))
          · rw [hc2 _ h]; exact q3 i (by omega)⟩
      have e : ((2 * j : Nat) : Int) + (2 * m 79 p - 6) = ((2 * (j + 2) : Nat) : Int) := by omega
      refine ⟨σ', hB σ' (fun h => absurd h k3) (fun _ => by rw [e]; exact l), fu.tr f, UO.st e5 oc ?_ ?_ ?_ u⟩
      · intro n ⟨i, hi, en⟩
        rw [en]
        by_cases h : i < 2 * j
        · exact ls i h
        · by_cases h2 : i = 2 * j
          · rw [h2, v0]; exact l0 _ ro
          · by_cases h3 : i = 2 * j + 1
            · rw [h3, v1]; exact l1 _ rs
            · by_cases h4 : i = 2 * (j + 1)
              · rw [h4, v2]; exact l0 _ ro2
              · rw [show i = 2 * (j + 1) + 1 by omega, v3]; exact l1 _ rs2
      · intro ρ W
        rw [prE_s, prE_s, prE_s, prE_cg lo, v0, v1, v2, v3, ← (ep ρ W).1, ← (ep ρ W).2, (val ρ W).1, (val ρ W).2, gA_inj, and_assoc]
      · intro ρ W i hi g
        by_cases h : i < j
        · rw [lo (2 * i) (by omega)] at g; exact ⟨i, by omega, g⟩
        · refine ⟨j, by omega, fun h2 => g ?_⟩
          rw [← (ep ρ W).1, (val ρ W).1] at h2
          have h2 : 3 + gw (ρ (m 80 p)) + gw (ρ (m 81 p)) ≤ 80 := h2
          have g4 := gw_ge (t := ρ (m 80 p))
          have g5 := gw_ge (t := ρ (m 81 p))
          by_cases ei : i = j
          · rw [ei, v0]; omega
          · rw [show i = j + 1 by omega, v2]; omega
end MUC
