/-! A type is copied node by node: what a copy is, and what its types are. -/
def rtS (S : TS) (x r : Int) : Prop := (∃ k, r = rv S.1 k x) ∧ ¬ lkd S.1 r
/-- a is what stands for x: the copy of where its links end, or that itself -/
def Cq (S : TS) (D : Int → Prop) (cp : Int → Int) (x a : Int) : Prop := ∃ r, rtS S x r ∧ ((D r ∧ a = cp r) ∨ (a = r ∧ ¬ D r ∧ ((1 ≤ (S.1 r).1 ∧ (S.1 r).1 ≤ 3) ∨ ((S.1 r).1 = 0 ∧ S.2.2 r ≠ 1000))))
/-- the nodes in D, all in x0, are copied -/
def CpT (S S' : TS) (D : Int → Prop) (cp : Int → Int) (x0 : Int) : Prop := S.2.1 ≤ S'.2.1 ∧ (∀ n, 0 ≤ n → n < S.2.1 → S'.1 n = S.1 n ∧ S'.2.2 n = S.2.2 n) ∧ (∀ t, D t → ((0 ≤ t ∧ t < S.2.1) ∧ Oc S.1 t x0 ∧ ¬ lkd S.1 t) ∧ (S.2.1 ≤ cp t ∧ cp t < S'.2.1) ∧ (((S.1 t).1 = 0 ∧ S.2.2 t = 1000 ∧ S'.1 (cp t) = (0, -1, 0) ∧ S'.2.2 (cp t) = 0) ∨ ((S.1 t).1 = 4 ∧ ∃ a, Cq S D cp (S.1 t).2.1 a ∧ S'.1 (cp t) = (4, a, 0)) ∨ ((S.1 t).1 = 5 ∧ ∃ a b, Cq S D cp (S.1 t).2.1 a ∧ Cq S D cp (S.1 t).2.2 b ∧ S'.1 (cp t) = (5, a, b)))) ∧ (∀ n, S.2.1 ≤ n → n < S'.2.1 → ∃ t, D t ∧ cp t = n) ∧ ∀ t t', D t → D t' → cp t = cp t' → t = t'
section MCP
variable {S S' : TS} {D : Int → Prop} {cp : Int → Int} {x x0 a r u : Int} {ρ ρ1 : Int → GT} {M : Int → Prop}
theorem rt_cs (R : rtS S x r) : (¬ lkd S.1 x ∧ r = x) ∨ (lkd S.1 x ∧ rtS S (S.1 x).2.1 r) := by
  obtain ⟨⟨k, e⟩, nl⟩ := R
  cases k with
  | zero =>
    have e : r = x := e
    exact Or.inl ⟨by rw [← e]; exact nl, e⟩
  | succ k =>
    unfold rv at e
    by_cases q : lkd S.1 x
    · rw [if_pos q] at e; exact Or.inr ⟨q, ⟨k, e⟩, nl⟩
    · rw [if_neg q] at e; exact Or.inl ⟨q, e⟩
theorem Cq.cs (c : Cq S D cp x a) (h : lkd S.1 x) : Cq S D cp (S.1 x).2.1 a := by
  obtain ⟨r, R, q⟩ := c
  rcases rt_cs R with ⟨z, -⟩ | ⟨-, z⟩
  · exact absurd h z
  · exact ⟨r, z, q⟩
theorem Cq.rt (c : Cq S D cp x a) (h : ¬ lkd S.1 x) : (D x ∧ a = cp x) ∨ (a = x ∧ ¬ D x ∧ ((1 ≤ (S.1 x).1 ∧ (S.1 x).1 ≤ 3) ∨ ((S.1 x).1 = 0 ∧ S.2.2 x ≠ 1000))) := by
  obtain ⟨r, R, q⟩ := c
  rcases rt_cs R with ⟨-, z⟩ | ⟨z, -⟩
  · rw [z] at q; exact q
  · exact absurd z h
theorem Cq.in (C : CpT S S' D cp x0) (W : WS S.1 S.2.1) (c : Cq S D cp x a) (h0 : 0 ≤ x) (h1 : x < S.2.1) : 0 ≤ a ∧ a < S'.2.1 := by
  obtain ⟨r, ⟨⟨k, e⟩, -⟩, q⟩ := c
  have i := rv_in W k x h0 h1
  rw [← e] at i
  have := C.1
  rcases q with ⟨q, e2⟩ | ⟨e2, -⟩
  · have := (C.2.2.1 r q).2.1
    rw [e2]; omega
  · omega
/-- the copy is a step -/
theorem cp_st (C : CpT S S' D cp x0) (W : SO S) (hc : 0 ≤ S.2.1) (lv : ∀ u, S'.2.2 u ≤ 1000) {h : Int} : TSt S S' M h := by
  obtain ⟨c1, c2, c3, c4, c5⟩ := C
  obtain ⟨W0, ⟨L, st, SSt⟩, -⟩ := W
  -- a new node
  have nw : ∀ n, S.2.1 ≤ n → n < S'.2.1 → (S'.1 n = (0, -1, 0)) ∨ (∃ a, (0 ≤ a ∧ a < S'.2.1) ∧ S'.1 n = (4, a, 0)) ∨ (∃ a b, (0 ≤ a ∧ a < S'.2.1) ∧ (0 ≤ b ∧ b < S'.2.1) ∧ S'.1 n = (5, a, b)) := by
    intro n h0 h1
    obtain ⟨t, d, e⟩ := c4 n h0 h1
    obtain ⟨⟨t0, -⟩, -, k⟩ := c3 t d
    have w := W0 t t0.1 t0.2
    rw [e] at k
    rcases k with ⟨-, -, k, -⟩ | ⟨k4, a, q, k⟩ | ⟨k5, a, b, q, q2, k⟩
    · exact Or.inl k
    · exact Or.inr (Or.inl ⟨a, q.in ⟨c1, c2, c3, c4, c5⟩ W0 (w.2.2.1 k4).1 (w.2.2.1 k4).2, k⟩)
    · exact Or.inr (Or.inr ⟨a, b, q.in ⟨c1, c2, c3, c4, c5⟩ W0 (w.2.2.2 k5).1.1 (w.2.2.2 k5).1.2, q2.in ⟨c1, c2, c3, c4, c5⟩ W0 (w.2.2.2 k5).2.1 (w.2.2.2 k5).2.2, k⟩)
  have nl : ∀ n, S.2.1 ≤ n → n < S'.2.1 → ¬ lkd S'.1 n := fun n h0 h1 q => by
    unfold lkd at q
    rcases nw n h0 h1 with k | ⟨a, -, k⟩ | ⟨a, b, -, -, k⟩
    · rw [k] at q; exact absurd q.2 (by decide)
    · rw [k] at q; exact absurd q.1 (by show ¬ (4 : Int) = 0; decide)
    · rw [k] at q; exact absurd q.1 (by show ¬ (5 : Int) = 0; decide)
  have lo : ∀ n, 0 ≤ n → n < S.2.1 → (lkd S'.1 n ↔ lkd S.1 n) := fun n h0 h1 => by unfold lkd; rw [(c2 n h0 h1).1]
  refine ⟨⟨fun n h0 h1 => ?_, ⟨L, st, fun n h0 h1 q => ?_⟩, fun u _ => lv u⟩, XE.add W0 c1 (fun n h0 h1 => (c2 n h0 h1).1) (fun n o => (c2 n o.1.1 o.1.2).2), fun ρ V n h0 h1 => ?_⟩
  · by_cases h : n < S.2.1
    · have w := W0 n h0 h
      unfold lkd at w ⊢
      rw [(c2 n h0 h).1]
      exact ⟨w.1, fun q => by have := w.2.1 q; omega, fun q => by have := w.2.2.1 q; omega, fun q => by have := w.2.2.2 q; omega⟩
    · refine ⟨?_, fun q => absurd q (nl n (by omega) h1), fun q => ?_, fun q => ?_⟩
      · rcases nw n (by omega) h1 with k | ⟨a, -, k⟩ | ⟨a, b, -, -, k⟩ <;> rw [k]
        · exact ⟨by decide, by decide⟩
        · exact ⟨by show (0 : Int) ≤ 4; decide, by show (4 : Int) ≤ 5; decide⟩
        · exact ⟨by show (0 : Int) ≤ 5; decide, by show (5 : Int) ≤ 5; decide⟩
      · rcases nw n (by omega) h1 with k | ⟨a, ha, k⟩ | ⟨a, b, -, -, k⟩ <;> rw [k] at q ⊢
        · exact absurd q (by decide)
        · exact ha
        · exact absurd q (by show ¬ (5 : Int) = 4; decide)
      · rcases nw n (by omega) h1 with k | ⟨a, -, k⟩ | ⟨a, b, ha, hb, k⟩ <;> rw [k] at q ⊢
        · exact absurd q (by decide)
        · exact absurd q (by show ¬ (4 : Int) = 5; decide)
        · exact ⟨ha, hb⟩
  · by_cases h : n < S.2.1
    · have q' := (lo n h0 h).mp q
      have z := SSt n h0 h q'
      rw [(c2 n h0 h).1]
      refine ⟨z.1, z.2.1, fun q2 => z.2.2 ((lo _ q'.2 ((W0 n h0 h).2.1 q')).mp q2)⟩
    · exact absurd q (nl n (by omega) h1)
  · have v := V n h0 (by omega)
    unfold nOk lkd at v ⊢
    rw [(c2 n h0 h1).1] at v
    exact v
/-- what the copy is, is a type of what was copied -/
theorem cp_so (C : CpT S S' D cp x0) (W : SO S) (hx : 0 ≤ x0 ∧ x0 < S.2.1) (V : VS S'.1 S'.2.1 ρ) (q : Cq S D cp x0 a) : Den S x0 ρ (ρ a) := by
  have C0 := C
  obtain ⟨c1, c2, c3, c4, c5⟩ := C
  have W' := W
  obtain ⟨W0, ⟨L, st, SSt⟩, -⟩ := W
  have VS0 : VS S.1 S.2.1 ρ := fun n h0 h1 => by
    have v := V n h0 (by omega)
    unfold nOk lkd at v ⊢
    rw [(c2 n h0 h1).1] at v
    exact v
  obtain ⟨α, a1, a2⟩ := mixV D (fun u => ρ (cp u)) ρ
  obtain ⟨ρ', V', e'⟩ := ev_o W' VS0 α
  have go : ∀ x, 0 ≤ x → x < S.2.1 → ∀ a, Cq S D cp x a → ρ' x = ρ a := by
    refine st_ind W0 V' SSt (fun n h0 h1 i1 i2 i3 a q => ?_)
    have g' := V' n h0 h1
    have g := VS0 n h0 h1
    by_cases l : lkd S.1 n
    · rw [g'.1 l]; exact i1 l a (q.cs l)
    · rcases q.rt l with ⟨d, e⟩ | ⟨e, nd, k | ⟨k, lv⟩⟩
      · obtain ⟨-, r', k⟩ := c3 n d
        have v := V (cp n) (by have := h0; omega) r'.2
        rw [e]
        rcases k with ⟨k0, -, -, -⟩ | ⟨k4, b, qb, kb⟩ | ⟨k5, b, b', qb, qb', kb⟩
        · rw [e' n ⟨⟨h0, h1⟩, k0, l⟩, a1 n d]
        · rw [g'.2.2.1 k4, i2 k4 b qb, v.2.2.1 (by rw [kb]), kb]
        · rw [g'.2.2.2 k5, (i3 k5).1 b qb, (i3 k5).2 b' qb', v.2.2.2 (by rw [kb]), kb]
      · rw [e, g'.2.1 k, g.2.1 k]
      · rw [e, e' n ⟨⟨h0, h1⟩, k, l⟩, a2 n nd]
  refine ⟨ρ', V', fun u o oc lv => ?_, go x0 hx.1 hx.2 a q⟩
  rw [e' u o, a2 u (fun d => ?_)]
  obtain ⟨-, -, k⟩ := c3 u d
  have ku := o.2.1
  rcases k with ⟨-, z, -⟩ | ⟨k, -⟩ | ⟨k, -⟩
  · exact lv z
  · omega
  · omega
/-- each type of what was copied is one of the copy -/
theorem cp_co (C : CpT S S' D cp x0) (W : SO S) (hx : 0 ≤ x0 ∧ x0 < S.2.1) {s : GT} (V : VS S.1 S.2.1 ρ) (z : Den S x0 ρ s) (q : Cq S D cp x0 a) : ∃ ρ', VS S'.1 S'.2.1 ρ' ∧ (∀ m, 0 ≤ m → m < S.2.1 → ρ' m = ρ m) ∧ ρ' a = s := by
  obtain ⟨c1, c2, c3, c4, c5⟩ := C
  obtain ⟨W0, -, -⟩ := W
  obtain ⟨ρ1, V1, ag, e1⟩ := z
  have ch : ∀ n, ∃ t, S.2.1 ≤ n → n < S'.2.1 → D t ∧ cp t = n := fun n => by
    by_cases h : S.2.1 ≤ n ∧ n < S'.2.1
    · obtain ⟨t, d⟩ := c4 n h.1 h.2; exact ⟨t, fun _ _ => d⟩
    · exact ⟨0, fun a b => absurd ⟨a, b⟩ h⟩
  have bk : ∃ bk : Int → Int, ∀ n, S.2.1 ≤ n → n < S'.2.1 → D (bk n) ∧ cp (bk n) = n := ⟨fun n => Classical.choose (ch n), fun n => Classical.choose_spec (ch n)⟩
  obtain ⟨bk, hb⟩ := bk
  obtain ⟨ρ', o1, o2⟩ := mixV (fun n => n < S.2.1) ρ (fun n => ρ1 (bk n))
  have cpv : ∀ t, D t → ρ' (cp t) = ρ1 t := fun t d => by
    obtain ⟨-, r, -⟩ := c3 t d
    rw [o2 (cp t) (by show ¬ cp t < S.2.1; omega)]
    obtain ⟨d2, e2⟩ := hb (cp t) r.1 r.2
    rw [c5 _ _ d2 d e2]
  -- what stands for a part
  have val : ∀ x a, 0 ≤ x → x < S.2.1 → Oc S.1 x x0 → Cq S D cp x a → ρ' a = ρ1 x := fun x a h0 h1 oc ⟨r, ⟨⟨k, e⟩, nl⟩, q⟩ => by
    have i := rv_in W0 k x h0 h1
    have vr := rv_val W0 V1 k x h0 h1
    have ocr : Oc S.1 r x := by rw [e]; exact oc_rt k x
    rw [← e] at i vr
    rcases q with ⟨d, ea⟩ | ⟨ea, nd, kd | ⟨kd, lv⟩⟩
    · rw [ea, cpv r d, vr]
    · rw [ea, o1 r i.2, ← vr, (V r i.1 i.2).2.1 kd, (V1 r i.1 i.2).2.1 kd]
    · rw [ea, o1 r i.2, ← vr, ag r ⟨i, kd, nl⟩ (ocr.tr oc) lv]
  refine ⟨ρ', fun n h0 h1 => ?_, fun m _ h1 => o1 m h1, by rw [val x0 a hx.1 hx.2 Oc.self q, e1]⟩
  by_cases h : n < S.2.1
  · have v := V n h0 h
    have w := W0 n h0 h
    unfold nOk lkd at v ⊢
    unfold lkd at w
    rw [(c2 n h0 h).1, o1 n h]
    refine ⟨fun q => ?_, v.2.1, fun q => ?_, fun q => ?_⟩
    · rw [o1 _ (w.2.1 q)]; exact v.1 q
    · rw [o1 _ (w.2.2.1 q).2]; exact v.2.2.1 q
    · rw [o1 _ (w.2.2.2 q).1.2, o1 _ (w.2.2.2 q).2.2]; exact v.2.2.2 q
  · obtain ⟨d, e⟩ := hb n (by omega) h1
    obtain ⟨⟨t0, oc, nl⟩, -, k⟩ := c3 _ d
    have w := W0 _ t0.1 t0.2
    have v1 := V1 _ t0.1 t0.2
    have cv := cpv _ d
    rw [e] at k cv
    unfold nOk lkd
    rw [cv]
    rcases k with ⟨k0, -, k, -⟩ | ⟨k4, b, qb, k⟩ | ⟨k5, b, b', qb, qb', k⟩ <;> rw [k]
    · exact ⟨fun q => absurd q.2 (by decide), fun q => absurd q.1 (by decide), fun q => absurd q (by decide), fun q => absurd q (by decide)⟩
    · refine ⟨fun q => absurd q.1 (by show ¬ (4 : Int) = 0; decide), fun q => absurd q.2 (by show ¬ (4 : Int) ≤ 3; decide), fun _ => ?_, fun q => absurd q (by show ¬ (4 : Int) = 5; decide)⟩
      rw [v1.2.2.1 k4]
      show gL _ = gL (ρ' b)
      rw [val _ b (w.2.2.1 k4).1 (w.2.2.1 k4).2 ((Oc.p4 k4 Oc.self).tr oc) qb]
    · refine ⟨fun q => absurd q.1 (by show ¬ (5 : Int) = 0; decide), fun q => absurd q.2 (by show ¬ (5 : Int) ≤ 3; decide), fun q => absurd q (by show ¬ (5 : Int) = 4; decide), fun _ => ?_⟩
      rw [v1.2.2.2 k5]
      show gA _ _ = gA (ρ' b) (ρ' b')
      rw [val _ b (w.2.2.2 k5).1.1 (w.2.2.2 k5).1.2 ((Oc.p5 k5 (Or.inl Oc.self)).tr oc) qb, val _ b' (w.2.2.2 k5).2.1 (w.2.2.2 k5).2.2 ((Oc.p5 k5 (Or.inr Oc.self)).tr oc) qb']
/-- the variables of the copy -/
theorem cp_v (C : CpT S S' D cp x0) (W : SO S) (hx : 0 ≤ x0 ∧ x0 < S.2.1) : ∀ (k : Nat) (x a : Int), (0 ≤ x ∧ x < S.2.1) → Oc S.1 x x0 → Cq S D cp x a → oP S' u → oc S'.1 u k a → (S.2.1 ≤ u ∧ S'.2.2 u = 0) ∨ (oP S u ∧ Oc S.1 u x0 ∧ S.2.2 u ≠ 1000) := by
  obtain ⟨c1, c2, c3, c4, c5⟩ := C
  obtain ⟨W0, -, -⟩ := W
  intro k
  induction k with
  | zero => intro x a _ _ _ _ h; exact h.elim
  | succ k ih =>
    intro x a hx oc q o h
    obtain ⟨r, ⟨⟨j, e⟩, nl⟩, q⟩ := q
    have i := rv_in W0 j x hx.1 hx.2
    have ocr : Oc S.1 r x := by rw [e]; exact oc_rt j x
    rw [← e] at i
    rcases q with ⟨d, ea⟩ | ⟨ea, nd, kd⟩
    · obtain ⟨⟨t0, oct, -⟩, r', kk⟩ := c3 r d
      have w := W0 r i.1 i.2
      rw [ea] at h
      rcases h with h | ⟨l, -⟩ | ⟨k4, h⟩ | ⟨k5, h⟩
      · left
        rw [← h]
        rcases kk with ⟨-, -, -, z⟩ | ⟨-, b, -, kb⟩ | ⟨-, b, b', -, -, kb⟩
        · exact ⟨r'.1, z⟩
        · have z := o.2.1
          rw [← h, kb] at z
          exact absurd z (by show ¬ (4 : Int) = 0; decide)
        · have z := o.2.1
          rw [← h, kb] at z
          exact absurd z (by show ¬ (5 : Int) = 0; decide)
      · exfalso
        unfold lkd at l
        rcases kk with ⟨-, -, kb, -⟩ | ⟨-, b, -, kb⟩ | ⟨-, b, b', -, -, kb⟩ <;> rw [kb] at l
        · exact absurd l.2 (by decide)
        · exact absurd l.1 (by show ¬ (4 : Int) = 0; decide)
        · exact absurd l.1 (by show ¬ (5 : Int) = 0; decide)
      · rcases kk with ⟨-, -, kb, -⟩ | ⟨k4', b, qb, kb⟩ | ⟨-, b, b', -, -, kb⟩ <;> rw [kb] at k4 h
        · exact absurd k4 (by decide)
        · exact ih _ b (w.2.2.1 k4') ((Oc.p4 k4' Oc.self).tr oct) qb o h
        · exact absurd k4 (by show ¬ (5 : Int) = 4; decide)
      · rcases kk with ⟨-, -, kb, -⟩ | ⟨-, b, -, kb⟩ | ⟨k5', b, b', qb, qb', kb⟩ <;> rw [kb] at k5 h
        · exact absurd k5 (by decide)
        · exact absurd k5 (by show ¬ (4 : Int) = 5; decide)
        · rcases h with h | h
          · exact ih _ b (w.2.2.2 k5').1 ((Oc.p5 k5' (Or.inl Oc.self)).tr oct) qb o h
          · exact ih _ b' (w.2.2.2 k5').2 ((Oc.p5 k5' (Or.inr Oc.self)).tr oct) qb' o h
    · have er := (c2 r i.1 i.2).1
      rw [ea] at h
      have hr : r = u := by
        rcases h with h | ⟨l, -⟩ | ⟨k4, -⟩ | ⟨k5, -⟩
        · exact h
        · unfold lkd at l nl; rw [er] at l; exact absurd l nl
        · rw [er] at k4; omega
        · rw [er] at k5; omega
      have k0 := o.2.1
      rw [← hr, er] at k0
      rw [← hr]
      refine Or.inr ⟨⟨i, k0, nl⟩, ocr.tr oc, ?_⟩
      rcases kd with kd | kd
      · omega
      · exact kd.2
/-- the copy as a result -/
theorem cp_r (C : CpT S S' D cp x0) (W : SO S) (hx : 0 ≤ x0 ∧ x0 < S.2.1) (l01 : ∀ u, S.2.2 u = 1000 ∨ S.2.2 u = 0) (l0 : ∀ u, 0 ≤ S'.2.2 u) (q : Cq S D cp x0 a) (g : gO S 1000 M x0) : Res S M 0 S' a := by
  have cv := fun u (o : oP S' u) (h : Oc S'.1 u a) => (by
    obtain ⟨k, h⟩ := h
    exact cp_v C W hx k x0 a hx Oc.self q o h : (S.2.1 ≤ u ∧ S'.2.2 u = 0) ∨ (oP S u ∧ Oc S.1 u x0 ∧ S.2.2 u ≠ 1000))
  refine ⟨q.in C W.1 hx.1 hx.2, fun u o h => ?_, fun l X hl _ _ u o h lt => ?_, fun _ u o h => ?_⟩
  · rcases cv u o h with z | ⟨z1, z2, z3⟩
    · exact Or.inl z.1
    · refine Or.inr ⟨z1, g u z1 z2 ?_⟩
      have := l01 u
      omega
  · have := l0 u
    omega
  · rcases cv u o h with z | ⟨z1, z2, z3⟩
    · omega
    · rw [(C.2.1 u z1.1.1 z1.1.2).2]
      have := l01 u
      omega
end MCP
