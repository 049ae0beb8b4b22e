/-! What is looked at: items of items; what the type's text tells of them. -/
/-- the kind of a value -/
def knd : Va → Int
  | .tag 0 _ => 0
  | .tag 1 _ => 1
  | .tag 2 _ => 2
  | .tag 3 _ => 3
  | .append _ _ => 3
  | _ => 4
def relV : Va → UInt64
  | .tag 2 (.nest z _) => UInt64.ofNat z.toNat
  | _ => FP.dconst0
def inIt : Va → Va → Prop
  | .append x w, u => u = x ∨ inIt w u
  | _, _ => False
/-- w is reached from v by k items -/
def itmV : Nat → Va → Va → Prop
  | 0, v, w => w = v
  | k + 1, v, w => ∃ u, inIt v u ∧ itmV k u w
section LOOK
variable {S : TS} {ρ : Int → GT} {n : Int} {cs : List Int} {T : Tr} {v w u : Va} {PR : UInt64 → Prop}
theorem itm_up : ∀ {k : Nat} {v w u : Va}, itmV k v w → inIt w u → itmV (k + 1) v u
  | 0, v, w, u, e, i => ⟨u, by rw [← (show w = v from e)]; exact i, rfl⟩
  | k + 1, v, w, u, ⟨x, i1, r⟩, i => ⟨x, i1, itm_up r i⟩
theorem VLs.it {P : Va → Prop} : ∀ {v : Va}, VLs P v → ∀ {u : Va}, inIt v u → P u := by
  intro v
  fun_induction VLs P v with
  | case1 x w ih =>
    intro h u i
    rcases i with rfl | i
    · exact h.1
    · exact ih h.2 i
  | case2 v hn =>
    intro h u i
    subst h
    exact i.elim
theorem in_ap {v u : Va} (h : inIt v u) : ∃ x w, v = vC x w := by
  unfold inIt at h
  split at h
  · exact ⟨_, _, rfl⟩
  · exact h.elim
/-- what a character tells of a value -/
def tellC (PR : UInt64 → Prop) (c : Int) (v : Va) : Prop := (knd v = 0 → c ≠ 98) ∧ (knd v = 1 → c = 98) ∧ (knd v = 2 → PR (relV v))
theorem knd_L {P : Va → Prop} {v : Va} (h : VLs P v) : knd v = 3 := by
  unfold VLs at h
  split at h
  · rfl
  · subst h; rfl
theorem knd_F {v : Va} (h : isFv v) : knd v = 4 := by
  unfold isFv at h
  split at h
  · rfl
  · rfl
  · rfl
  · exact h.elim
theorem tx_it (W : SO S) (I : ∃ ρ, VS S.1 S.2.1 ρ) : ∀ (k : Nat) (n : Int) (L cs L' : List Int) (v : Va) (j : Nat) (w : Va), 0 ≤ n → n < S.2.1 → Tx S.1 k n L cs L' → (∀ ρ, VS S.1 S.2.1 ρ → VTy PR (ρ n) 0 v) → itmV j v w → j < cs.length ∧ tellC PR (cs.getD j 0) w := by
  intro k
  induction k with
  | zero => intro n L cs L' v j w _ _ t; exact t.elim
  | succ k ih =>
    intro n L cs L' v j w h0 h1 t ty it
    rcases t with ⟨lk, t⟩ | ⟨nl, t⟩
    · have r := (W.1 n h0 h1).2.1 lk
      exact ih _ L cs L' v j w lk.2 r t (fun ρ V => by rw [← (V n h0 h1).1 lk]; exact ty ρ V) it
    · rcases t with ⟨k0, -⟩ | ⟨k1, rfl, -⟩ | ⟨k2, rfl, -⟩ | ⟨k3, rfl, -⟩ | ⟨k4, c1, t, rfl⟩ | ⟨k5, c1, L1, c2, -, -, rfl⟩
      · exfalso
        obtain ⟨ρ0, V0⟩ := I
        obtain ⟨ρ, V, e⟩ := ev_o W V0 (fun _ => .nil)
        have := ty ρ V
        rw [e n ⟨⟨h0, h1⟩, k0, nl⟩] at this
        exact this
      · obtain ⟨ρ, V⟩ := I
        have h := ty ρ V
        rw [(V n h0 h1).2.1 (by omega), k1] at h
        obtain ⟨z, rfl, -⟩ : isNv v := h
        cases j with
        | zero => cases (show w = vN z from it); exact ⟨(show 0 < 1 by decide), fun _ => (show ¬ (105 : Int) = 98 by decide), fun e => absurd e (show ¬ (0 : Int) = 1 by decide), fun e => absurd e (show ¬ (0 : Int) = 2 by decide)⟩
        | succ j => obtain ⟨u, i, -⟩ := it; exact i.elim
      · obtain ⟨ρ, V⟩ := I
        have h := ty ρ V
        rw [(V n h0 h1).2.1 (by omega), k2] at h
        have h : isBv v := h
        cases j with
        | zero =>
          cases (show w = v from it)
          have k1 : knd v = 1 := by rcases h with rfl | rfl <;> rfl
          exact ⟨(show 0 < 1 by decide), fun e => absurd (k1.symm.trans e) (by decide), fun _ => rfl, fun e => absurd (k1.symm.trans e) (by decide)⟩
        | succ j =>
          obtain ⟨u, i, -⟩ := it
          rcases h with rfl | rfl <;> exact i.elim
      · obtain ⟨ρ, V⟩ := I
        have h := ty ρ V
        rw [(V n h0 h1).2.1 (by omega), k3] at h
        obtain ⟨b, rfl, pb⟩ : isRv PR v := h
        cases j with
        | zero =>
          cases (show w = vR b from it)
          exact ⟨(show 0 < 1 by decide), fun e => absurd e (show ¬ (2 : Int) = 0 by decide), fun e => absurd e (show ¬ (2 : Int) = 1 by decide), fun _ => by
            have e : relV (vR b) = b := vR_at
            rw [e]; exact pb⟩
        | succ j => obtain ⟨u, i, -⟩ := it; exact i.elim
      · have r := (W.1 n h0 h1).2.2.1 k4
        have tl : ∀ ρ, VS S.1 S.2.1 ρ → VLs (VTy PR (ρ (S.1 n).2.1) 0) v := fun ρ V => by
          have h := ty ρ V
          rw [(V n h0 h1).2.2.1 k4] at h
          exact h
        cases j with
        | zero =>
          cases (show w = v from it)
          obtain ⟨ρ, V⟩ := I
          have h := knd_L (tl ρ V)
          exact ⟨by show 0 < _ + 1; omega, fun e => absurd (h.symm.trans e) (by decide), fun e => absurd (h.symm.trans e) (by decide), fun e => absurd (h.symm.trans e) (by decide)⟩
        | succ j =>
          obtain ⟨u, i, it⟩ := it
          obtain ⟨a, b⟩ := ih _ L c1 L' u j w r.1 r.2 t (fun ρ V => (tl ρ V).it i) it
          refine ⟨by show j + 1 < (c1 ++ [93]).length + 1; rw [List.length_append]; omega, ?_⟩
          show tellC PR ((c1 ++ [93]).getD j 0) w
          rw [List.getD_eq_getElem?_getD, List.getElem?_append_left a, ← List.getD_eq_getElem?_getD]
          exact b
      · obtain ⟨ρ, V⟩ := I
        have h := ty ρ V
        rw [(V n h0 h1).2.2.2 k5] at h
        have hf : isFv v := h.1
        cases j with
        | zero =>
          cases (show w = v from it)
          have h := knd_F hf
          exact ⟨by show 0 < _ + 1; omega, fun e => absurd (h.symm.trans e) (by decide), fun e => absurd (h.symm.trans e) (by decide), fun e => absurd (h.symm.trans e) (by decide)⟩
        | succ j =>
          obtain ⟨u, i, -⟩ := it
          obtain ⟨x, y, rfl⟩ := in_ap i
          exact hf.elim
/-- the text tells numbers and T, F apart -/
theorem typ_it (t : TYP T cs) (ty : ∀ s, tyE T false [] s → VTy PR s 0 v) {j : Nat} (it : itmV j v w) : j < cs.length ∧ tellC PR (cs.getD j 0) w := by
  obtain ⟨S, n, W, I, hn, H, k, L', t⟩ := t
  exact tx_it W I k n [] cs L' v j w hn.1 hn.2 t (fun ρ V => ty _ ((H _).mpr ⟨ρ, V, rfl⟩)) it
end LOOK
