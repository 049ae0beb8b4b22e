/-! The class's types: the copy of one general variable. -/
section CPL
variable {σ σ0 σ1 σ' : Mem} {d : Nat} {h : Int}
theorem TI.cg (T : TI σ) (h40 : σ' 40 = σ 40) (h42 : σ' 42 = σ 42) (h44 : σ' 44 = σ 44) (h5 : σ' 38 5 = σ 38 5) : TI σ' ∧ tS σ' = tS σ := by
  have e : cS σ' = cS σ := by unfold cS; rw [h40, h42, h44]
  unfold TI CI LG Op tS
  rw [e, h40, h42, h44, h5]
  exact ⟨T, rfl⟩
theorem pl_l {v : Int} (hv : rg v) (hl : 0 ≤ σ 38 6 ∧ σ 38 6 ≤ 20) : ∀ (k : Nat) (j : Int), (k : Int) + j = σ 38 6 → 0 ≤ j → (∀ i, 0 ≤ i → i < j → σ 46 i ≠ v) → (∃ i, (0 ≤ i ∧ i < σ 38 6) ∧ σ 46 i = v ∧ Lb (d + 3) yTy_placeOf 2 [(0, .ref 38), (1, vi v), (2, vi j)] [] σ (some i) σ) ∨ ((∀ i, 0 ≤ i → i < σ 38 6 → σ 46 i ≠ v) ∧ (σ 38 6 < 20 → Lb (d + 3) yTy_placeOf 2 [(0, .ref 38), (1, vi v), (2, vi j)] [] σ (some (σ 38 6)) (mup (mup (mup σ 46 (σ 38 6) v) 48 (σ 38 6) (-1)) 38 6 (σ 38 6 + 1))))
  | 0, j, hk, hj, hh => by
    have e : j = σ 38 6 := by omega
    subst e
    refine Or.inr ⟨hh, fun q => K_Ty_placeOf_2 hv ⟨by omega, by omega⟩ ?_⟩
    unfold B_Ty_placeOf_2
    rw [if_pos (Int.le_refl _), rows_in hl.1 (by omega), rows_in hl.1 (by omega)]
    exact ⟨⟨by omega, by omega⟩, ⟨by omega, by omega⟩, by rw [show σ 38 6 + 1 - 1 = σ 38 6 by omega], rfl⟩
  | k + 1, j, hk, hj, hh => by
    have rv : rowv 20 σ 46 j = σ 46 j := if_pos ⟨hj, by show j < 20; omega⟩
    by_cases q : σ 46 j = v
    · refine Or.inl ⟨j, ⟨hj, by omega⟩, q, K_Ty_placeOf_2 hv ⟨by omega, by omega⟩ ?_⟩
      unfold B_Ty_placeOf_2
      rw [if_neg (by omega), rv, if_neg (fun z => z q)]
      exact ⟨rfl, rfl⟩
    · have st : ∀ {o : Option Int} {σ' : Mem}, Lb (d + 3) yTy_placeOf 2 [(0, .ref 38), (1, vi v), (2, vi (j + 1))] [] σ o σ' → Lb (d + 3) yTy_placeOf 2 [(0, .ref 38), (1, vi v), (2, vi j)] [] σ o σ' := fun L => by
        refine K_Ty_placeOf_2 hv ⟨by omega, by omega⟩ ?_
        unfold B_Ty_placeOf_2
        rw [if_neg (by omega), rv, if_pos q]
        exact ⟨⟨by omega, by omega⟩, L⟩
      rcases pl_l hv hl k (j + 1) (by omega) (by omega) (fun i a b => by
        by_cases e : i = j
        · rw [e]; exact q
        · exact hh i a (by omega)) with ⟨i, a, b, c⟩ | ⟨a, b⟩
      · exact Or.inl ⟨i, a, b, st c⟩
      · exact Or.inr ⟨a, fun z => st (b z)⟩
theorem s_placeOf {v : Int} (hv : rg v) (hl : 0 ≤ σ 38 6 ∧ σ 38 6 ≤ 20) : (∃ i, (0 ≤ i ∧ i < σ 38 6) ∧ σ 46 i = v ∧ Rn (d + 4) yTy_placeOf [.ref 38, vi v] σ (some i) σ) ∨ ((∀ i, 0 ≤ i → i < σ 38 6 → σ 46 i ≠ v) ∧ (σ 38 6 < 20 → Rn (d + 4) yTy_placeOf [.ref 38, vi v] σ (some (σ 38 6)) (mup (mup (mup σ 46 (σ 38 6) v) 48 (σ 38 6) (-1)) 38 6 (σ 38 6 + 1)))) := by
  rcases pl_l (d := d) hv hl (σ 38 6).toNat 0 (by omega) (Int.le_refl _) (fun i a b => by omega) with ⟨i, a, b, c⟩ | ⟨a, b⟩
  · exact Or.inl ⟨i, a, b, M_Ty_placeOf hv c⟩
  · exact Or.inr ⟨a, fun z => M_Ty_placeOf hv (b z)⟩
/-- while a type is copied: the store has grown, and each listed variable has a copy of its own -/
def GL (σ0 : Mem) (h : Int) (σ : Mem) : Prop := TI σ ∧ σ0 38 5 ≤ σ 38 5 ∧ (∀ n, 0 ≤ n → n < σ0 38 5 → σ 40 n = σ0 40 n ∧ σ 42 n = σ0 42 n ∧ σ 44 n = σ0 44 n) ∧ (0 ≤ σ 38 6 ∧ σ 38 6 ≤ 20) ∧ (∀ i, 0 ≤ i → i < σ 38 6 → (Op σ0 (σ 46 i) ∧ σ0 44 (σ 46 i) = 1000) ∧ σ0 38 5 ≤ σ 48 i ∧ Op σ (σ 48 i) ∧ σ 44 (σ 48 i) = h) ∧ ∀ i j, (0 ≤ i ∧ i < σ 38 6) → (0 ≤ j ∧ j < σ 38 6) → (σ 46 i = σ 46 j ∨ σ 48 i = σ 48 j) → i = j
/-- what a step of the copying changes -/
def GX (σ σ' : Mem) : Prop := (∀ i, i ≠ 38 → i ≠ 40 → i ≠ 42 → i ≠ 44 → i ≠ 46 → i ≠ 48 → σ' i = σ i) ∧ (∀ k, k ≠ 5 → k ≠ 6 → σ' 38 k = σ 38 k) ∧ (σ 38 5 ≤ σ' 38 5 ∧ σ 38 6 ≤ σ' 38 6) ∧ (∀ n, 0 ≤ n → n < σ 38 5 → σ' 40 n = σ 40 n ∧ σ' 42 n = σ 42 n ∧ σ' 44 n = σ 44 n) ∧ ∀ i, 0 ≤ i → i < σ 38 6 → σ' 46 i = σ 46 i ∧ σ' 48 i = σ 48 i
theorem GX.rf : GX σ σ := ⟨fun _ _ _ _ _ _ _ => rfl, fun _ _ _ => rfl, ⟨Int.le_refl _, Int.le_refl _⟩, fun _ _ _ => ⟨rfl, rfl, rfl⟩, fun _ _ _ => ⟨rfl, rfl⟩⟩
theorem GX.tr (a : GX σ σ1) (b : GX σ1 σ') : GX σ σ' := by
  obtain ⟨a1, a2, a3, a4, a5⟩ := a
  obtain ⟨b1, b2, b3, b4, b5⟩ := b
  refine ⟨fun i p q r s t u => (b1 i p q r s t u).trans (a1 i p q r s t u), fun k p q => (b2 k p q).trans (a2 k p q), ⟨by omega, by omega⟩, fun n p q => ?_, fun i p q => ?_⟩
  · obtain ⟨x1, x2, x3⟩ := a4 n p q
    obtain ⟨y1, y2, y3⟩ := b4 n p (by omega)
    exact ⟨y1.trans x1, y2.trans x2, y3.trans x3⟩
  · obtain ⟨x1, x2⟩ := a5 i p q
    obtain ⟨y1, y2⟩ := b5 i p (by omega)
    exact ⟨y1.trans x1, y2.trans x2⟩
theorem cS_e {n : Int} (h : σ' 40 n = σ 40 n ∧ σ' 42 n = σ 42 n ∧ σ' 44 n = σ 44 n) : cS σ' n = cS σ n := by
  unfold cS
  rw [h.1, h.2.1, h.2.2]
theorem Op_e {n : Int} (h : σ' 40 n = σ 40 n ∧ σ' 42 n = σ 42 n ∧ σ' 44 n = σ 44 n) (hn : n < σ 38 5) (hn' : n < σ' 38 5) : Op σ' n ↔ Op σ n := by
  unfold Op lkd
  rw [cS_e h, h.1]
  exact and_congr_left (fun _ => and_congr_right (fun _ => ⟨fun _ => hn, fun _ => hn'⟩))
/-- the copy of a general variable -/
theorem s_copyOf {v : Int} (G : GL σ0 h σ) (hh : 0 ≤ h ∧ h ≤ 999) (hv : Op σ0 v ∧ σ0 44 v = 1000) (hc : σ 38 5 < 3000) (hl : σ 38 6 < 20) : ∃ r σ', Rn (d + 8) yTy_copyOf [.ref 38, vi v, vi h] σ (some r) σ' ∧ GL σ0 h σ' ∧ GX σ σ' ∧ (σ' 38 5 ≤ σ 38 5 + 1 ∧ σ' 38 6 ≤ σ 38 6 + 1) ∧ ∃ i, (0 ≤ i ∧ i < σ' 38 6) ∧ σ' 46 i = v ∧ σ' 48 i = r := by
  obtain ⟨T, g1, g2, g3, g4, g5⟩ := G
  have c0 := T.1.2.1
  have rv : rg v := ⟨by have := hv.1.1.1; omega, by have := hv.1.1.2; omega⟩
  have rh : rg h := ⟨by omega, by omega⟩
  rcases s_placeOf (d := d + 3) rv g3 with ⟨i, a, b, c⟩ | ⟨a, b⟩
  · have gi := g4 i a.1 a.2
    refine ⟨σ 48 i, σ, M_Ty_copyOf (d := d + 4) rv rh ⟨i, σ, c, ?_⟩, ⟨T, g1, g2, g3, g4, g5⟩, GX.rf, ⟨by omega, by omega⟩, i, a, b, rfl⟩
    have e : rowv 20 σ 48 i = σ 48 i := if_pos ⟨a.1, by show i < 20; omega⟩
    rw [e, if_pos (by have := gi.2.2.1.1; omega)]
    exact ⟨by rw [e], rfl⟩
  · have a_no := a
    have b := b hl
    have i0 := g3.1
    have ea : ∀ i, i ≠ 46 → i ≠ 48 → i ≠ 38 → (mup (mup (mup σ 46 (σ 38 6) v) 48 (σ 38 6) (-1)) 38 6 (σ 38 6 + 1)) i = σ i := fun i p q r => by rw [mup_obj r, mup_obj q, mup_obj p]
    have e38 : ∀ k, k ≠ 6 → (mup (mup (mup σ 46 (σ 38 6) v) 48 (σ 38 6) (-1)) 38 6 (σ 38 6 + 1)) 38 k = σ 38 k := fun k p => by rw [mup_nk p, mup_obj (by decide), mup_obj (by decide)]
    have e386 : (mup (mup (mup σ 46 (σ 38 6) v) 48 (σ 38 6) (-1)) 38 6 (σ 38 6 + 1)) 38 6 = σ 38 6 + 1 := mup_eq
    have e46 : ∀ i, (mup (mup (mup σ 46 (σ 38 6) v) 48 (σ 38 6) (-1)) 38 6 (σ 38 6 + 1)) 46 i = if i = σ 38 6 then v else σ 46 i := fun i => by
      rw [mup_obj (by decide), mup_obj (by decide)]
      by_cases e : i = σ 38 6
      · rw [if_pos e, e, mup_eq]
      · rw [if_neg e, mup_nk e]
    have e48 : ∀ i, (mup (mup (mup σ 46 (σ 38 6) v) 48 (σ 38 6) (-1)) 38 6 (σ 38 6 + 1)) 48 i = if i = σ 38 6 then -1 else σ 48 i := fun i => by
      rw [mup_obj (by decide)]
      by_cases e : i = σ 38 6
      · rw [if_pos e, e, mup_eq]
      · rw [if_neg e, mup_nk e, mup_obj (by decide)]
    generalize (mup (mup (mup σ 46 (σ 38 6) v) 48 (σ 38 6) (-1)) 38 6 (σ 38 6 + 1)) = σ1 at *
    obtain ⟨T1, -⟩ := T.cg (σ' := σ1) (ea 40 (by decide) (by decide) (by decide)) (ea 42 (by decide) (by decide) (by decide)) (ea 44 (by decide) (by decide) (by decide)) (e38 5 (by decide))
    have s5 : σ1 38 5 = σ 38 5 := e38 5 (by decide)
    obtain ⟨m, R, F, Tm, em, mr, mc0, mc2, mc4⟩ := c_make (d := d + 3) T1 (by omega) (k := 63) (a := -1) (b := h) ⟨by decide, by decide⟩ ⟨by decide, by decide⟩ rh (Or.inl ⟨rfl, rfl, by omega⟩)
    have F := F
    have m46 := F.1 46 (by decide) (by decide) (by decide) (by decide)
    have m48 := F.1 48 (by decide) (by decide) (by decide) (by decide)
    have m6 := F.2 6 (by decide)
    have m5 : m 38 5 = σ1 38 5 + 1 := congrArg (fun S : TS => S.2.1) em
    rw [s5] at m5 mr mc0 mc2 mc4
    have n40 := ea 40 (by decide) (by decide) (by decide)
    have n42 := ea 42 (by decide) (by decide) (by decide)
    have n44 := ea 44 (by decide) (by decide) (by decide)
    rw [n40, n42, n44] at mr
    have f48 : ∀ i, (mup m 48 (σ 38 6) (σ 38 5)) 48 i = if i = σ 38 6 then σ 38 5 else σ 48 i := fun i => by
      by_cases e : i = σ 38 6
      · rw [if_pos e, e, mup_eq]
      · rw [if_neg e, mup_nk e, m48, e48, if_neg e]
    have fo : ∀ i, i ≠ 48 → (mup m 48 (σ 38 6) (σ 38 5)) i = m i := fun i p => mup_obj p
    have RR : Rn (d + 8) yTy_copyOf [.ref 38, vi v, vi h] σ (some (σ 38 5)) (mup m 48 (σ 38 6) (σ 38 5)) := by
      refine M_Ty_copyOf (d := d + 4) rv rh ⟨σ 38 6, σ1, b, ?_⟩
      rw [show rowv 20 σ1 48 (σ 38 6) = -1 from (if_pos ⟨i0, by show σ 38 6 < 20; exact hl⟩ : rowv 20 σ1 48 (σ 38 6) = σ1 48 (σ 38 6)).trans (by rw [e48, if_pos rfl]), if_neg (fun z => z rfl)]
      refine ⟨σ1 38 5, m, R, ?_⟩
      unfold B_Ty_copyOf_34
      rw [rows_in i0 (by show σ 38 6 < 20; exact hl), s5]
      refine ⟨?_, rfl⟩
      rw [show rowv 20 (mup m 48 (σ 38 6) (σ 38 5)) 48 (σ 38 6) = (mup m 48 (σ 38 6) (σ 38 5)) 48 (σ 38 6) from if_pos ⟨i0, by show σ 38 6 < 20; exact hl⟩, mup_eq]
    generalize (mup m 48 (σ 38 6) (σ 38 5)) = σ2 at *
    have q40 := fo 40 (by decide)
    have q42 := fo 42 (by decide)
    have q44 := fo 44 (by decide)
    have q38 := fo 38 (by decide)
    have q46 : ∀ i, σ2 46 i = if i = σ 38 6 then v else σ 46 i := fun i => by rw [fo 46 (by decide), m46, e46]
    obtain ⟨T2, -⟩ := Tm.cg (σ' := σ2) q40 q42 q44 (by rw [q38])
    have p5 : σ2 38 5 = σ 38 5 + 1 := by rw [q38]; exact m5
    have p6 : σ2 38 6 = σ 38 6 + 1 := by rw [q38, m6, e386]
    have pn : ∀ n, n ≠ σ 38 5 → σ2 40 n = σ 40 n ∧ σ2 42 n = σ 42 n ∧ σ2 44 n = σ 44 n := fun n q => by rw [q40, q42, q44]; exact mr n q
    have pv : Op σ2 (σ 38 5) ∧ σ2 44 (σ 38 5) = h := by
      refine ⟨⟨⟨by omega, by omega⟩, by rw [q40]; exact mc0, fun z => ?_⟩, by rw [q44]; exact mc4⟩
      have z2 : 0 ≤ σ2 42 (σ 38 5) := z.2
      rw [q42, mc2] at z2
      omega
    refine ⟨σ 38 5, σ2, RR, ⟨T2, by omega, fun n a b => ?_, by omega, fun i a b => ?_, fun i j a b q => ?_⟩, ⟨fun i p q r s t u => ?_, fun k p q => ?_, ⟨by omega, by omega⟩, fun n _ z => pn n (by omega), fun i z w => ?_⟩, ⟨by omega, by omega⟩, σ 38 6, ⟨i0, by omega⟩, ?_, ?_⟩
    · have x := pn n (by omega)
      have y := g2 n a b
      exact ⟨x.1.trans y.1, x.2.1.trans y.2.1, x.2.2.trans y.2.2⟩
    · rw [q46, f48]
      by_cases e : i = σ 38 6
      · rw [if_pos e, if_pos e]
        exact ⟨hv, g1, pv⟩
      · rw [if_neg e, if_neg e]
        obtain ⟨x1, x2, x3, x4⟩ := g4 i a (by omega)
        have y := pn (σ 48 i) (by have := x3.1.2; omega)
        exact ⟨x1, x2, (Op_e y x3.1.2 (by have := x3.1.2; omega)).mpr x3, y.2.2.trans x4⟩
    · rw [q46, q46, f48, f48] at q
      by_cases e : i = σ 38 6
      · by_cases e' : j = σ 38 6
        · omega
        · rw [if_pos e, if_neg e', if_pos e, if_neg e'] at q
          rcases q with q | q
          · exact absurd q.symm (a_no j b.1 (by omega))
          · have := (g4 j b.1 (by omega)).2.2.1.1.2; omega
      · by_cases e' : j = σ 38 6
        · rw [if_neg e, if_pos e', if_neg e, if_pos e'] at q
          rcases q with q | q
          · exact absurd q (a_no i a.1 (by omega))
          · have := (g4 i a.1 (by omega)).2.2.1.1.2; omega
        · rw [if_neg e, if_neg e', if_neg e, if_neg e'] at q
          exact g5 i j ⟨a.1, by omega⟩ ⟨b.1, by omega⟩ q
    · rw [fo i u, F.1 i p q r s, ea i t u p]
    · rw [q38, F.2 k p, e38 k q]
    · rw [q46, f48, if_neg (by omega), if_neg (by omega)]
      exact ⟨rfl, rfl⟩
    · rw [q46, if_pos rfl]
    · rw [f48, if_pos rfl]
end CPL
