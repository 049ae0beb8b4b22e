/-! The law's load in its loop. -/
theorem lg_rr {x : Int64} : lg_cmp x x = 0 := by
  unfold lg_cmp
  simp
theorem scL.new {L : Nat} {xs : Nat → Int32} {h : mHp} {t n : Nat} {f : Nat → Value} (s : scL L xs h) (H : 0 < h.1) : scL L xs (hNew h t n f) := ⟨⟨(tag_new H).trans s.1.1, (len_new H).trans s.1.2.1, s.1.2.2⟩, fun j => (at_new H _).trans (s.2 j)⟩
theorem scL.set {L : Nat} {xs : Nat → Int32} {h : mHp} {i k : Nat} {v : Value} (s : scL L xs h) (H : 0 ≠ i) : scL L xs (hSet h i k v) := ⟨⟨tag_set.trans s.1.1, len_set.trans s.1.2.1, s.1.2.2⟩, fun j => (at_ne H _).trans (s.2 j)⟩
theorem kpW.ref {σ σ1 σ2 : Mem} (F : frL0 σ σ1) (G : frML σ1 σ2) : kpW σ σ2 := by
  have a : ∀ i : Nat, (20 ≤ i ∧ i ≤ 34) ∨ i = 54 ∨ i = 63 ∨ i = 64 ∨ i = 65 ∨ i = 68 ∨ i = 69 ∨ i = 75 ∨ 88 ≤ i → ldP i = false ∧ mlP i = false := fun i hi => by
    unfold ldP rdP ckP mlP moP tP
    constructor
    · simp; omega
    · have b1 : Nat.ble 76 i = true → Nat.ble i 87 = true → False := fun x y => by
        have := Nat.le_of_ble_eq_true x
        have := Nat.le_of_ble_eq_true y
        omega
      have b2 : (Nat.ble 76 i && Nat.ble i 87) = false := by
        cases x : Nat.ble 76 i
        · rfl
        · cases y : Nat.ble i 87
          · rfl
          · exact (b1 x y).elim
      rw [b2]
      simp; omega
  exact ⟨fun i hi => (G.1 i (a i hi).2).trans (F i (a i hi).1), fun k h1 h2 h3 => (G.2 k h1).trans (by rw [F 58 rfl])⟩
section LW3
variable {L : Nat} {xs : Nat → Int32} {d : Nat} {h : mHp} {σ : Mem} {i : Int} {r : mRes × mHp}
/-- 2: load -/
theorem op_2 (D1 : roomT) (s : scL L xs h) (I : LnE σ) (X : TxE σ) (M : RM σ) (S : Sh h) (Q : mHp → Prop) (K : ∀ h1 σ', Sh h1 → scL L xs h1 → LnE σ' → TxE σ' → RM σ' → ((h1 = hNew h 200 6 (fun _ => .null) ∧ kpW σ σ') ∨ (∃ v, h1 = hSet (hSet (bgH h) 1 9 .null) 98 0 (.long v)) ∧ ∃ T, bLd σ σ' T) → ∃ h2, Q h2 ∧ Go (d + 352) true 229 (438, lwB i, [], put h1 σ') (.inl (some (vi 1)), h2)) : ∃ h2, Q h2 ∧ Go (d + 352) true 229 (138, lwB i, [], put h σ) (.inl (some (vi 1)), h2) := by
  obtain ⟨k, b, h1, σ1, σ2, R1, R2, M1, S1, ek, gk, I2, X2, C⟩ := both_load (d := d) (h := h) D1 I X M S
  have R2 : Rn (d + 352) yMo_load [.ref 58] σ1 (some b) σ2 := R2.deep (by omega)
  have M2 := (R2 M1).1
  have gb : rg b := (R2 M1).2.1 b rfl
  have R3 : Rn (d + 352) yMo_thrown [.ref 58] σ2 (some k) σ2 := M_Mo_thrown (d := d + 348) ⟨by rw [ek], rfl⟩
  have s1 : scL L xs h1 := by
    rcases C with ⟨-, rfl, -⟩ | ⟨-, rfl, -⟩
    · exact s.new (by have := S.1; omega)
    · exact ((((s.set (by decide)).set (by decide)).set (by decide)).set (by decide)).set (by decide)
  obtain ⟨hE, hQ, fin⟩ : ∃ h2, Q h2 ∧ Go (d + 352) true 229 (438, lwB i, [], put h1 σ2) (.inl (some (vi 1)), h2) := by
    refine K h1 σ2 S1 s1 I2 X2 M2 ?_
    rcases C with ⟨-, e, F, G⟩ | ⟨-, e, -, T⟩
    · exact Or.inl ⟨e, kpW.ref F G⟩
    · exact Or.inr ⟨⟨_, e⟩, T⟩
  have hv : lvS (lwB i) ((7, vi b) :: (6, vi k) :: lwB i) := by
    refine ⟨lwB_nd i, fun j v hj => ?_⟩
    have n : j ≠ 7 ∧ j ≠ 6 := by
      refine ⟨?_, ?_⟩
      · rintro rfl; cases hj
      · rintro rfl; cases hj
    rw [List.lookup_cons, show (j == 7) = false from beq_eq_false_iff_ne.mpr n.1]
    dsimp only
    rw [List.lookup_cons, show (j == 6) = false from beq_eq_false_iff_ne.mpr n.2]
    exact hj
  have fin := go_lv hv fin
  refine ⟨hE, hQ, ?_⟩
  refine g_l rfl rfl rfl ?_
  refine g_l rfl rfl rfl ?_
  refine g_is rfl (by decide) (by decide) rfl rfl rfl R1 ?_
  refine g_l rfl rfl rfl ?_
  refine g_l rfl rfl rfl ?_
  refine g_iv rfl rfl rfl (S1.t 58 rfl) (by decide) rfl (R2.at M1 S1) ?_
  refine g_l rfl rfl rfl ?_
  refine g_l rfl rfl rfl ?_
  refine g_iv rfl rfl rfl (S1.t 58 rfl) (by decide) rfl (R3.at M2 S1) ?_
  refine g_l rfl rfl rfl ?_
  refine eq_go rfl (by decide) gk rfl ?_
  refine g_l rfl rfl rfl ?_
  rcases C with ⟨hk, -⟩ | ⟨rfl, e, -⟩
  · refine gi_z rfl (by decide) gk (q := true) ?_ rfl ?_
    · exact decide_eq_true (by omega)
    · exact g_b rfl rfl rfl rfl fin
  · have a98 : hAt (put h1 σ2) 98 0 = .long (Int32.ofInt b).toInt64 := by
      rw [put_no rfl, e]; exact at_eq
    refine gi_z rfl (by decide) gk (q := false) rfl rfl ?_
    refine g_l rfl rfl rfl ?_
    refine gi_k (x := 0) rfl rfl rfl rfl ?_
    refine gi_al (z := 0) (t := 103) (j := 98) rfl rfl rfl rfl (S1.t 98 rfl) (by decide) (by rw [show hLen (put h1 σ2) 98 = 1 from S1.l 98 rfl]; decide) (by rw [show hLen (put h1 σ2) 98 = 1 from S1.l 98 rfl]; decide) a98 ?_
    refine g_l rfl rfl rfl ?_
    refine g_p rfl rfl rfl ?_
    refine g_p (st' := [vi 0]) rfl rfl ?_ ?_
    · simp only [mPure, mLL, lg_rr]; rfl
    refine gi_z rfl (by decide) (rgk rfl) (q := true) rfl rfl ?_
    exact g_b rfl rfl rfl rfl fin
end LW3
