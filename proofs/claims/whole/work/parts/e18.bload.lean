/-! The law's load: class and model answer the same. -/
section LAL
variable {d : Nat} {H H' : mHp} {v : Int}
theorem la_ok (S : Sh H') (R : Ru d yF_load [.ref 1] H (.inl (some (vi v)), H')) (t : hTag H 1 = 0) : Ru (d + 1) yLa_load [.ref 1, .ref 98] H (.inl (some (vi 0)), hSet H' 98 0 (.long (Int32.ofInt v).toInt64)) := by
  refine ru_go (Nat.le_of_ble_eq_true rfl) ?_
  refine g_l rfl rfl rfl ?_
  refine gi_k (x := 0) rfl rfl rfl rfl ?_
  refine g_l rfl rfl rfl ?_
  refine g_iv rfl rfl rfl t (by decide) rfl R ?_
  refine g_p rfl rfl rfl ?_
  refine gi_as (z := 0) (t := 103) (j := 98) (ok := isL) rfl rfl rfl rfl (S.t 98 rfl) (by decide) (by rw [S.l 98 rfl]; decide) (by rw [S.l 98 rfl]; decide) rfl ?_
  refine g_b rfl rfl rfl rfl ?_
  refine gi_k (x := 0) rfl rfl rfl rfl ?_
  exact g_r rfl rfl rfl
theorem la_no0 (R : Ru d yF_load [.ref 1] H (.inr 0, H')) (t : hTag H 1 = 0) : Ru (d + 1) yLa_load [.ref 1, .ref 98] H (.inl (some (vi 1)), H') := by
  refine ru_go (Nat.le_of_ble_eq_true rfl) ?_
  refine g_l rfl rfl rfl ?_
  refine gi_k (x := 0) rfl rfl rfl rfl ?_
  refine g_l rfl rfl rfl ?_
  refine g_ivx rfl rfl rfl t (by decide) rfl R rfl ?_
  refine g_l rfl rfl rfl ?_
  refine gi_k (x := 1) rfl rfl rfl rfl ?_
  exact g_r rfl rfl rfl
theorem la_no1 (R : Ru d yF_load [.ref 1] H (.inr 1, H')) (t : hTag H 1 = 0) : Ru (d + 1) yLa_load [.ref 1, .ref 98] H (.inl (some (vi 2)), H') := by
  refine ru_go (Nat.le_of_ble_eq_true rfl) ?_
  refine g_l rfl rfl rfl ?_
  refine gi_k (x := 0) rfl rfl rfl rfl ?_
  refine g_l rfl rfl rfl ?_
  refine g_ivx rfl rfl rfl t (by decide) rfl R rfl ?_
  refine g_l rfl rfl rfl ?_
  refine gi_k (x := 2) rfl rfl rfl rfl ?_
  exact g_r rfl rfl rfl
theorem la_no2 (R : Ru d yF_load [.ref 1] H (.inr 2, H')) (t : hTag H 1 = 0) : Ru (d + 1) yLa_load [.ref 1, .ref 98] H (.inl (some (vi 3)), H') := by
  refine ru_go (Nat.le_of_ble_eq_true rfl) ?_
  refine g_l rfl rfl rfl ?_
  refine gi_k (x := 0) rfl rfl rfl rfl ?_
  refine g_l rfl rfl rfl ?_
  refine g_ivx rfl rfl rfl t (by decide) rfl R rfl ?_
  refine g_l rfl rfl rfl ?_
  refine gi_k (x := 3) rfl rfl rfl rfl ?_
  exact g_r rfl rfl rfl
end LAL
/-- the lines are the same, nothing is left of names -/
def LnE (σ : Mem) : Prop := LI σ ∧ MI σ ∧ σ 2 1 = σ 58 2 ∧ (∀ p, 0 ≤ p → p < σ 2 1 → σ 4 p = σ 59 p) ∧ ∀ k, σ 37 k = 0
/-- so are the texts -/
def TxE (σ : Mem) : Prop := σ 1 8 = σ 58 49 ∧ (0 ≤ σ 1 8 ∧ σ 1 8 ≤ 80) ∧ ∀ k, 0 ≤ k → k < σ 1 8 → σ 57 k = σ 88 k
theorem LnE.ch {σ : Mem} (I : LnE σ) : chr σ = mch σ := by
  funext z
  unfold chr mch rowv
  have a := I.2.2.1
  have b := I.2.2.2.1 z
  have c := I.1.2.1
  by_cases q : z ≥ σ 2 1
  · rw [if_pos q, if_neg (by omega)]
  · rw [if_neg q]
    by_cases w : 0 ≤ z
    · rw [if_pos ⟨w, by omega⟩, if_pos ⟨w, by omega⟩]; exact b w (by omega)
    · rw [if_neg (by omega), if_neg (by omega)]
theorem LnE.cg {σ σ' : Mem} (I : LnE σ) (h2 : σ' 2 1 = σ 2 1) (h4 : σ' 4 = σ 4) (h58 : σ' 58 2 = σ 58 2) (h59 : σ' 59 = σ 59) (h37 : ∀ k, σ' 37 k = 0) : LnE σ' := by
  obtain ⟨a, b, c, e, f⟩ := I
  unfold LnE LI MI
  rw [h2, h4, h58, h59]
  exact ⟨a, b, c, e, h37⟩
theorem LnE.emp {σ : Mem} (h2 : σ 2 1 = 0) (h58 : σ 58 2 = 0) (h37 : ∀ k, σ 37 k = 0) : LnE σ :=
  ⟨⟨by omega, by omega, fun p h0 h1 => by omega⟩, ⟨by omega, by omega, fun p h0 h1 => by omega⟩, by omega, fun p h0 h1 => by omega, h37⟩
theorem TxE.cg {σ σ' : Mem} (I : TxE σ) (h1 : σ' 1 8 = σ 1 8) (h58 : σ' 58 49 = σ 58 49) (h57 : σ' 57 = σ 57) (h88 : σ' 88 = σ 88) : TxE σ' := by
  unfold TxE
  rw [h1, h58, h57, h88]; exact I
section BL
variable {d : Nat} {h : mHp} {σ : Mem}
/-- what is true of both after a load that both accept -/
def bLd (σ σ' : Mem) (T : Tr) : Prop := (isE T ∧ wf T ∧ (c5 T ∧ pdT T) ∧ rwl T ≤ 60) ∧ (clo T (fun _ => false) = true ∧ ∃ s, tyE T true [] s) ∧ (∃ σ1 cs, cLd σ σ1 T cs ∧ mdL σ1 σ' T cs)
theorem both_load (D1 : roomT) (I : LnE σ) (X : TxE σ) (M : RM σ) (S : Sh h) : ∃ k b h1 σ1 σ2, Ru (d + 352) yLa_load [.ref 1, .ref 98] (put h σ) (.inl (some (vi k)), put h1 σ1) ∧ Rn (d + 25) yMo_load [.ref 58] σ1 (some b) σ2 ∧ RM σ1 ∧ Sh h1 ∧ σ2 58 0 = k ∧ rg k ∧ LnE σ2 ∧ TxE σ2 ∧ (((k = 1 ∨ k = 2 ∨ k = 3) ∧ h1 = hNew h 200 6 (fun _ => .null) ∧ frL0 σ σ1 ∧ frML σ1 σ2) ∨ (k = 0 ∧ h1 = hSet (hSet (bgH h) 1 9 .null) 98 0 (.long (Int32.ofInt b).toInt64) ∧ rg b ∧ ∃ T, bLd σ σ2 T)) := by
  obtain ⟨σ1, z1, M1, C⟩ := c_load (d := d) (h := h) I.1 (fun k _ => I.2.2.2.2 k) M S
  have SN : Sh (hNew h 200 6 (fun _ => .null)) := S.new
  have tg : hTag (put h σ) 1 = 0 := S.t 1 rfl
  -- the model goes on from σ1
  have mo : (∀ i, i = 58 ∨ i = 59 → σ1 i = σ i) → MI σ1 ∧ mch σ1 = chr σ := fun q => by
    have e : mch σ1 = mch σ := by funext z; unfold mch; rw [q 58 (Or.inl rfl), q 59 (Or.inr rfl)]
    refine ⟨?_, e.trans I.ch.symm⟩
    unfold MI; rw [q 58 (Or.inl rfl), q 59 (Or.inr rfl)]; exact I.2.1
  have ln : ∀ {σ2 : Mem}, frL0 σ σ1 → frML σ1 σ2 → LnE σ2 ∧ TxE σ2 := fun {σ2} F G => by
    have o : ∀ i, ldP i = false → mlP i = false → σ2 i = σ i := fun i a b => (G.1 i b).trans (F i a)
    have p58 : ∀ k, ¬ mlK k → σ2 58 k = σ 58 k := fun k hk => (G.2 k hk).trans (by rw [F 58 rfl])
    refine ⟨I.cg (by rw [o 2 rfl rfl]) (o 4 rfl rfl) (p58 2 ?_) (o 59 rfl rfl) (fun k => by rw [G.1 37 rfl]; exact z1 k), X.cg (by rw [o 1 rfl rfl]) (p58 49 ?_) (o 57 rfl rfl) (o 88 rfl rfl)⟩
    · unfold mlK mfP; intro q; rcases q with q | q | q
      · omega
      · cases q
      · omega
    · unfold mlK mfP; intro q; rcases q with q | q | q
      · omega
      · cases q
      · omega
  cases hp : pLine (chr σ) with
  | none =>
    rw [hp] at C
    obtain ⟨R, F⟩ := C
    obtain ⟨a1, a2⟩ := mo (fun i hi => F i (by rcases hi with rfl | rfl <;> rfl))
    obtain ⟨b, σ2, Rm, C2⟩ := m_load (d := d) D1 a1
    rw [a2, hp] at C2
    obtain ⟨e, G⟩ := C2
    exact ⟨1, b, _, σ1, σ2, la_no0 R tg, Rm, M1, SN, e, rgk rfl, (ln F G).1, (ln F G).2, Or.inl ⟨Or.inl rfl, rfl, F, G⟩⟩
  | some T =>
    rw [hp] at C
    obtain ⟨he, hw, h5, hl, -, -⟩ := pLine_all (chr_end I.1) I.1.1 I.1.2.1 hp
    rcases C with ⟨hc, R, F⟩ | ⟨hc, no, R, F⟩ | ⟨hc, ex, cs, R, F⟩
    · obtain ⟨a1, a2⟩ := mo (fun i hi => F i (by rcases hi with rfl | rfl <;> rfl))
      obtain ⟨b, σ2, Rm, C2⟩ := m_load (d := d) D1 a1
      rw [a2, hp] at C2
      rcases C2 with ⟨-, e, G⟩ | ⟨c2, -⟩ | ⟨c2, -⟩
      · exact ⟨2, b, _, σ1, σ2, la_no1 R tg, Rm, M1, SN, e, rgk rfl, (ln F G).1, (ln F G).2, Or.inl ⟨Or.inr (Or.inl rfl), rfl, F, G⟩⟩
      · rw [hc] at c2; cases c2
      · rw [hc] at c2; cases c2
    · obtain ⟨a1, a2⟩ := mo (fun i hi => F i (by rcases hi with rfl | rfl <;> rfl))
      obtain ⟨b, σ2, Rm, C2⟩ := m_load (d := d) D1 a1
      rw [a2, hp] at C2
      rcases C2 with ⟨c2, -⟩ | ⟨-, -, e, G⟩ | ⟨-, ⟨s, y⟩, -⟩
      · rw [hc] at c2; cases c2
      · exact ⟨3, b, _, σ1, σ2, la_no2 R tg, Rm, M1, SN, e, rgk rfl, (ln F G).1, (ln F G).2, Or.inl ⟨Or.inr (Or.inr rfl), rfl, F, G⟩⟩
      · exact (no s y).elim
    · obtain ⟨a1, a2⟩ := mo (fun i hi => F.1 i (by rcases hi with rfl | rfl <;> rfl) (by omega) (by omega) (by omega) (by omega) (by omega))
      obtain ⟨b, σ2, Rm, C2⟩ := m_load (d := d) D1 a1
      rw [a2, hp] at C2
      rcases C2 with ⟨c2, -⟩ | ⟨-, no, -⟩ | ⟨-, -, e, cs', eb, G⟩
      · rw [hc] at c2; cases c2
      · obtain ⟨s, y⟩ := ex; exact (no s y).elim
      · have ec := TYP.eq F.2.2.2.2.2.1 G.2.2.2.1
        subst ec
        have gb : rg b := (Rm M1).2.1 b rfl
        have S2 : Sh (hSet (bgH h) 1 9 .null) := S.bg.set rfl
        have R2 := la_ok (put_sh S2) R tg
        rw [put_sn rfl, ← eb] at R2
        have o : ∀ i, mlP i = false → i ≠ 63 → i ≠ 64 → i ≠ 65 → i ≠ 75 → i ≠ 68 → i ≠ 69 → i ≠ 88 → σ2 i = σ1 i := G.1
        have z2 : ∀ k, σ2 37 k = 0 := fun k => by rw [o 37 rfl (by decide) (by decide) (by decide) (by decide) (by decide) (by decide) (by decide)]; exact z1 k
        have e2 : σ2 2 = σ1 2 := o 2 rfl (by decide) (by decide) (by decide) (by decide) (by decide) (by decide) (by decide)
        have e1 : σ2 1 = σ1 1 := o 1 rfl (by decide) (by decide) (by decide) (by decide) (by decide) (by decide) (by decide)
        have e57 : σ2 57 = σ1 57 := o 57 rfl (by decide) (by decide) (by decide) (by decide) (by decide) (by decide) (by decide)
        have F0 := F
        have G0 := G
        obtain ⟨-, q2, q8, q57, lc, -⟩ := F
        obtain ⟨-, -, -, -, -, ⟨g49, g88⟩, g2, -⟩ := G
        refine ⟨0, b, _, σ1, σ2, R2, Rm, M1, S2.set rfl, e, rgk rfl, LnE.emp (by rw [e2]; exact q2) g2 z2, ?_, Or.inr ⟨rfl, rfl, gb, T, ⟨he, hw, ⟨h5, pLine_pd hp⟩, hl⟩, ⟨hc, ex⟩, σ1, cs, F0, G0⟩⟩
        refine ⟨by rw [e1, q8, g49], by rw [e1, q8]; omega, fun k k0 k1 => ?_⟩
        rw [e1, q8] at k1
        have a := q57 k.toNat (by omega)
        have c := g88 k.toNat (by omega)
        rw [Int.toNat_of_nonneg k0] at a c
        rw [e57, a, c]
end BL
