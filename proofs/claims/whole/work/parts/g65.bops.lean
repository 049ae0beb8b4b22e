/-! Both: run; the law's calls. -/
def ptA (h : mHp) (a : Int) (e : WkE) : Int := (h.1 : Int) + cQe e + 258 * (1000 - a)
def ptB (h : mHp) (a : Int) (e : WkE) : Int := (h.2.1 : Int) + 6 * (cQe e + 258 * (1000 - a))
section BOPS
variable {L : Nat} {xs : Nat → Int32} {h h' h1 : mHp} {σc σm σ σ' σ1 : Mem} {d : Nat} {i s a x y k s' a' c : Int} {T : Tr} {S : WkS} {e e' : WkE} {v w : Va} {u : Value}
theorem keC.of {u : Value} : keC h (hSet h 1 9 u) σ σ := ⟨⟨Nat.le_refl _, smC.set (Or.inl (by decide))⟩, fun x => at_ne (by decide) x, fun x => at_ne (by decide) x, fun _ _ _ => rfl, rfl⟩
theorem keM.of {u : Value} : keM h (hSet h 1 9 u) σ σ := ⟨fun i x hi => at_ne (by omega) x, fun _ _ => rfl, fun _ _ => rfl⟩
theorem keC.tr (x : keC h h1 σ σ1) (y : keC h1 h' σ1 σ') : keC h h' σ σ' := by
  obtain ⟨⟨a1, a2⟩, a3, a4, a5, a6⟩ := x
  obtain ⟨⟨c1, c2⟩, c3, c4, c5, c6⟩ := y
  exact ⟨⟨Nat.le_trans a1 c1, a2.tr (c2.le a1)⟩, fun x => (c3 x).trans (a3 x), fun x => (c4 x).trans (a4 x), fun i p q => (c5 i p q).trans (a5 i p q), c6.trans a6⟩
theorem frRm.ln (f : frRm h h' σ σ') : lnK σ σ' := ⟨fun i hi => f.2.2.2.1 i (by omega) (by omega) (by omega) (by omega), f.2.2.2.2 2 (by decide) (by decide) (by decide) (by decide) (by decide) (by decide) (by decide) (by decide) (by decide) (by decide) (by decide) (by decide) (by decide), f.2.2.2.2 49 (by decide) (by decide) (by decide) (by decide) (by decide) (by decide) (by decide) (by decide) (by decide) (by decide) (by decide) (by decide) (by decide)⟩
theorem frGo.ln {c : Nat} (f : frGo c h h' σ σ') : lnK σ σ' := ⟨fun i hi => f.2.2.2.1 i (by omega), by rw [f.2.2.2.1 58 (by decide)], by rw [f.2.2.2.1 58 (by decide)]⟩
theorem frGo.sc {c : Nat} (f : frGo c h h' σ σ') (q : scL L xs h) : scL L xs h' := ⟨⟨f.2.2.2.2.1.trans q.1.1, f.2.2.2.2.2.trans q.1.2.1, q.1.2.2⟩, fun j => (f.2.2.1 0 (by decide) (by decide) (by decide) j).trans (q.2 j)⟩
theorem frRm.sc (f : frRm h h' σ σ') (q : scL L xs h) : scL L xs h' := ⟨⟨(f.2.2.1 0).1.trans q.1.1, (f.2.2.1 0).2.trans q.1.2.1, q.1.2.2⟩, fun j => (f.2.1 0 j (by decide) (by omega) (by omega)).trans (q.2 j)⟩
theorem both_run (X : aSt h σ a e) (hq : ptA h a e ≤ 2000000) (gx : rg x) : ∃ k h1 σ1 h2 σ2 a' e', Rh (d + 352) yF_run [.ref 1, vi x] h σ (.inl (some (vi k))) h1 σ1 ∧ Rh (d + 352) yMo_run [.ref 58, vi x] h1 σ1 (.inl (some (vi k))) h2 σ2 ∧ rg k ∧ aSt h2 σ2 a' e' ∧ lnK σ σ2 ∧ (∀ L xs, scL L xs h → scL L xs h1 ∧ scL L xs h2) ∧ ptA h2 a' e' ≤ ptA h a e ∧ ptB h2 a' e' ≤ ptB h a e := by
  obtain ⟨ha, X⟩ := X
  rcases X with ⟨rfl, ⟨e7, e65⟩, l9, st, e10⟩ | ⟨T, σc, σm, s, X⟩
  · have R1 : Rh (d + 352) yF_run [.ref 1, vi x] h σ (.inl (some (vi (-1)))) h σ := M_F_run (d := d + 328) gx (by
      unfold B_F_run
      by_cases q1 : x < 0
      · rw [if_pos q1]; exact ⟨rfl, rfl, rfl⟩
      rw [if_neg q1]
      by_cases q2 : x > 100
      · rw [if_pos q2]; exact ⟨rfl, rfl, rfl⟩
      rw [if_neg q2]
      refine ⟨σ 54 7, h, σ, (M_Mc_phase (d := d + 347) ⟨rfl, rfl⟩).hh, by rw [e7]; exact rgk rfl, ?_⟩
      rw [if_neg (by rw [e7]; decide)]; exact ⟨rfl, rfl, rfl⟩)
    have R2 : Rh (d + 352) yMo_run [.ref 58, vi x] h σ (.inl (some (vi (-1)))) h (mup σ 58 0 0) := M_Mo_run (d := d + 344) gx (by
      have e : (mup σ 58 0 0) 58 65 = 0 := (mup_nk (by decide)).trans e65
      unfold B_Mo_run
      by_cases q1 : x < 0
      · rw [if_pos q1]; exact ⟨rfl, rfl, rfl⟩
      rw [if_neg q1]
      by_cases q2 : x > 100
      · rw [if_pos q2]; exact ⟨rfl, rfl, rfl⟩
      rw [if_neg q2, e, if_neg (by decide)]
      exact ⟨rgk rfl, rfl, rfl, rfl⟩)
    refine ⟨-1, h, σ, h, mup σ 58 0 0, a, .inr (.inr 0), R1, R2, rgk rfl, aSt.ke (keB.mem (kpW.m8 (Or.inl mlK_0))) ⟨ha, Or.inl ⟨rfl, ⟨e7, e65⟩, l9, st, e10⟩⟩, lnK.m0 (Or.inl rfl), fun L xs q => ⟨q, q⟩, Int.le_refl _, Int.le_refl _⟩
  · obtain ⟨⟨rb, ty, cs, t, l, q88⟩, C, M, K⟩ := id X
    obtain ⟨-, -, ⟨bs, -⟩, -⟩ := id C
    have SF : sfR T := C.1.2
    obtain ⟨k, s', a', e', h', σ', c, rs, gk, f, pc, C', alt⟩ := c_run (d := d + 328) C gx hq
    have hs' := C'.2.2.1
    rcases alt with ⟨nr, R1, eh, es, ee⟩ | ⟨yr, R1⟩
    · obtain ⟨h2, σ2, R2, M2, f2, alt2⟩ := m_runC (d := d + 344) SF rb M gx bs ha rs
      rcases alt2 with ⟨-, eh2, es2, -⟩ | ⟨yr, -⟩
      · rw [eh, es] at R1 C'
        rw [eh2, es2] at R2 M2
        rw [ee] at C' M2 pc
        have kb : keB h h σ (mup σ 58 0 0) := keB.mem (kpW.m8 (Or.inl mlK_0))
        refine ⟨k, h, σ, h, mup σ 58 0 0, a', e, R1, R2, gk, ⟨hs'.2, Or.inr ⟨T, σc, σm, s', ⟨rb, ty, cs, t, l, fun j hj => by rw [mup_obj (by decide)]; exact q88 j hj⟩, C'.ke kb.1, M2, K.ke kb⟩⟩, lnK.m0 (Or.inl rfl), fun L xs q => ⟨q, q⟩, ?_, ?_⟩
        · unfold ptA; omega
        · unfold ptB; omega
      · exact absurd yr nr
    · have km : keM h (hSet h' 1 9 (hAt h' 54 11)) σ σ' := (f.km (Or.inr trivial)).tr keM.of
      obtain ⟨h2, σ2, R2, M2, f2, alt2⟩ := m_runC (d := d + 344) SF rb (M.ke km) gx bs ha rs
      have kc : keC h' h2 σ' σ2 := keC.of.tr f2.kc
      have C2 := C'.ke kc
      have l2 : hAt h2 1 9 = hAt h' 54 11 := (f2.2.1 1 9 (by decide) (by omega) (by omega)).trans at_eq
      have e88 : σ2 88 = σ 88 := (f2.2.2.2.1 88 (by decide) (by decide) (by decide) (by decide)).trans (f.2.2.2.1 88 (by decide))
      have K2 : lkS σc σm h2 σ2 e' := by
        rcases alt2 with ⟨nr, -⟩ | ⟨-, lk⟩
        · exact absurd yr nr
        obtain ⟨-, -, -, E⟩ := C'
        cases e' with
        | inl S' => exact l2.trans E.1.2.2.2
        | inr z =>
          cases z with
          | inl v =>
            obtain ⟨ly, l70⟩ := lk v rfl
            refine ⟨0, v, rfl, ?_, ly, l70⟩
            rw [l2]
            exact E.1.1.mv kc.1.2 kc.1.1
          | inr c => exact l2.trans E.2.2
      have h21 : h2.1 = h'.1 := f2.1.1
      have h22 : h2.2.1 = h'.2.1 := f2.1.2
      have f1 := f.1
      have f3 := f.2.1
      refine ⟨k, hSet h' 1 9 (hAt h' 54 11), σ', h2, σ2, a', e', R1, R2, gk, ⟨hs'.2, Or.inr ⟨T, σc, σm, s', ⟨rb, ty, cs, t, l, fun j hj => by rw [e88]; exact q88 j hj⟩, C2, M2, K2⟩⟩, f.ln.tr f2.ln, fun L xs q => ?_, ?_, ?_⟩
      · have q1 : scL L xs (hSet h' 1 9 (hAt h' 54 11)) := (f.sc q).set (by decide)
        exact ⟨q1, f2.sc q1⟩
      · unfold ptA; omega
      · unfold ptB; omega
/-- what is held at the loop's head -/
def lpI (L : Nat) (xs : Nat → Int32) (h : mHp) (σ : Mem) (a : Int) (e : WkE) : Prop := scL L xs h ∧ Sh h ∧ LnE σ ∧ TxE σ ∧ RM σ ∧ aSt h σ a e
theorem bRes.pt {a : Int} {e : WkE} (b : bRes h h1) : ptA h1 a e ≤ ptA h a e + 130 ∧ ptB h1 a e ≤ ptB h a e + 780 := by
  obtain ⟨-, -, b1, b2⟩ := b
  unfold ptA ptB
  omega
/-- 4: run -/
theorem op_4 (I : lpI L xs h σ a e) (h0 : 0 ≤ i ∧ i + 2 ≤ L) (hq : ptA h a e ≤ 2000000) (Q : mHp → Prop) (K : ∀ h' σ' a' e', lpI L xs h' σ' a' e' → ptA h' a' e' ≤ ptA h a e + 130 → ptB h' a' e' ≤ ptB h a e + 780 → ∃ h2, Q h2 ∧ Go (d + 352) true 229 (438, lwB i, [], put h' σ') (.inl (some (vi 1)), h2)) : ∃ h2, Q h2 ∧ Go (d + 352) true 229 (207, lwB i, [], put h σ) (.inl (some (vi 1)), h2) := by
  obtain ⟨s, S, I, X, M, A⟩ := I
  have gz : rg (xs (i + 1).toNat).toInt := rg_toInt
  generalize hz : (xs (i + 1).toNat).toInt = z at gz
  obtain ⟨k, h1, σ1, h2, σ2, a', e', R1, R2, gk, A2, ln, sc, p1, p2⟩ := both_run (d := d) A hq gz
  obtain ⟨⟨M1, S1⟩, U1⟩ := R1 M S
  obtain ⟨⟨M2, S2⟩, U2⟩ := R2 M1 S1
  obtain ⟨s1, s2⟩ := sc L xs s
  obtain ⟨hE, hQ, fin⟩ := K h2 σ2 a' e' ⟨s2, S2, ln.i I, ln.tx X, M2, A2⟩ (by omega) (by omega)
  refine ⟨hE, hQ, ?_⟩
  refine g_l rfl rfl rfl ?_
  refine l_arg s h0 rfl rfl rfl rfl rfl rfl rfl ?_
  rw [hz]
  refine g_iv rfl rfl rfl (S.t 1 rfl) (by decide) rfl U1 ?_
  refine g_l rfl rfl rfl ?_
  refine l_arg s1 h0 rfl rfl rfl rfl rfl rfl rfl ?_
  rw [hz]
  refine g_iv rfl rfl rfl (S1.t 58 rfl) (by decide) rfl U2 ?_
  exact eq_go rfl (by decide) gk rfl fin
theorem lvS.two {b k : Int} : lvS (lwB i) ((7, vi b) :: (6, vi k) :: lwB i) := by
  refine ⟨lwB_nd i, fun j v hj => ?_⟩
  have n : j ≠ 7 ∧ j ≠ 6 := by
    refine ⟨?_, ?_⟩
    · rintro rfl; cases hj
    · rintro rfl; cases hj
  rw [List.lookup_cons, show (j == 7) = false from beq_eq_false_iff_ne.mpr n.1]
  dsimp only
  rw [List.lookup_cons, show (j == 6) = false from beq_eq_false_iff_ne.mpr n.2]
  exact hj
theorem lvS.one {k : Value} : lvS (lwB i) ((6, k) :: lwB i) := by
  refine ⟨lwB_nd i, fun j v hj => ?_⟩
  have n : j ≠ 6 := by rintro rfl; cases hj
  rw [List.lookup_cons, show (j == 6) = false from beq_eq_false_iff_ne.mpr n]
  exact hj
/-- 6: value -/
theorem op_6 (I : lpI L xs h σ a e) (h0 : 0 ≤ i ∧ i + 2 ≤ L) (hq : ptA h a e ≤ 2000000) (Q : mHp → Prop) (K : ∀ h' σ' a' e', lpI L xs h' σ' a' e' → ptA h' a' e' ≤ ptA h a e + 130 → ptB h' a' e' ≤ ptB h a e + 780 → ∃ h2, Q h2 ∧ Go (d + 352) true 229 (438, lwB i, [], put h' σ') (.inl (some (vi 1)), h2)) : ∃ h2, Q h2 ∧ Go (d + 352) true 229 (257, lwB i, [], put h σ) (.inl (some (vi 1)), h2) := by
  obtain ⟨s, S, I, X, M, A⟩ := I
  have ha := A.1
  have hh : h.1 ≤ 2000000000 := by unfold ptA at hq; omega
  have gz : rg (xs (i + 1).toNat).toInt := rg_toInt
  generalize hz : (xs (i + 1).toNat).toInt = z at gz
  obtain ⟨k, b, h1, U1, br, R2, hk, gb, hb, kb⟩ := both_val (d := d) A hh M S gz
  have S1 := br.1
  obtain ⟨⟨M2, -⟩, U2⟩ := R2 M S1
  have gk : rg k := by unfold rg; omega
  have s1 := br.2.1 L xs s
  have U3 : Rn (d + 352) yMo_thrown [.ref 58] (mup σ 58 0 k) (some k) (mup σ 58 0 k) := M_Mo_thrown (d := d + 348) ⟨by rw [mup_eq], rfl⟩
  have ln : lnK σ (mup σ 58 0 k) := lnK.m0 (Or.inl rfl)
  obtain ⟨hE, hQ, fin⟩ : ∃ h2, Q h2 ∧ Go (d + 352) true 229 (438, lwB i, [], put h1 (mup σ 58 0 k)) (.inl (some (vi 1)), h2) := K h1 _ a e ⟨s1, S1, ln.i I, ln.tx X, M2, A.ke (kb.tr (keB.mem (kpW.m8 (Or.inl mlK_0))))⟩ br.pt.1 br.pt.2
  have fin := go_lv (lvS.two (b := b) (k := k)) fin
  refine ⟨hE, hQ, ?_⟩
  refine g_l rfl rfl rfl ?_
  refine l_arg s h0 rfl rfl rfl rfl rfl rfl rfl ?_
  rw [hz]
  refine g_l rfl rfl rfl ?_
  refine g_is rfl (by decide) (Nat.le_of_ble_eq_true rfl) rfl rfl rfl U1 ?_
  refine g_l rfl rfl rfl ?_
  refine g_l rfl rfl rfl ?_
  refine l_arg s1 h0 rfl rfl rfl rfl rfl rfl rfl ?_
  rw [hz]
  refine g_iv rfl rfl rfl (S1.t 58 rfl) (by decide) rfl U2 ?_
  refine g_l rfl rfl rfl ?_
  refine g_l rfl rfl rfl ?_
  refine g_iv rfl rfl rfl (S1.t 58 rfl) (by decide) rfl (U3.at M2 S1) ?_
  refine g_l rfl rfl rfl ?_
  refine eq_go rfl (by decide) gk rfl ?_
  refine g_l rfl rfl rfl ?_
  by_cases k0 : k = 0
  · subst k0
    have a98 : hAt (put h1 (mup σ 58 0 0)) 98 0 = .long (Int32.ofInt b).toInt64 := by
      rw [put_no rfl]; exact hb rfl
    refine gi_z rfl (by decide) gk (q := false) rfl rfl ?_
    refine g_l rfl rfl rfl ?_
    refine gi_k (x := 0) rfl rfl rfl rfl ?_
    refine gi_al (z := 0) (t := 103) (j := 98) rfl rfl rfl rfl (S1.t 98 rfl) (by decide) (by rw [show hLen (put h1 (mup σ 58 0 0)) 98 = 1 from S1.l 98 rfl]; decide) (by rw [show hLen (put h1 (mup σ 58 0 0)) 98 = 1 from S1.l 98 rfl]; decide) a98 ?_
    refine g_l rfl rfl rfl ?_
    refine g_p rfl rfl rfl ?_
    refine g_p (st' := [vi 0]) rfl rfl ?_ ?_
    · simp only [mPure, mLL, lg_rr]; rfl
    refine gi_z rfl (by decide) (rgk rfl) (q := true) rfl rfl ?_
    exact g_b rfl rfl rfl rfl fin
  · refine gi_z rfl (by decide) gk (q := true) ?_ rfl ?_
    · exact decide_eq_true k0
    · exact g_b rfl rfl rfl rfl fin
theorem lvS.rd {b : UInt64} {k : Int} : lvS (lwB i) ((7, .double b) :: (6, vi k) :: lwB i) := by
  refine ⟨lwB_nd i, fun j v hj => ?_⟩
  have n : j ≠ 7 ∧ j ≠ 6 := by
    refine ⟨?_, ?_⟩
    · rintro rfl; cases hj
    · rintro rfl; cases hj
  rw [List.lookup_cons, show (j == 7) = false from beq_eq_false_iff_ne.mpr n.1]
  dsimp only
  rw [List.lookup_cons, show (j == 6) = false from beq_eq_false_iff_ne.mpr n.2]
  exact hj
/-- 8: item -/
theorem op_8 (I : lpI L xs h σ a e) (h0 : 0 ≤ i ∧ i + 2 ≤ L) (hq : ptA h a e ≤ 2000000) (Q : mHp → Prop) (K : ∀ h' σ' a' e', lpI L xs h' σ' a' e' → ptA h' a' e' ≤ ptA h a e + 130 → ptB h' a' e' ≤ ptB h a e + 780 → ∃ h2, Q h2 ∧ Go (d + 352) true 229 (438, lwB i, [], put h' σ') (.inl (some (vi 1)), h2)) : ∃ h2, Q h2 ∧ Go (d + 352) true 229 (378, lwB i, [], put h σ) (.inl (some (vi 1)), h2) := by
  obtain ⟨s, S, I, X, M, A⟩ := I
  have ha := A.1
  have hh : h.1 ≤ 2000000000 := by unfold ptA at hq; omega
  have gz : rg (xs (i + 1).toNat).toInt := rg_toInt
  generalize hz : (xs (i + 1).toNat).toInt = z at gz
  obtain ⟨k, h1, h2, σ2, U1, br, R2, hk, ek, b2, ln, A2⟩ := both_itm (d := d) A hh M S gz
  have S1 := br.1
  obtain ⟨⟨M2, S2⟩, U2⟩ := R2 M S1
  have gk : rg k := by unfold rg; omega
  have s1 := br.2.1 L xs s
  have U3 : Rn (d + 352) yMo_thrown [.ref 58] σ2 (some k) σ2 := M_Mo_thrown (d := d + 348) ⟨by rw [ek], rfl⟩
  obtain ⟨hE, hQ, fin⟩ : ∃ hE, Q hE ∧ Go (d + 352) true 229 (438, lwB i, [], put h2 σ2) (.inl (some (vi 1)), hE) := K h2 _ a e ⟨b2.2.1 L xs s, S2, ln.i I, ln.tx X, M2, A2⟩ b2.pt.1 b2.pt.2
  have fin := go_lv (lvS.one (k := vi k)) fin
  refine ⟨hE, hQ, ?_⟩
  refine g_l rfl rfl rfl ?_
  refine l_arg s h0 rfl rfl rfl rfl rfl rfl rfl ?_
  rw [hz]
  refine g_is rfl (by decide) (Nat.le_of_ble_eq_true rfl) rfl rfl rfl U1 ?_
  refine g_l rfl rfl rfl ?_
  refine g_l rfl rfl rfl ?_
  refine l_arg s1 h0 rfl rfl rfl rfl rfl rfl rfl ?_
  rw [hz]
  refine g_iv rfl rfl rfl (S1.t 58 rfl) (by decide) rfl U2 ?_
  refine g_l rfl rfl rfl ?_
  refine g_iv rfl rfl rfl (S2.t 58 rfl) (by decide) rfl (U3.at M2 S2) ?_
  refine g_l rfl rfl rfl ?_
  refine eq_go rfl (by decide) gk rfl ?_
  exact g_b rfl rfl rfl rfl fin
/-- 9: top -/
theorem op_9 (I : lpI L xs h σ a e) (hq : ptA h a e ≤ 2000000) (Q : mHp → Prop) (K : ∀ h' σ' a' e', lpI L xs h' σ' a' e' → ptA h' a' e' ≤ ptA h a e + 130 → ptB h' a' e' ≤ ptB h a e + 780 → ∃ h2, Q h2 ∧ Go (d + 352) true 229 (438, lwB i, [], put h' σ') (.inl (some (vi 1)), h2)) : ∃ h2, Q h2 ∧ Go (d + 352) true 229 (414, lwB i, [], put h σ) (.inl (some (vi 1)), h2) := by
  obtain ⟨s, S, I, X, M, A⟩ := I
  obtain ⟨k, h1, h2, σ2, U1, br, R2, hk, ek, b2, ln, A2⟩ := both_top (d := d) A M S
  have S1 := br.1
  obtain ⟨⟨M2, S2⟩, U2⟩ := R2 M S1
  have gk : rg k := by unfold rg; omega
  have U3 : Rn (d + 352) yMo_thrown [.ref 58] σ2 (some k) σ2 := M_Mo_thrown (d := d + 348) ⟨by rw [ek], rfl⟩
  obtain ⟨hE, hQ, fin⟩ : ∃ hE, Q hE ∧ Go (d + 352) true 229 (438, lwB i, [], put h2 σ2) (.inl (some (vi 1)), hE) := K h2 _ a e ⟨b2.2.1 L xs s, S2, ln.i I, ln.tx X, M2, A2⟩ b2.pt.1 b2.pt.2
  have fin := go_lv (lvS.one (k := vi k)) fin
  refine ⟨hE, hQ, ?_⟩
  refine g_l rfl rfl rfl ?_
  refine g_is rfl (by decide) (Nat.le_of_ble_eq_true rfl) rfl rfl rfl U1 ?_
  refine g_l rfl rfl rfl ?_
  refine g_l rfl rfl rfl ?_
  refine g_iv rfl rfl rfl (S1.t 58 rfl) (by decide) rfl U2 ?_
  refine g_l rfl rfl rfl ?_
  refine g_iv rfl rfl rfl (S2.t 58 rfl) (by decide) rfl (U3.at M2 S2) ?_
  refine g_l rfl rfl rfl ?_
  refine eq_go rfl (by decide) gk rfl ?_
  exact g_b rfl rfl rfl rfl fin
/-- 7: real -/
theorem op_7 (I : lpI L xs h σ a e) (hq : ptA h a e ≤ 2000000) (Q : mHp → Prop) (K : ∀ h' σ' a' e', lpI L xs h' σ' a' e' → ptA h' a' e' ≤ ptA h a e + 130 → ptB h' a' e' ≤ ptB h a e + 780 → ∃ h2, Q h2 ∧ Go (d + 352) true 229 (438, lwB i, [], put h' σ') (.inl (some (vi 1)), h2)) : ∃ h2, Q h2 ∧ Go (d + 352) true 229 (313, lwB i, [], put h σ) (.inl (some (vi 1)), h2) := by
  obtain ⟨s, S, I, X, M, A⟩ := I
  obtain ⟨k, b, h1, U1, br, R2, hk, hb, kb⟩ := both_rea (d := d) A M S
  have S1 := br.1
  obtain ⟨⟨M2, -⟩, U2⟩ := R2 M S1
  have gk : rg k := by unfold rg; omega
  have s1 := br.2.1 L xs s
  have U3 : Rn (d + 352) yMo_thrown [.ref 58] (mup σ 58 0 k) (some k) (mup σ 58 0 k) := M_Mo_thrown (d := d + 348) ⟨by rw [mup_eq], rfl⟩
  have ln : lnK σ (mup σ 58 0 k) := lnK.m0 (Or.inl rfl)
  obtain ⟨hE, hQ, fin⟩ : ∃ h2, Q h2 ∧ Go (d + 352) true 229 (438, lwB i, [], put h1 (mup σ 58 0 k)) (.inl (some (vi 1)), h2) := K h1 _ a e ⟨s1, S1, ln.i I, ln.tx X, M2, A.ke (kb.tr (keB.mem (kpW.m8 (Or.inl mlK_0))))⟩ br.pt.1 br.pt.2
  have fin := go_lv (lvS.rd (b := b) (k := k)) fin
  refine ⟨hE, hQ, ?_⟩
  refine g_l rfl rfl rfl ?_
  refine g_l rfl rfl rfl ?_
  refine g_is rfl (by decide) (Nat.le_of_ble_eq_true rfl) rfl rfl rfl U1 ?_
  refine g_l rfl rfl rfl ?_
  refine g_l rfl rfl rfl ?_
  refine g_iv rfl rfl rfl (S1.t 58 rfl) (by decide) rfl U2 ?_
  refine g_l rfl rfl rfl ?_
  refine g_l rfl rfl rfl ?_
  refine g_iv rfl rfl rfl (S1.t 58 rfl) (by decide) rfl (U3.at M2 S1) ?_
  refine g_l rfl rfl rfl ?_
  refine eq_go rfl (by decide) gk rfl ?_
  refine g_l rfl rfl rfl ?_
  by_cases k0 : k = 0
  · subst k0
    obtain ⟨a99, eq⟩ := hb rfl
    have a99 : hAt (put h1 (mup σ 58 0 0)) 99 0 = .double b := by rw [put_no rfl]; exact a99
    refine gi_z rfl (by decide) gk (q := false) rfl rfl ?_
    refine g_l rfl rfl rfl ?_
    refine gi_k (x := 0) rfl rfl rfl rfl ?_
    refine gi_al (z := 0) (t := 104) (j := 99) rfl rfl rfl rfl (S1.t 99 rfl) (by decide) (by rw [show hLen (put h1 (mup σ 58 0 0)) 99 = 1 from S1.l 99 rfl]; decide) (by rw [show hLen (put h1 (mup σ 58 0 0)) 99 = 1 from S1.l 99 rfl]; decide) a99 ?_
    refine g_l rfl rfl rfl ?_
    refine g_p (st' := [vi 0]) rfl rfl ?_ ?_
    · simp only [mPure, mDD, eq, vi_toInt, Option.map_some]; rfl
    refine gi_z rfl (by decide) (rgk rfl) (q := true) rfl rfl ?_
    exact g_b rfl rfl rfl rfl fin
  · refine gi_z rfl (by decide) gk (q := true) ?_ rfl ?_
    · exact decide_eq_true k0
    · exact g_b rfl rfl rfl rfl fin
end BOPS
