/-! The model's run: operators. -/
section MOP2
variable {h h' h1 : mHp} {σ0 σ σ' σ1 σ2 : Mem} {d : Nat} {p z s b y k u : Int} {A B C : Tr} {ρ : En} {cx : Cx} {fs : List (Cx × En)} {vs : List Va} {v : Va} {S' : WkS}
theorem opO_i {x y : Va} (e : opV z x y = .inl v) : opO cx ρ vs fs (opV z x y) = .inl (1, nl, cx, ρ, v :: vs, fs) := by rw [e]; rfl
theorem opO_f {x y : Va} {c : Int} (e : opV z x y = .inr c) : opO cx ρ vs fs (opV z x y) = .inr c := by rw [e]; rfl
theorem m_oI (w : mOC σ0 h σ σ2 cx ρ vs fs s) {t : Nat} (ht : t = 0 ∨ t = 1) (gu : rg u) : ∃ h' σ', B_Mo_workNumbers_90 d 0 u h σ2 (.inl none) h' σ' ∧ mOutS σ0 h σ (s + 1) 0 h' σ' (.inl (1, nl, cx, ρ, .tag t (.nest u .nil) :: vs, fs)) := by
  obtain ⟨h', σ', K, o⟩ := m_oK (d := d + 1) (k := 0) (u := u) (v := .tag t (.nest u .nil)) w (rgk rfl) gu (by
    rcases ht with rfl | rfl
    · exact ⟨by omega, gu⟩
    · exact ⟨by omega, gu⟩)
  exact ⟨h', σ', ⟨h', σ', K, rfl, rfl, rfl⟩, o⟩
theorem m_opN (w : mOC σ0 h σ σ2 cx ρ vs fs s) {z x y : Int} (hz : opZ z) (h1 : z < 128) (gx : rg x) (gy : rg y) : ∃ h' σ', Rh (d + 5) yMo_workNumbers [.ref 58, vi z, vi x, vi y] h σ2 (.inl none) h' σ' ∧ mOutS σ0 h σ (s + 1) 0 h' σ' (opO cx ρ vs fs (opV z (vN x) (vN y))) := by
  have hz : z = 42 ∨ z = 43 ∨ z = 45 ∨ z = 47 ∨ z = 60 ∨ z = 61 := by unfold opZ at hz; omega
  rcases hz with rfl | rfl | rfl | rfl | rfl | rfl
  · have e : opV 42 (vN x) (vN y) = .inl (vN (i32 (x * y))) := by
      unfold opV
      rw [if_neg (by decide), if_neg (by decide), if_neg (by decide), if_neg (by decide), if_neg (by decide), if_neg (by decide), if_pos rfl]
      rfl
    obtain ⟨h', σ', S, o⟩ := m_oI (d := d) (t := 0) w (Or.inl rfl) (rg_32 (z := x * y))
    refine ⟨h', σ', M_Mo_workNumbers (rgk rfl) gx gy ?_, by rw [opO_i e]; exact o⟩
    unfold B_Mo_workNumbers B_Mo_workNumbers_16
    rw [if_pos (by decide), if_pos (by decide), if_pos (by decide), if_neg (by decide)]
    exact S
  · have e : opV 43 (vN x) (vN y) = .inl (vN (i32 (x + y))) := by
      unfold opV
      rw [if_neg (by decide), if_neg (by decide), if_neg (by decide), if_neg (by decide), if_pos rfl]
      rfl
    obtain ⟨h', σ', S, o⟩ := m_oI (d := d) (t := 0) w (Or.inl rfl) (rg_32 (z := x + y))
    refine ⟨h', σ', M_Mo_workNumbers (rgk rfl) gx gy ?_, by rw [opO_i e]; exact o⟩
    unfold B_Mo_workNumbers B_Mo_workNumbers_16
    rw [if_pos (by decide), if_neg (by decide)]
    exact S
  · have e : opV 45 (vN x) (vN y) = .inl (vN (i32 (x - y))) := by
      unfold opV
      rw [if_neg (by decide), if_neg (by decide), if_neg (by decide), if_neg (by decide), if_neg (by decide), if_pos rfl]
      rfl
    obtain ⟨h', σ', S, o⟩ := m_oI (d := d) (t := 0) w (Or.inl rfl) (rg_32 (z := x - y))
    refine ⟨h', σ', M_Mo_workNumbers (rgk rfl) gx gy ?_, by rw [opO_i e]; exact o⟩
    unfold B_Mo_workNumbers B_Mo_workNumbers_16
    rw [if_pos (by decide), if_pos (by decide), if_neg (by decide)]
    exact S
  · have e : opV 47 (vN x) (vN y) = if y = 0 then .inr 1 else .inl (vN (i32 (Int.tdiv x y))) := by
      unfold opV
      rw [if_neg (by decide), if_neg (by decide), if_neg (by decide), if_neg (by decide), if_neg (by decide), if_neg (by decide), if_neg (by decide)]
      rfl
    by_cases q : y = 0
    · rw [if_pos q] at e
      refine ⟨_, _, M_Mo_workNumbers (rgk rfl) gx gy ?_, by rw [opO_f e]; exact m_oF w⟩
      unfold B_Mo_workNumbers
      rw [if_neg (by decide), if_neg (by omega)]
      exact ⟨_, _, r_mfail (rgk rfl), rfl, rfl, rfl⟩
    · rw [if_neg q] at e
      obtain ⟨h', σ', S, o⟩ := m_oI (d := d) (t := 0) w (Or.inl rfl) (rg_32 (z := Int.tdiv x y))
      refine ⟨h', σ', M_Mo_workNumbers (rgk rfl) gx gy ?_, by rw [opO_i e]; exact o⟩
      unfold B_Mo_workNumbers B_Mo_workNumbers_16
      rw [if_neg (by decide), if_pos q, if_pos (by decide), if_pos (by decide), if_pos (by decide), if_neg (by decide), zDiv_32 gx gy]
      exact ⟨q, S⟩
  · have e : opV 60 (vN x) (vN y) = .inl (vB (if x < y then 1 else 0)) := by
      unfold opV
      rw [if_neg (by decide), if_neg (by decide), if_pos rfl]
      rfl
    by_cases q : x < y
    · rw [if_pos q] at e
      obtain ⟨h', σ', S, o⟩ := m_oI (d := d) (t := 1) (u := 1) w (Or.inr rfl) (rgk rfl)
      refine ⟨h', σ', M_Mo_workNumbers (rgk rfl) gx gy ?_, by rw [opO_i e]; exact o⟩
      unfold B_Mo_workNumbers B_Mo_workNumbers_16
      rw [if_pos (by decide), if_pos (by decide), if_pos (by decide), if_pos (by decide), if_pos (by decide), if_neg (by decide), if_neg (by omega)]
      exact S
    · rw [if_neg q] at e
      obtain ⟨h', σ', S, o⟩ := m_oI (d := d) (t := 1) (u := 0) w (Or.inr rfl) (rgk rfl)
      refine ⟨h', σ', M_Mo_workNumbers (rgk rfl) gx gy ?_, by rw [opO_i e]; exact o⟩
      unfold B_Mo_workNumbers B_Mo_workNumbers_16
      rw [if_pos (by decide), if_pos (by decide), if_pos (by decide), if_pos (by decide), if_pos (by decide), if_neg (by decide), if_pos (by omega)]
      exact S
  · have e : opV 61 (vN x) (vN y) = .inl (vB (if x = y then 1 else 0)) := by
      unfold opV
      rw [if_neg (by decide), if_neg (by decide), if_neg (by decide), if_pos rfl]
      rfl
    by_cases q : x = y
    · rw [if_pos q] at e
      obtain ⟨h', σ', S, o⟩ := m_oI (d := d) (t := 1) (u := 1) w (Or.inr rfl) (rgk rfl)
      refine ⟨h', σ', M_Mo_workNumbers (rgk rfl) gx gy ?_, by rw [opO_i e]; exact o⟩
      unfold B_Mo_workNumbers B_Mo_workNumbers_16
      rw [if_pos (by decide), if_pos (by decide), if_pos (by decide), if_pos (by decide), if_pos (by decide), if_pos (by decide), if_neg (by omega)]
      exact S
    · rw [if_neg q] at e
      obtain ⟨h', σ', S, o⟩ := m_oI (d := d) (t := 1) (u := 0) w (Or.inr rfl) (rgk rfl)
      refine ⟨h', σ', M_Mo_workNumbers (rgk rfl) gx gy ?_, by rw [opO_i e]; exact o⟩
      unfold B_Mo_workNumbers B_Mo_workNumbers_16
      rw [if_pos (by decide), if_pos (by decide), if_pos (by decide), if_pos (by decide), if_pos (by decide), if_pos (by decide), if_pos (by omega)]
      exact S
theorem m_106 (w : mOC σ0 h σ σ2 cx ρ vs fs s) : ∃ h' σ', B_Mo_workReals_106 d h σ2 (.inl none) h' σ' ∧ mOutS σ0 h σ (s + 1) 0 h' σ' (.inr 3) := ⟨_, _, ⟨_, _, r_mfail (d := d + 2) (rgk rfl), rfl, rfl, rfl⟩, m_oF w⟩
theorem m_86 (w : mOC σ0 h σ σ2 cx ρ vs fs s) {q : UInt64} : ∃ h' σ', B_Mo_workReals_86 d q h σ2 (.inl none) h' σ' ∧ mOutS σ0 h σ (s + 1) 0 h' σ' (opO cx ρ vs fs (if dLt big9 q = true ∨ dLt q (FP.dneg big9) = true then .inr 3 else .inl (vR q))) := by
  by_cases q1 : dLt big9 q = true
  · obtain ⟨h', σ', S, o⟩ := m_106 (d := d) w
    refine ⟨h', σ', ?_, by rw [if_pos (Or.inl q1)]; exact o⟩
    unfold B_Mo_workReals_86
    rw [k_big, if_pos (cv_gt.mpr q1)]
    exact S
  by_cases q2 : dLt q (FP.dneg big9) = true
  · obtain ⟨h', σ', S, o⟩ := m_106 (d := d) w
    refine ⟨h', σ', ?_, by rw [if_pos (Or.inr q2)]; exact o⟩
    unfold B_Mo_workReals_86
    rw [k_big, k_nbig, if_neg (fun e => q1 (cv_gt.mp e)), if_neg (fun e => by rw [cv_ge.mp e] at q2; cases q2)]
    exact S
  obtain ⟨h', σ', S, o⟩ := m_oR (d := d) (x := q) w
  refine ⟨h', σ', ?_, by rw [if_neg (fun e => e.elim q1 q2)]; exact o⟩
  unfold B_Mo_workReals_86
  rw [k_big, k_nbig, if_neg (fun e => q1 (cv_gt.mp e)), if_pos (cv_ge.mpr (by simpa using q2))]
  exact ⟨h', σ', S, rfl, rfl, rfl⟩
theorem m_opR (w : mOC σ0 h σ σ2 cx ρ vs fs s) {z : Int} {x y : UInt64} (hz : opZ z) (h1 : 128 ≤ z) (hx : FP.Core.DFin x) (hy : FP.Core.DFin y) : ∃ h' σ', Rh (d + 5) yMo_workReals [.ref 58, vi (z - 128), .double x, .double y] h σ2 (.inl none) h' σ' ∧ mOutS σ0 h σ (s + 1) 0 h' σ' (opO cx ρ vs fs (opV z (vR x) (vR y))) := by
  by_cases h2 : z = 188
  · subst h2
    have e : opV 188 (vR x) (vR y) = .inl (vB (if dLt x y = true then 1 else 0)) := by
      unfold opV
      rw [if_pos rfl, toR_vR, toR_vR]
    by_cases q : dLt x y = true
    · rw [if_pos q] at e
      obtain ⟨h', σ', S, o⟩ := m_oI (d := d) (t := 1) (u := 1) w (Or.inr rfl) (rgk rfl)
      refine ⟨h', σ', M_Mo_workReals (rgk rfl) ?_, by rw [opO_i e]; exact o⟩
      unfold B_Mo_workReals
      rw [if_neg (by decide), if_neg (fun e => by rw [cv_ge.mp e] at q; cases q)]
      exact S
    · rw [if_neg q] at e
      obtain ⟨h', σ', S, o⟩ := m_oI (d := d) (t := 1) (u := 0) w (Or.inr rfl) (rgk rfl)
      refine ⟨h', σ', M_Mo_workReals (rgk rfl) ?_, by rw [opO_i e]; exact o⟩
      unfold B_Mo_workReals
      rw [if_neg (by decide), if_pos (cv_ge.mpr (by simpa using q))]
      exact S
  rw [opV_R h1 h2]
  have hz : z = 170 ∨ z = 171 ∨ z = 173 ∨ z = 175 := by unfold opZ at hz; omega
  rcases hz with rfl | rfl | rfl | rfl
  · obtain ⟨h', σ', S, o⟩ := m_86 (d := d) w (q := FP.dmul x y)
    refine ⟨h', σ', M_Mo_workReals (rgk rfl) ?_, by rw [if_neg (fun e => absurd e.1 (by decide))]; exact o⟩
    unfold B_Mo_workReals B_Mo_workReals_43
    rw [if_pos (by decide), if_pos (by decide), if_pos (by decide), if_pos (by decide), if_neg (by decide)]
    exact ⟨nn_of (FP.Core.dmul_out hx hy), S⟩
  · obtain ⟨h', σ', S, o⟩ := m_86 (d := d) w (q := FP.dadd x y)
    refine ⟨h', σ', M_Mo_workReals (rgk rfl) ?_, by rw [if_neg (fun e => absurd e.1 (by decide))]; exact o⟩
    unfold B_Mo_workReals B_Mo_workReals_43
    rw [if_pos (by decide), if_pos (by decide), if_neg (by decide)]
    exact ⟨nn_of (FP.Core.dadd_out hx.notNaN hy), S⟩
  · obtain ⟨h', σ', S, o⟩ := m_86 (d := d) w (q := FP.dsub x y)
    refine ⟨h', σ', M_Mo_workReals (rgk rfl) ?_, by rw [if_neg (fun e => absurd e.1 (by decide))]; exact o⟩
    unfold B_Mo_workReals B_Mo_workReals_43
    rw [if_pos (by decide), if_pos (by decide), if_pos (by decide), if_neg (by decide)]
    exact ⟨nn_of (FP.Core.dsub_out hx.notNaN hy), S⟩
  · by_cases q : FP.dcmp y 0 = some .eq
    · refine ⟨_, _, M_Mo_workReals (rgk rfl) ?_, by rw [if_pos ⟨rfl, q⟩]; exact m_oF w⟩
      unfold B_Mo_workReals
      rw [if_pos (by decide), if_neg (by decide), if_neg (fun e => cv_ne.mp e (by rw [k_zero]; exact q))]
      exact ⟨_, _, r_mfail (d := d + 2) (rgk rfl), rfl, rfl, rfl⟩
    · obtain ⟨h', σ', S, o⟩ := m_86 (d := d) w (q := FP.ddiv x y)
      refine ⟨h', σ', M_Mo_workReals (rgk rfl) ?_, by rw [if_neg (fun e => q e.2)]; exact o⟩
      unfold B_Mo_workReals B_Mo_workReals_43
      rw [if_pos (by decide), if_neg (by decide), if_pos (cv_ne.mpr (by rw [k_zero]; exact q)), if_pos (by decide), if_pos (by decide), if_pos (by decide)]
      exact ⟨nn_of (FP.Core.ddiv_out hx.notNaN hy (fun e => q (zero_eq e))), S⟩
theorem ms_op (R : mRel σ0 h σ s (2, nd 9 z A B C, cx, ρ, vs, fs)) (W : wkV (2, nd 9 z A B C, cx, ρ, vs, fs)) (h14 : hd14 cx = none) (ok : stOK FP.Core.DFin 9 z B vs) (hs : s + 1 ≤ 500) {o : WkS ⊕ Int} (hm : wkS (2, nd 9 z A B C, cx, ρ, vs, fs) = some o) : ∃ h' σ', Rh (d + 7) yMo_execute [.ref 58] h σ (.inl none) h' σ' ∧ mOutS σ0 h σ (s + 1) 0 h' σ' o := by
  obtain ⟨x, y, vs, rfl, kr, kn⟩ := ok
  rw [wk_op] at hm
  cases hm
  have ww : wf (nd 9 z A B C) := by
    rcases W.1.1 with e | e | e
    · cases e.1
    · cases e
    · exact e.2.2.1
  have hz : opZ z := ww.1
  have hzr : z = 42 ∨ z = 43 ∨ z = 45 ∨ z = 47 ∨ z = 60 ∨ z = 61 ∨ z = 170 ∨ z = 171 ∨ z = 173 ∨ z = 175 ∨ z = 188 := by unfold opZ at hz; omega
  obtain ⟨hl, q, e51, ps, vt⟩ := R
  have hl : vs.length + 1 + 1 ≤ 200 := hl
  have e51 : σ 58 51 = ((vs.length + 1 + 1 : Nat) : Int) := e51
  have e51 : σ 58 51 = (vs.length : Int) + 2 := by omega
  unfold psM at ps
  rw [if_neg (by decide), if_neg (by decide)] at ps
  obtain ⟨a, c, pe, cp⟩ := ps
  have pe : σ 58 64 = a + (ln A + ln B) := pe
  rw [if_neg (by decide), if_neg (by decide)] at vt
  obtain ⟨⟨y1, ey1, ry1⟩, ⟨y2, ey2, ry2⟩, va⟩ := vt
  have ry1 : RMv h σ (pfM σ0) (mOf σ) y false y1 := ry1
  have ey1 : hAt h 89 (vs.length + 1) = vlg y1 := ey1
  obtain ⟨⟨pg, p124⟩, ⟨bo, s1, s2, -⟩, -⟩ := id q
  obtain ⟨⟨t, ic, -⟩, -, p0, p1⟩ := c
  have a1 := ln_ge (T := A)
  have a2 := ln_ge (T := B)
  have p1 : a + (ln A + ln B + 1) ≤ σ0 58 11 := p1
  have cp : cxM σ0 (!fs.isEmpty) cx (nmEn ρ) (a + (ln A + ln B + 1)) := cp
  obtain ⟨x1, x2, -⟩ := pg.row (show cell (prM σ0) (a + ln A + ln B) 9 z 0 from ic.2.2)
  have pe : σ 58 64 = a + ln A + ln B := by omega
  have f1 : (mup σ 58 64 (a + ln A + ln B + 1)) 58 51 = (vs.length : Int) + 2 := (mup_nk (by decide)).trans e51
  have w := mOC.two (p := a + ln A + ln B + 1) (a := vs.length + 1) q va (by omega) h14 hs (by rw [show a + ln A + ln B + 1 = a + (ln A + ln B + 1) by omega]; exact cp)
  have oo : (mup (mup (mup σ 58 64 (a + ln A + ln B + 1)) 58 51 (vs.length + 1)) 58 51 vs.length) 93 = σ 93 := by rw [mup_obj (by decide), mup_obj (by decide), mup_obj (by decide)]
  have me : mOf (mup (mup (mup σ 58 64 (a + ln A + ln B + 1)) 58 51 (vs.length + 1)) 58 51 vs.length) = mOf σ := by
    unfold mOf
    rw [mup_nk (by decide), mup_nk (by decide), mup_nk (by decide), mup_nk (by decide), mup_nk (by decide), mup_nk (by decide), mup_nk (by decide), mup_nk (by decide), mup_nk (by decide)]
  have ry2 := ry2.o8 oo me
  have ry1 := ry1.o8 oo me
  have bo2 : mBo (mOf (mup (mup (mup σ 58 64 (a + ln A + ln B + 1)) 58 51 (vs.length + 1)) 58 51 vs.length)) := by rw [me]; exact bo
  generalize hσ2 : mup (mup (mup σ 58 64 (a + ln A + ln B + 1)) 58 51 (vs.length + 1)) 58 51 vs.length = σ2 at w ry1 ry2 bo2
  have ex : ∀ {h' : mHp} {σ' : Mem}, (if z ≤ 128 then (∃ (v14 : Int) (h14 : mHp) (m14 : Mem), Rh (d + 5) yMo_told [vlg y2] h σ2 (.inl (some (vi v14))) h14 m14 ∧ rg v14 ∧ (∃ (v15 : Int) (h15 : mHp) (m15 : Mem), Rh (d + 5) yMo_told [vlg y1] h14 m14 (.inl (some (vi v15))) h15 m15 ∧ rg v15 ∧ (∃ h16 m16, Rh (d + 5) yMo_workNumbers [.ref 58, vi z, vi v14, vi v15] h15 m15 (.inl none) h16 m16 ∧ ((.inl none : mRes) = .inl none ∧ h' = h16 ∧ σ' = m16)))) else (∃ (v17 : UInt64) (h17 : mHp) (m17 : Mem), Rh (d + 5) yMo_realOf [.ref 58, vlg y2] h σ2 (.inl (some (.double v17))) h17 m17 ∧ (∃ (v18 : UInt64) (h18 : mHp) (m18 : Mem), Rh (d + 5) yMo_realOf [.ref 58, vlg y1] h17 m17 (.inl (some (.double v18))) h18 m18 ∧ (∃ h19 m19, Rh (d + 5) yMo_workReals [.ref 58, vi (z - 128), .double v17, .double v18] h18 m18 (.inl none) h19 m19 ∧ ((.inl none : mRes) = .inl none ∧ h' = h19 ∧ σ' = m19))))) → Rh (d + 7) yMo_execute [.ref 58] h σ (.inl none) h' σ' := fun {h' σ'} H => by
    refine M_Mo_execute ?_
    unfold B_Mo_execute
    rw [pe, x1, x2, if_pos (by decide), if_pos (by decide), if_pos (by decide), if_pos (by decide), if_pos (by decide), if_pos (by decide), if_pos (by decide), if_neg (by decide)]
    refine ⟨by unfold rg; omega, ⟨by omega, by omega⟩, ⟨by omega, by omega⟩, by unfold rg; omega, by unfold rg; omega, h', σ', M_Mo_work (by unfold rg; omega) ?_, by unfold rg; omega, e_231 (by decide) (by decide)⟩
    unfold B_Mo_work
    rw [f1, show (vs.length : Int) + 2 - 1 = vs.length + 1 by omega, show ((vs.length : Int) + 1).toNat = vs.length + 1 by omega]
    refine ⟨by unfold rg; omega, ⟨by omega, by omega⟩, y1, ey1, by unfold rg; omega, ?_⟩
    rw [if_pos (by omega), mup_eq, show (vs.length : Int) + 1 - 1 = vs.length by omega, Int.toNat_natCast]
    refine ⟨by unfold rg; omega, ⟨by omega, by omega⟩, y2, ey2, by unfold rg; omega, ?_⟩
    rw [if_pos (by omega), hσ2]
    exact H
  by_cases q1 : z < 128
  · obtain ⟨⟨p, rfl, gp⟩, p2, rfl, gp2⟩ := kn q1
    obtain ⟨ye2, -⟩ : y2 = 8 * p ∧ rg p := ry2
    obtain ⟨ye1, -⟩ : y1 = 8 * p2 ∧ rg p2 := ry1
    have T2 := r_told (d := d + 3) (h := h) (σ := σ2) (v := p) (k := 0) gp (by omega)
    have T1 := r_told (d := d + 3) (h := h) (σ := σ2) (v := p2) (k := 0) gp2 (by omega)
    rw [show 8 * p + 0 = y2 by omega] at T2
    rw [show 8 * p2 + 0 = y1 by omega] at T1
    obtain ⟨h', σ', S, o⟩ := m_opN (d := d) w hz q1 gp gp2
    refine ⟨h', σ', ex ?_, o⟩
    rw [if_pos (by omega)]
    exact ⟨p, h, σ2, T2, gp, p2, h, σ2, T1, gp2, h', σ', S, rfl, rfl, rfl⟩
  · obtain ⟨⟨p, rfl, gp⟩, p2, rfl, gp2⟩ := kr (by omega)
    obtain ⟨h', σ', S, o⟩ := m_opR (d := d) w hz (by omega) gp gp2
    refine ⟨h', σ', ex ?_, o⟩
    rw [if_neg (by omega)]
    exact ⟨p, h, σ2, r_realOf (d := d + 2) bo2 ry2, p2, h, σ2, r_realOf (d := d + 2) bo2 ry1, h', σ', S, rfl, rfl, rfl⟩
end MOP2
