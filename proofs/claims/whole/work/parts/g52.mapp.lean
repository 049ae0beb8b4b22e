/-! The model's run: applications. -/
/-- how many names a step binds -/
def wkB : WkS → Nat
  | (2, .tag k (.nest _ (.append _ (.append B _))), _, ρ, vs, _) => match k, vs with
    | 11, _ :: f :: _ => (match f with | .tag 4 _ => 0 | _ => 1)
    | 13, _ => 1
    | 14, _ => 1
    | 16, v :: _ => match brF B v ρ with
      | some (_, br, _) => numB br
      | none => 0
    | _, _ => 0
  | _ => 0
section MAPP
variable {h h' h1 : mHp} {σ0 σ σ' σ1 : Mem} {d : Nat} {p z s b y k u e r : Int} {A B C T : Tr} {ρ ρ' : En} {cx : Cx} {fs : List (Cx × En)} {vs : List Va} {v x : Va} {S S' : WkS}
theorem wk_spB (h : wkS S = some (.inl S')) : spA (abS S) = some (.inl (abS S', wkB S)) := by
  unfold wkS at h
  split at h
  · next k z A B C cx ρ vs fs =>
    have sh : ∀ vs, abS (2, nd k z A B C, cx, ρ, vs, fs) = ((1, nd k z A B C) :: upW cx, ρ, vs, fs.map (fun f => (upW f.1, f.2))) := fun _ => rfl
    show spA (abS (2, nd k z A B C, cx, ρ, vs, fs)) = some (.inl (abS S', wkB (2, nd k z A B C, cx, ρ, vs, fs)))
    rw [sh]
    split at h
    · cases h; rfl
    · next b a vs' =>
      split at h
      · next v hv => cases h; simp only [spA, nd, hv]; rfl
      · cases h
    · cases h; rfl
    · next x f vs' =>
      split at h
      · cases h; rfl
      · cases h; rfl
      · cases h; rfl
      · cases h
    · cases h; rfl
    · next v vs' =>
      split at h
      · cases h; rfl
      · cases h
    · next v vs' =>
      split at h
      · next q => cases h; simp only [spA, nd, if_pos q, abS, upW]; rfl
      · next q => cases h; simp only [spA, nd, if_neg q, abS, upW]; rfl
    · next v vs' =>
      split at h
      · next E br ρ' hb =>
        cases h
        obtain ⟨z', P, CC, rfl⟩ := br_17 hb
        have e : wkB (2, nd 16 z A B C, cx, ρ, v :: vs', fs) = numB (nd 17 z' P E CC) := by
          show (match brF B v ρ with | some (_, br, _) => numB br | none => 0) = _
          rw [hb]
        rw [e]
        simp only [spA, nd, hb]; rfl
      · cases h
    · cases h
  · cases h
theorem ms_app (R : mRel σ0 h σ s (2, nd 11 z A B C, cx, ρ, vs, fs)) (W : wkV (2, nd 11 z A B C, cx, ρ, vs, fs)) (h14 : hd14 cx = none) (ok : stOK FP.Core.DFin 11 z B vs) (hs : s + 1 ≤ 500) (hb : σ 58 57 + (wkB (2, nd 11 z A B C, cx, ρ, vs, fs) : Nat) ≤ 4299) {o : WkS ⊕ Int} (hm : wkS (2, nd 11 z A B C, cx, ρ, vs, fs) = some o) : ∃ h' σ', Rh (d + 7) yMo_execute [.ref 58] h σ (.inl none) h' σ' ∧ mOutS σ0 h σ (s + 1) (wkB (2, nd 11 z A B C, cx, ρ, vs, fs) : Nat) h' σ' o := by
  obtain ⟨f, x, vs, rfl, hf, hx⟩ := ok
  obtain ⟨hl, q, e51, ps, vt⟩ := R
  have hl : vs.length + 1 + 1 ≤ 200 := hl
  have e51 : σ 58 51 = ((vs.length + 1 + 1 : Nat) : Int) := e51
  have e51 : σ 58 51 = (vs.length : Int) + 2 := by omega
  unfold psM at ps
  rw [if_neg (by decide), if_neg (by decide)] at ps
  obtain ⟨a, c, pe, cp⟩ := ps
  have pe : σ 58 64 = a + (ln A + ln B) := pe
  rw [if_neg (by decide), if_neg (by decide)] at vt
  obtain ⟨⟨y3, ey3, ry3⟩, ⟨y6, ey6, ry6⟩, va⟩ := vt
  have ry3 : RMv h σ (pfM σ0) (mOf σ) x false y3 := ry3
  have ey3 : hAt h 89 (vs.length + 1) = vlg y3 := ey3
  obtain ⟨⟨pg, p124⟩, ⟨bo, s1, s2, s3⟩, re, e54, -⟩ := id q
  obtain ⟨⟨t, ic, -⟩, -, p0, p1⟩ := c
  have a1 := ln_ge (T := A)
  have a2 := ln_ge (T := B)
  have p1 : a + (ln A + ln B + 1) ≤ σ0 58 11 := p1
  have cp : cxM σ0 (!fs.isEmpty) cx (nmEn ρ) (a + (ln A + ln B + 1)) := cp
  have cp : cxM σ0 (!fs.isEmpty) cx (nmEn ρ) (a + ln A + ln B + 1) := by rw [show a + ln A + ln B + 1 = a + (ln A + ln B + 1) by omega]; exact cp
  obtain ⟨x1, x2, -⟩ := pg.row (show cell (prM σ0) (a + ln A + ln B) 8 1 0 from ic.2.2)
  have pe : σ 58 64 = a + ln A + ln B := by omega
  have f1 : (mup σ 58 64 (a + ln A + ln B + 1)) 58 51 = (vs.length : Int) + 2 := (mup_nk (by decide)).trans e51
  have w3 : 0 ≤ σ 58 57 ∧ σ 58 57 ≤ 4299 := bo.2.2
  have pl : 0 ≤ σ 58 58 ∧ σ 58 58 ≤ σ 58 57 := re.pl bo
  have ex : ∀ {h' : mHp} {σ' : Mem}, Rh (d + 6) yMo_apply [.ref 58] h (mup σ 58 64 (a + ln A + ln B + 1)) (.inl none) h' σ' → Rh (d + 7) yMo_execute [.ref 58] h σ (.inl none) h' σ' := fun {h' σ'} H => by
    refine M_Mo_execute ?_
    unfold B_Mo_execute
    rw [pe, x1, x2, if_pos (by decide), if_pos (by decide), if_pos (by decide), if_pos (by decide), if_pos (by decide), if_pos (by decide), if_neg (by decide)]
    exact ⟨by unfold rg; omega, ⟨by omega, by omega⟩, ⟨by omega, by omega⟩, by unfold rg; omega, rgk rfl, h', σ', H, rgk rfl, e_231 (by decide) (by decide)⟩
  have vf := W.2.2.1 f (List.mem_cons_of_mem _ List.mem_cons_self)
  have hs2 : ((vs.length : Int) + 2 - 1).toNat = vs.length + 1 := by omega
  have hs3 : (vs.length : Int) + 2 - 2 = vs.length := by omega
  -- a function
  have fn : ∀ {y : Int} {bd : Tr} {ρ2 : En} {p e : Int}, y6 = 8 * (8192 * p + e) + 6 → 0 ≤ p ∧ p ≤ 124 → pfM σ0 (nd 12 y bd nl nl) (nmEn ρ2) p → RMv h σ (pfM σ0) (mOf σ) ρ2 true e → σ 58 57 + 1 ≤ 4299 → ∃ h' σ', Rh (d + 7) yMo_execute [.ref 58] h σ (.inl none) h' σ' ∧ mOut σ0 h σ (s + 1) 1 h' σ' (0, bd, [], eC y x ρ2, vs, (cx, ρ) :: fs) := fun {y bd ρ2 p e} ye hp cf r2 hb => by
    have e8 := r2.pl bo
    have e8 : 0 ≤ e ∧ e ≤ σ 58 57 := e8
    have gv : rg (8192 * p + e) := by unfold rg; omega
    have zd := zd_8 hp (e := e) ⟨e8.1, by omega⟩
    have zr := zr_8 hp (e := e) ⟨e8.1, by omega⟩
    obtain ⟨cb, cq⟩ := cf.bd
    refine ⟨_, _, ex (M_Mo_apply ?_), m_call (r := a + ln A + ln B + 1) q va (by omega) hb ry3 r2 cb cq cp⟩
    have K := r_kind (d := d + 3) (h := h) (σ := mup (mup σ 58 64 (a + ln A + ln B + 1)) 58 51 vs.length) (v := 8192 * p + e) (k := 6) (by omega)
    rw [← ye] at K
    have T1 := fun (h : mHp) (σ : Mem) => r_told (d := d + 3) (h := h) (σ := σ) (v := 8192 * p + e) (k := 6) gv (by omega)
    rw [← ye] at T1
    unfold B_Mo_apply
    rw [f1, hs2, hs3, Int.toNat_natCast]
    refine ⟨by unfold rg; omega, ⟨by omega, by omega⟩, y3, ey3, ⟨by omega, by omega⟩, y6, ey6, by unfold rg; omega, 6, h, _, K, rgk rfl, ?_⟩
    rw [if_pos (by decide)]
    have g54 : (mup (mup σ 58 64 (a + ln A + ln B + 1)) 58 51 vs.length) 58 54 = fs.length := by rw [mup_nk (by decide), mup_nk (by decide)]; exact e54
    have g64 : (mup (mup σ 58 64 (a + ln A + ln B + 1)) 58 51 vs.length) 58 64 = a + ln A + ln B + 1 := by rw [mup_nk (by decide), mup_eq]
    rw [g54, g64]
    have h54 : (mup (mup (mup σ 58 64 (a + ln A + ln B + 1)) 58 51 vs.length) 90 fs.length (a + ln A + ln B + 1)) 58 54 = fs.length := by rw [mup_ne (by decide)]; exact g54
    have h58 : (mup (mup (mup σ 58 64 (a + ln A + ln B + 1)) 58 51 vs.length) 90 fs.length (a + ln A + ln B + 1)) 58 58 = σ 58 58 := by rw [mup_ne (by decide), mup_nk (by decide), mup_nk (by decide)]
    rw [h54, h58]
    have i54 : (mup (mup (mup (mup σ 58 64 (a + ln A + ln B + 1)) 58 51 vs.length) 90 fs.length (a + ln A + ln B + 1)) 91 fs.length (σ 58 58)) 58 54 = fs.length := by rw [mup_ne (by decide)]; exact h54
    rw [i54]
    have j57 : (mup (mup (mup (mup (mup σ 58 64 (a + ln A + ln B + 1)) 58 51 vs.length) 90 fs.length (a + ln A + ln B + 1)) 91 fs.length (σ 58 58)) 58 54 (fs.length + 1)) 58 57 = σ 58 57 := by rw [mup_nk (by decide), mup_ne (by decide), mup_ne (by decide), mup_nk (by decide), mup_nk (by decide)]
    refine ⟨by unfold rg; omega, by unfold rg; omega, ⟨by omega, by omega⟩, by unfold rg; omega, by unfold rg; omega, ⟨by omega, by omega⟩, by unfold rg; omega, by unfold rg; omega, _, h, _, T1 _ _, gv, _, _, r_worth (d := d + 3) j57 ⟨w3.1, by omega⟩ (by rw [zr]; unfold rg; omega), _, _, _, T1 _ _, gv, rfl, rfl, ?_⟩
    rw [zr, zd]
  -- what a built-in function does
  have w := mOC.one q va (by omega) h14 hs cp
  have oo : (mup (mup σ 58 64 (a + ln A + ln B + 1)) 58 51 vs.length) 93 = σ 93 := by rw [mup_obj (by decide), mup_obj (by decide)]
  have me : mOf (mup (mup σ 58 64 (a + ln A + ln B + 1)) 58 51 vs.length) = mOf σ := by
    unfold mOf
    rw [mup_nk (by decide), mup_nk (by decide), mup_nk (by decide), mup_nk (by decide), mup_nk (by decide), mup_nk (by decide)]
  rcases fv_cs hf with ⟨y, rfl, hy⟩ | ⟨y, bd, Rr, ρ2, rfl⟩ | ⟨gn, y, bd, Rr, ρ2, rfl⟩
  · have hx : (y = 82 ∧ isNv x) ∨ (y = 73 ∧ isRv FP.Core.DFin x) := hx
    obtain ⟨ye, gy⟩ : y6 = 8 * y + 5 ∧ rg y := ry6
    have rx2 := ry3.o8 oo me
    have bo2 : mBo (mOf (mup (mup σ 58 64 (a + ln A + ln B + 1)) 58 51 vs.length)) := by rw [me]; exact bo
    generalize hσ2 : mup (mup σ 58 64 (a + ln A + ln B + 1)) 58 51 vs.length = σ2 at w rx2 bo2
    have K := r_kind (d := d + 3) (h := h) (σ := σ2) (v := y) (k := 5) (by omega)
    have T6 := r_told (d := d + 3) (h := h) (σ := σ2) (v := y) (k := 5) gy (by omega)
    rw [← ye] at K T6
    have pre : ∀ {h' : mHp} {σ' : Mem}, (if y ≠ 82 then (∃ (v24 : UInt64) (h24 : mHp) (m24 : Mem), Rh (d + 1 + 4) yMo_realOf [.ref 58, vlg y3] h σ2 (.inl (some (.double v24))) h24 m24 ∧ (∃ h25 m25, Rh (d + 1 + 4) yMo_known [.ref 58, vi 0, vi ((FP.d2i v24).toInt)] h24 m24 (.inl none) h25 m25 ∧ ((.inl none : mRes) = .inl none ∧ h' = h25 ∧ σ' = m25))) else (∃ (v26 : Int) (h26 : mHp) (m26 : Mem), Rh (d + 1 + 4) yMo_told [vlg y3] h σ2 (.inl (some (vi v26))) h26 m26 ∧ rg v26 ∧ (∃ h27 m27, Rh (d + 1 + 4) yMo_knownReal [.ref 58, .double (FP.i2d (Int32.ofInt v26))] h26 m26 (.inl none) h27 m27 ∧ ((.inl none : mRes) = .inl none ∧ h' = h27 ∧ σ' = m27)))) → Rh (d + 7) yMo_execute [.ref 58] h σ (.inl none) h' σ' := fun {h' σ'} H => ex (M_Mo_apply (d := d + 1) (by
      unfold B_Mo_apply
      rw [f1, hs2, hs3, Int.toNat_natCast, hσ2]
      refine ⟨by unfold rg; omega, ⟨by omega, by omega⟩, y3, ey3, ⟨by omega, by omega⟩, y6, ey6, by unfold rg; omega, 5, h, σ2, K, rgk rfl, ?_⟩
      rw [if_neg (by decide)]
      exact ⟨y, h, σ2, T6, gy, H⟩))
    rcases hx with ⟨rfl, z', rfl, gz⟩ | ⟨rfl, b0, rfl, fb⟩
    · obtain ⟨ze, -⟩ : y3 = 8 * z' ∧ rg z' := rx2
      have T3 := r_told (d := d + 3) (h := h) (σ := σ2) (v := z') (k := 0) gz (by omega)
      rw [show 8 * z' + 0 = y3 by omega] at T3
      obtain ⟨h', σ', S, o2⟩ := m_oR (d := d + 1) (x := FP.i2d (Int32.ofInt z')) w
      refine ⟨h', σ', pre ?_, by cases hm; exact o2⟩
      rw [if_neg (by decide)]
      exact ⟨z', h, σ2, T3, gz, h', σ', S, rfl, rfl, rfl⟩
    · obtain ⟨h', σ', S, o2⟩ := m_oK (d := d + 2) (k := 0) (u := (FP.d2i b0).toInt) (v := vN (FP.d2i b0).toInt) w (rgk rfl) rg_toInt ⟨by omega, rg_toInt⟩
      have eb : UInt64.ofNat ((b0.toNat : Int)).toNat = b0 := vR_at
      refine ⟨h', σ', pre ?_, ?_⟩
      · rw [if_pos (by decide)]
        exact ⟨b0, h, σ2, r_realOf (d := d + 2) bo2 rx2, h', σ', S, rfl, rfl, rfl⟩
      · have e : wkS (2, nd 11 z A B C, cx, ρ, vR b0 :: vI 73 :: vs, fs) = some (.inl (1, nl, cx, ρ, vN (FP.d2i (toR (vR b0))).toInt :: vs, fs)) := rfl
        rw [e, toR_vR] at hm
        cases hm
        exact o2
  · obtain ⟨hfn, ⟨hw, -⟩, -⟩ := vf
    obtain ⟨e12, hy⟩ := fn_12 hw
    cases e12
    obtain ⟨p, e, ye, hp, he, pf, r2⟩ := ry6
    obtain ⟨h', σ', X, o2⟩ := fn (y := y) (bd := bd) ye hp pf r2 hb
    exact ⟨h', σ', X, by cases hm; exact o2⟩
  · obtain ⟨hfn, ⟨hw, -⟩, -⟩ := vf
    obtain ⟨e12, hy⟩ := fn_12 hw
    cases e12
    have ry6' := ry6
    obtain ⟨p, e, ye, hp, he, pf, g92, r2⟩ := ry6
    obtain ⟨h', σ', X, o2⟩ := fn (y := y) (bd := bd) (ρ2 := eC gn (.tag 6 (.nest gn (.append (nd 12 y bd nl nl) ρ2))) ρ2) ye hp pf ⟨he, y6, g92, ry6', r2⟩ hb
    exact ⟨h', σ', X, by cases hm; exact o2⟩
end MAPP
