/-! The model's run: CASE. -/
/-- the most names of a branch -/
def brMx : Tr → Nat
  | .tag _ (.nest _ (.append P (.append _ C))) => max (bnd P).length (brMx C)
  | _ => 0
/-- what the branches come to -/
def brO (cx : Cx) (vs : List Va) (fs : List (Cx × En)) : Option (Tr × Tr × En) → WkS ⊕ Int
  | some (E, br, ρ') => .inl (0, E, (2, br) :: cx, ρ', vs, fs)
  | none => .inr 2
def brNm : Option (Tr × Tr × En) → Nat
  | some (_, br, _) => numB br
  | none => 0
section MCAS
variable {h h' h1 : mHp} {σ0 σ σ' σ1 : Mem} {d : Nat} {p z s b y k u e r : Int} {A B C T : Tr} {ρ ρ' : En} {cx : Cx} {fs : List (Cx × En)} {vs : List Va} {v x : Va} {S S' : WkS}
theorem frF.wm (f : frF b h h' σ σ') : frWm h h' σ σ' := ⟨f.1, fun i a c x => f.2.1 i x (by omega) (by omega), f.2.2.1, fun i a b c d => funext fun k => f.2.2.2 i k (by omega) (by omega), fun k _ _ a b _ _ _ _ _ => f.2.2.2 58 k (by omega) (by omega)⟩
theorem frF.o (f : frF b h h' σ σ') {i : Nat} (h1 : i ≠ 58) (h2 : i ≠ 93) : σ' i = σ i := funext fun k => f.2.2.2 i k (by omega) (by omega)
theorem frF.kq (f : frF b h h' σ σ') {k : Int} (h1 : k ≠ 57) (h2 : k ≠ 58) : σ' 58 k = σ 58 k := f.2.2.2 58 k (by omega) (by omega)
/-- the next instruction is 16, 15 or 17: the rows -/
theorem e_15 {x1 x2 : Int} (g1 : rg x1) (g2 : rg x2) : Rh (d + 6) yMo_flow [.ref 58, vi x1, vi x2, vi 15] h σ (.inl none) h σ := M_Mo_flow g1 g2 (rgk rfl) (by
  unfold B_Mo_flow
  rw [if_pos (by decide), if_pos (by decide), if_pos (by decide)]
  exact ⟨rfl, rfl, rfl⟩)
/-- none fits -/
theorem x_17 (e : σ 58 64 = p) (rp : 0 ≤ p ∧ p < 124) (c1 : σ 63 p = 17) (c2 : σ 64 p = 0) : Rh (d + 7) yMo_execute [.ref 58] h σ (.inl none) h (mup (mup (mup σ 58 64 (p + 1)) 58 65 3) 58 66 2) := by
  refine M_Mo_execute ?_
  unfold B_Mo_execute
  rw [e, c1, c2, if_pos (by decide), if_pos (by decide), if_pos (by decide), if_pos (by decide), if_pos (by decide), if_pos (by decide), if_pos (by decide), if_pos (by decide), if_neg (by decide), if_pos (by decide), if_pos (by decide), if_neg (by decide)]
  exact ⟨by unfold rg; omega, rp, rp, by unfold rg; omega, rgk rfl, _, _, r_mfail (d := d + 4) (rgk rfl), rgk rfl, e_231 (by decide) (by decide)⟩
/-- a branch is tried -/
theorem x_16 {t t2 r : Int} {h1 : mHp} {σ1 : Mem} (e : σ 58 64 = p) (rp : 0 ≤ p ∧ p < 124) (c1 : σ 63 p = 16) (c2 : σ 64 p = t) (c3 : σ 65 p = t2) (gt : rg t) (F : Rh (d + 5) yMo_fits [.ref 58, vi t, vi t2] h (mup σ 58 64 (p + 1)) (.inl (some (vi r))) h1 σ1) (hr : r = 0 ∨ r = 1) {n : Int} (e51 : σ1 58 51 = n) (hn : 1 ≤ n ∧ n ≤ 200) (e64 : σ1 58 64 = p + 1) {q : Int} (e75 : σ1 75 p = q) (gq : rg q) : Rh (d + 7) yMo_execute [.ref 58] h σ (.inl none) h1 (mup (mup σ1 58 51 (n - r)) 58 64 (if r = 0 then q else p + 1)) := by
  refine M_Mo_execute ?_
  unfold B_Mo_execute
  rw [e, c1, c2, if_pos (by decide), if_pos (by decide), if_pos (by decide), if_pos (by decide), if_pos (by decide), if_pos (by decide), if_pos (by decide), if_pos (by decide), if_neg (by decide), if_pos (by decide), if_pos (by decide), if_pos (by decide)]
  refine ⟨by unfold rg; omega, rp, rp, by unfold rg; omega, rgk rfl, h1, _, M_Mo_flow (by unfold rg; omega) gt (rgk rfl) ?_, gt, e_231 (by decide) (by decide)⟩
  have c3 : (mup σ 58 64 (p + 1)) 65 p = t2 := by rw [mup_ne (by decide)]; exact c3
  unfold B_Mo_flow
  rw [if_pos (by decide), if_pos (by decide), if_neg (by decide), c3]
  refine ⟨rp, r, h1, σ1, F, by unfold rg; omega, by unfold rg; omega, ?_⟩
  rcases hr with rfl | rfl
  · rw [if_pos rfl, if_pos rfl, e51]
    refine ⟨by unfold rg; omega, ?_⟩
    rw [if_pos rfl, mup_ne (by decide), e75]
    exact ⟨rp, gq, rfl, rfl, rfl⟩
  · rw [if_neg (by decide), if_neg (by decide), e51]
    refine ⟨by unfold rg; omega, ?_⟩
    rw [if_neg (by decide), mup_nk (by decide), e64]
    exact ⟨by unfold rg; omega, rfl, rfl, rfl⟩
/-- a value waits while branches are tried -/
def mTp (h : mHp) (σ0 σ : Mem) (v : Va) (vs : List Va) : Prop := (∃ y, hAt h 89 vs.length = vlg y ∧ RMv h σ (pfM σ0) (mOf σ) v false y) ∧ vaM h σ0 σ (mOf σ) vs
/-- one branch -/
theorem m_try {P E : Tr} {G : List Int} (w : wf (nd 17 z P E C)) (c : nC σ0 (nd 17 z P E C) (nmEn ρ) p) (kP : KiP P v) (q : mB σ0 h σ ρ fs s) (tp : mTp h σ0 σ v vs) (hl : vs.length + 1 ≤ 200) (e51 : σ 58 51 = (vs.length : Int) + 1) (e64 : σ 58 64 = p) (hb : σ 58 57 + ((bnd P).length : Int) ≤ 4299) (hp : 0 ≤ p ∧ p + (ln E + ln C + 3) < σ0 58 11) (cp : cxM σ0 (!fs.isEmpty) cx (nmEn ρ) (p + (ln E + ln C + 3) + 1)) : ∃ h1 σ2, exM d h σ h1 σ2 ∧ (match fitE P v ρ with
    | none => (frWm h h1 σ σ2 ∧ mB σ0 h1 σ2 ρ fs s ∧ mTp h1 σ0 σ2 v vs) ∧ σ2 58 51 = (vs.length : Int) + 1 ∧ σ2 58 64 = p + ln E + 3 ∧ σ2 58 57 = σ 58 57 ∧ σ2 58 65 = σ 58 65 ∧ σ2 58 66 = σ 58 66
    | some ρ1 => mOut σ0 h σ s (bnd P).length h1 σ2 (0, E, (2, nd 17 z P E C) :: cx, ρ1, vs, fs)) := by
  obtain ⟨⟨y, ey, ry⟩, va⟩ := tp
  have w : (z = (bnd P).length ∧ (bnd P).Nodup) ∧ wfP P ∧ isE E ∧ wf E ∧ (C = nl ∨ (isBr C ∧ wf C)) := w
  obtain ⟨⟨zl, -⟩, wP, -⟩ := w
  have rf : ∀ x : Int, x ≤ x := fun x => Int.le_refl x
  obtain ⟨⟨pg, p124⟩, ⟨bo, s1, s2, s3⟩, re, e54, bk⟩ := id q
  have w3 : 0 ≤ σ 58 57 ∧ σ 58 57 ≤ 4299 := bo.2.2
  have c0 := c
  obtain ⟨⟨t, ic, t0, t1⟩, -, -, p1⟩ := c
  have a2 := ln_ge (T := E)
  have a3 := ln_ge (T := C)
  have b1 := pn_ge (T := P)
  have b2 := sn_ge (T := E)
  have b3 := sn_ge (T := C)
  have t1 : t + (pn P + sn E + sn C) ≤ 80 := t1
  obtain ⟨x1, x2, x3⟩ := pg.row (show cell (prM σ0) p 16 t (t + pn P) from ic.1)
  have c75 : σ0 75 p = p + ln E + 3 := ic.2.1
  have isp : isP (prM σ0) P t := ic.2.2.1
  have oo : (mup σ 58 64 (p + 1)) 93 = σ 93 := mup_obj (by decide)
  have me : mOf (mup σ 58 64 (p + 1)) = mOf σ := mOf_pc
  have t57 : (mup σ 58 64 (p + 1)) 58 57 = σ 58 57 := mup_nk (by decide)
  have t58 : (mup σ 58 64 (p + 1)) 58 58 = σ 58 58 := mup_nk (by decide)
  have isp2 : isP (prM (mup σ 58 64 (p + 1))) P t := isP.o (by show (mup σ 58 64 (p + 1)) 68 = σ0 68; rw [mup_obj (by decide)]; exact pg.1 68 (by omega)) (by show (mup σ 58 64 (p + 1)) 69 = σ0 69; rw [mup_obj (by decide)]; exact pg.1 69 (by omega)) isp
  obtain ⟨r, h1, σ1, F, f, o⟩ := r_mfits (d := d) (n := (vs.length : Int)) wP kP isp2 ⟨t0, by omega⟩ ((mup_nk (by decide)).trans e51) ⟨by omega, by omega⟩ (by rw [Int.toNat_natCast]; exact ey) (ry.o8 oo me) (by rw [t58]; exact re.o8 oo me) (by rw [me]; exact bo) (by rw [t57]; exact hb)
  rw [t57, t58] at o
  rw [t57] at f
  have e51' : σ1 58 51 = (vs.length : Int) + 1 := (f.kq (by decide) (by decide)).trans ((mup_nk (by decide)).trans e51)
  have e64' : σ1 58 64 = p + 1 := (f.kq (by decide) (by decide)).trans mup_eq
  have e75 : σ1 75 p = p + ln E + 3 := by rw [f.o (by decide) (by decide), mup_obj (by decide), pg.1 75 (by omega)]; exact c75
  have kk : ∀ k : Int, k ≠ 57 → k ≠ 58 → k ≠ 64 → σ1 58 k = σ 58 k := fun k a b c => (f.kq a b).trans (mup_nk c)
  have sw : smM (mOf σ) h h1 (mup σ 58 64 (p + 1)) σ1 := f.sm (rf _)
  have ns : nsM σ := ns_of pg p124 e64 ⟨hp.1, by omega⟩ x1 (by unfold isSt; omega) (rgk rfl)
  have X := fun (hr : r = 0 ∨ r = 1) => x_16 (d := d) e64 ⟨hp.1, by omega⟩ x1 x2 x3 (by unfold rg; omega) F hr e51' ⟨by omega, by omega⟩ e64' e75 (by unfold rg; omega)
  cases hf : fitE P v ρ with
  | none =>
    rw [hf] at o
    obtain ⟨rfl, o57, o58⟩ := o
    have X := X (Or.inl rfl)
    rw [if_pos rfl, show (vs.length : Int) + 1 - 0 = vs.length + 1 by omega] at X
    generalize hσ : mup (mup σ1 58 51 (vs.length + 1)) 58 64 (p + ln E + 3) = σ2 at X
    have fW : frWm h h1 σ σ2 := by rw [← hσ]; exact (((frWm.m8 (by omega)).tr f.wm).tr (frWm.m8 (by omega))).tr (frWm.m8 (by omega))
    have k2 : ∀ k : Int, k ≠ 51 → k ≠ 64 → σ2 58 k = σ1 58 k := fun k a b => by rw [← hσ, mup_nk b, mup_nk a]
    have o2 : ∀ j, j ≠ 58 → σ2 j = σ1 j := fun j hj => by rw [← hσ, mup_obj hj, mup_obj hj]
    have oS : ∀ j, j ≠ 58 → j ≠ 93 → σ2 j = σ j := fun j hj h9 => (o2 j hj).trans ((f.o hj h9).trans (mup_obj hj))
    have k57 : σ2 58 57 = σ 58 57 := (k2 57 (by decide) (by decide)).trans o57
    have sw2 : smM (mOf σ) h h1 σ σ2 := ⟨sw.1, sw.2.1, fun k a b => ⟨(sw.2.2 k a b).1, (congrFun (o2 93 (by decide)) k).trans ((sw.2.2 k a b).2.trans (congrFun oo k))⟩⟩
    have ks : ∀ k : Int, k = 54 ∨ k = 57 ∨ k = 58 ∨ k = 61 ∨ k = 63 → σ2 58 k = σ 58 k := fun k hk => by
      rcases hk with rfl | rfl | rfl | rfl | rfl
      · exact (k2 54 (by decide) (by decide)).trans (kk 54 (by decide) (by decide) (by decide))
      · exact k57
      · exact (k2 58 (by decide) (by decide)).trans o58
      · exact (k2 61 (by decide) (by decide)).trans (kk 61 (by decide) (by decide) (by decide))
      · exact (k2 63 (by decide) (by decide)).trans (kk 63 (by decide) (by decide) (by decide))
    have me2 : mOf σ2 = mOf σ := by unfold mOf; rw [ks 61 (by omega), ks 63 (by omega), ks 57 (by omega)]
    have a89 : ∀ i, hAt h1 89 i = hAt h 89 i := fun i => f.2.1 89 i (by decide) (fun e => by cases e.1)
    refine ⟨h1, σ2, ⟨ns, X⟩, ⟨fW, q.cg sw2 fW.pg ks (fun i _ => ⟨congrFun (oS 90 (by decide) (by decide)) i, congrFun (oS 91 (by decide) (by decide)) i⟩), ⟨y, (a89 _).trans ey, ?_⟩, ?_⟩, ?_, ?_, k57, (k2 65 (by decide) (by decide)).trans (kk 65 (by decide) (by decide) (by decide)), (k2 66 (by decide) (by decide)).trans (kk 66 (by decide) (by decide) (by decide))⟩
    · rw [me2]; exact ry.mv sw2 (rf _) (rf _) (rf _)
    · rw [me2]; exact va.mv sw2 (rf _) (rf _) (rf _) (fun i _ => a89 i)
    · rw [← hσ, mup_nk (by decide), mup_eq]
    · rw [← hσ, mup_eq]
  | some ρ1 =>
    rw [hf] at o
    obtain ⟨rfl, r1, o57⟩ := o
    have X := X (Or.inr rfl)
    rw [if_neg (by decide), show (vs.length : Int) + 1 - 1 = vs.length by omega] at X
    generalize hσ : mup (mup σ1 58 51 vs.length) 58 64 (p + 1) = σ2 at X
    have fW : frWm h h1 σ σ2 := by rw [← hσ]; exact (((frWm.m8 (by omega)).tr f.wm).tr (frWm.m8 (by omega))).tr (frWm.m8 (by omega))
    have k2 : ∀ k : Int, k ≠ 51 → k ≠ 64 → σ2 58 k = σ1 58 k := fun k a b => by rw [← hσ, mup_nk b, mup_nk a]
    have o2 : ∀ j, j ≠ 58 → σ2 j = σ1 j := fun j hj => by rw [← hσ, mup_obj hj, mup_obj hj]
    have oS : ∀ j, j ≠ 58 → j ≠ 93 → σ2 j = σ j := fun j hj h9 => (o2 j hj).trans ((f.o hj h9).trans (mup_obj hj))
    have k57 : σ2 58 57 = σ 58 57 + (bnd P).length := (k2 57 (by decide) (by decide)).trans o57
    have sw2 : smM (mOf σ) h h1 σ σ2 := ⟨sw.1, sw.2.1, fun k a b => ⟨(sw.2.2 k a b).1, (congrFun (o2 93 (by decide)) k).trans ((sw.2.2 k a b).2.trans (congrFun oo k))⟩⟩
    have k61 : σ2 58 61 = σ 58 61 := (k2 61 (by decide) (by decide)).trans (kk 61 (by decide) (by decide) (by decide))
    have k63 : σ2 58 63 = σ 58 63 := (k2 63 (by decide) (by decide)).trans (kk 63 (by decide) (by decide) (by decide))
    have me2 : mOf σ2 = mOf σ1 := by unfold mOf; rw [k2 61 (by decide) (by decide), k2 63 (by decide) (by decide), k2 57 (by decide) (by decide)]
    have m1 : (mOf σ).1 ≤ (mOf σ2).1 := by show σ 58 61 ≤ σ2 58 61; omega
    have m2 : (mOf σ).2.1 ≤ (mOf σ2).2.1 := by show σ 58 63 ≤ σ2 58 63; omega
    have m3 : (mOf σ).2.2 ≤ (mOf σ2).2.2 := by show σ 58 57 ≤ σ2 58 57; omega
    have B1 : 0 ≤ σ 58 61 ∧ σ 58 61 ≤ 502 := bo.1
    have B2 : 0 ≤ σ 58 63 ∧ σ 58 63 ≤ 502 := bo.2.1
    have bo2 : mBo (mOf σ2) := ⟨by show 0 ≤ σ2 58 61 ∧ σ2 58 61 ≤ 502; omega, by show 0 ≤ σ2 58 63 ∧ σ2 58 63 ≤ 502; omega, by show 0 ≤ σ2 58 57 ∧ σ2 58 57 ≤ 4299; omega⟩
    have a89 : ∀ i, hAt h1 89 i = hAt h 89 i := fun i => f.2.1 89 i (by decide) (fun e => by cases e.1)
    obtain ⟨n1, n2, -⟩ := fit_nm wP hf
    have bk2 : 2 ≠ 1 ∧ bk3 (nd 17 z P E C) = true := ⟨by decide, rfl⟩
    have nu : numB (nd 17 z P E C) = (bnd P).length := by show z.toNat = _; rw [zl, Int.toNat_natCast]
    have dr : (nmEn ρ1).drop (bnd P).length = nmEn ρ := by rw [n1]; exact List.drop_left' (by rw [List.length_reverse])
    have r2 : RMv h1 σ2 (pfM σ0) (mOf σ2) ρ1 true (σ2 58 58) := by
      rw [k2 58 (by decide) (by decide)]
      exact r1.o8 (o2 93 (by decide)) me2
    refine ⟨h1, σ2, ⟨ns, X⟩, fW, Or.inr ⟨by show vs.length ≤ 200; omega, ⟨by show vs.length ≤ 200; omega, ⟨⟨pg.tr fW.pg, p124⟩, ⟨bo2, by omega, by omega, s3⟩, r2, ((k2 54 (by decide) (by decide)).trans (kk 54 (by decide) (by decide) (by decide))).trans e54, bk.mv sw2 m1 m2 m3 (fun i _ => ⟨congrFun (oS 90 (by decide) (by decide)) i, congrFun (oS 91 (by decide) (by decide)) i⟩)⟩, by rw [← hσ, mup_nk (by decide), mup_eq], ?_, vtM_0.mpr (va.mv sw2 m1 m2 m3 (fun i _ => a89 i))⟩, k57, (k2 65 (by decide) (by decide)).trans (kk 65 (by decide) (by decide) (by decide)), (k2 66 (by decide) (by decide)).trans (kk 66 (by decide) (by decide) (by decide))⟩⟩
    have k64 : σ2 58 64 = p + 1 := by rw [← hσ, mup_eq]
    unfold psM
    rw [if_pos rfl, k64]
    refine ⟨?_, p, ?_, ?_, ?_, ?_⟩
    · show nC σ0 E (nmEn ρ1) (p + 1)
      rw [n1]; exact c0.w.1
    · rw [if_pos bk2, nu, dr]; exact c0
    · show p + 1 + ln E = p + (1 + ln E); omega
    · intro _; rw [nu, n1, List.length_append, List.length_reverse]; omega
    · rw [if_pos bk2, nu, dr, if_pos rfl]; exact cp
theorem m_brs : ∀ (B : Tr) (h : mHp) (σ : Mem) (p : Int), (B = nl ∨ (isBr B ∧ wf B ∧ nC σ0 B (nmEn ρ) p)) → KiB B v → mB σ0 h σ ρ fs s → mTp h σ0 σ v vs → vs.length + 1 ≤ 200 → σ 58 51 = (vs.length : Int) + 1 → σ 58 64 = p → σ 58 57 + (brMx B : Int) ≤ 4299 → (0 ≤ p ∧ p + ln B < σ0 58 11) → σ0 63 (p + ln B) = 17 ∧ σ0 64 (p + ln B) = 0 → hd14 cx = none → cxM σ0 (!fs.isEmpty) cx (nmEn ρ) (p + ln B + 1) → ∃ n h' σ', exN d n h σ h' σ' ∧ mOutS σ0 h σ s (brNm (brF B v ρ) : Nat) h' σ' (brO cx vs fs (brF B v ρ)) := by
  intro B
  fun_induction brF B v ρ with
  | case1 z P E C v ρ ρ1 hf =>
    intro h σ p hB kB q tp hl e51 e64 hb hp hc h14 cp
    rcases hB with e | ⟨-, w, c⟩
    · cases e
    have hb : σ 58 57 + ((max (bnd P).length (brMx C) : Nat) : Int) ≤ 4299 := hb
    have zl : z = (bnd P).length := (show (z = (bnd P).length ∧ (bnd P).Nodup) ∧ _ from w).1.1
    obtain ⟨h1, σ2, X, o⟩ := m_try (d := d) (G := nmEn ρ) w c kB.1 q tp hl e51 e64 (by omega) hp cp
    rw [hf] at o
    refine ⟨1, h1, σ2, exM.one X, ?_⟩
    have nu : (numB (nd 17 z P E C) : Int) = (bnd P).length := by show ((z.toNat : Nat) : Int) = _; omega
    show mOut σ0 h σ s (numB (nd 17 z P E C) : Nat) h1 σ2 (0, E, (2, nd 17 z P E C) :: cx, ρ1, vs, fs)
    rw [nu]; exact o
  | case2 z P E C v ρ hf ih =>
    intro h σ p hB kB q tp hl e51 e64 hb hp hc h14 cp
    rcases hB with e | ⟨-, w, c⟩
    · cases e
    have hb : σ 58 57 + ((max (bnd P).length (brMx C) : Nat) : Int) ≤ 4299 := hb
    obtain ⟨h1, σ2, X, o⟩ := m_try (d := d) (G := nmEn ρ) w c kB.1 q tp hl e51 e64 (by omega) hp cp
    rw [hf] at o
    obtain ⟨⟨f, q2, tp2⟩, f51, f64, f57, f65, f66⟩ := o
    have eC : p + (ln E + ln C + 3) = p + ln E + 3 + ln C := by omega
    have a2 := ln_ge (T := E)
    have hp : 0 ≤ p ∧ p + (ln E + ln C + 3) < σ0 58 11 := hp
    have hc : σ0 63 (p + (ln E + ln C + 3)) = 17 ∧ σ0 64 (p + (ln E + ln C + 3)) = 0 := hc
    have cp : cxM σ0 (!fs.isEmpty) cx (nmEn ρ) (p + (ln E + ln C + 3) + 1) := cp
    rw [eC] at hp hc cp
    have hB2 : C = nl ∨ (isBr C ∧ wf C ∧ nC σ0 C (nmEn ρ) (p + ln E + 3)) := by
      rcases (show (z = (bnd P).length ∧ (bnd P).Nodup) ∧ wfP P ∧ isE E ∧ wf E ∧ (C = nl ∨ (isBr C ∧ wf C)) from w).2.2.2.2 with e | e
      · exact Or.inl e
      · exact Or.inr ⟨e.1, e.2, c.w.2⟩
    obtain ⟨n, h', σ', N, o⟩ := ih h1 σ2 (p + ln E + 3) hB2 kB.2 q2 tp2 hl f51 f64 (by omega) ⟨by omega, hp.2⟩ hc h14 cp
    refine ⟨n + 1, h', σ', ⟨h1, σ2, X, Or.inr f65, N⟩, ?_⟩
    revert o
    cases brF C v ρ with
    | none => intro o; exact ⟨f.tr o.1, o.2⟩
    | some x => intro o; exact mOut.pre f f57 f65 f66 o
  | case3 B v ρ hx =>
    intro h σ p hB _ q _ _ e51 e64 _ hp hc _ _
    have eB : B = nl := by
      rcases hB with e | ⟨i, w, -⟩
      · exact e
      · exfalso
        unfold isBr at i
        split at i
        · next k f =>
          unfold wf at w
          split at w
          · next k' z' A' B' C' e =>
            cases e
            subst i
            exact hx _ _ _ _ rfl
          · exact w.elim
        · exact i.elim
    subst eB
    have l0 : ln nl = 0 := rfl
    rw [l0, Int.add_zero] at hp hc
    obtain ⟨⟨pg, p124⟩, -⟩ := q
    have c1 : σ 63 p = 17 := by rw [pg.1 63 (by omega)]; exact hc.1
    have c2 : σ 64 p = 0 := by rw [pg.1 64 (by omega)]; exact hc.2
    refine ⟨1, h, _, exM.one ⟨ns_of pg p124 e64 hp c1 (by unfold isSt; omega) (rgk rfl), x_17 e64 ⟨hp.1, by omega⟩ c1 c2⟩, ((frWm.m8 (by omega)).tr (frWm.m8 (by omega))).tr (frWm.m8 (by omega)), (mup_nk (by decide)).trans mup_eq, mup_eq⟩
theorem ms_case (R : mRel σ0 h σ s (2, nd 16 z A B C, cx, ρ, v :: vs, fs)) (W : wkV (2, nd 16 z A B C, cx, ρ, v :: vs, fs)) (h14 : hd14 cx = none) (hk : KiB B v) (hb : σ 58 57 + (brMx B : Nat) ≤ 4299) : ∃ h1 σ1 n h' σ', Rh (d + 7) yMo_execute [.ref 58] h σ (.inl none) h1 σ1 ∧ exN d n h1 σ1 h' σ' ∧ σ1 58 65 = σ 58 65 ∧ mOutS σ0 h σ (s + 1) (brNm (brF B v ρ) : Nat) h' σ' (brO cx vs fs (brF B v ρ)) := by
  have ww : wf (nd 16 z A B C) := by
    rcases W.1.1 with e | e | e
    · cases e.1
    · cases e
    · exact e.2.2.1
  have ww : z = 0 ∧ isE A ∧ wf A ∧ isBr B ∧ wf B ∧ C = nl := ww
  obtain ⟨hl, q, e51, ps, vt⟩ := R
  have hl : vs.length + 1 ≤ 200 := hl
  have e51 : σ 58 51 = ((vs.length + 1 : Nat) : Int) := e51
  have e51 : σ 58 51 = (vs.length : Int) + 1 := by omega
  unfold psM at ps
  rw [if_neg (by decide), if_neg (by decide)] at ps
  obtain ⟨a, c, pe, cp⟩ := ps
  have pe : σ 58 64 = a + ln A := pe
  rw [if_neg (by decide), if_neg (by decide)] at vt
  obtain ⟨⟨y, ey, ry⟩, va⟩ := vt
  have ry : RMv h σ (pfM σ0) (mOf σ) v false y := ry
  have va : vaM h σ0 σ (mOf σ) vs := va
  obtain ⟨⟨pg, p124⟩, -⟩ := id q
  have cB := c.c
  obtain ⟨⟨t, ic, -⟩, -, p0, p1⟩ := c
  have a1 := ln_ge (T := A)
  have a2 := ln_ge (T := B)
  have p1 : a + (ln A + ln B + 2) ≤ σ0 58 11 := p1
  have cp : cxM σ0 (!fs.isEmpty) cx (nmEn ρ) (a + (ln A + ln B + 2)) := cp
  obtain ⟨x1, x2, -⟩ := pg.row (show cell (prM σ0) (a + ln A) 15 0 0 from ic.2.1)
  obtain ⟨y1, y2, -⟩ : cell (prM σ0) (a + ln A + ln B + 1) 17 0 0 := ic.2.2.2
  have y1 : σ0 63 (a + ln A + ln B + 1) = 17 := y1
  have y2 : σ0 64 (a + ln A + ln B + 1) = 0 := y2
  rw [show a + ln A + ln B + 1 = a + ln A + 1 + ln B by omega] at y1 y2
  have e57 : (mup σ 58 64 (a + ln A + 1)) 58 57 = σ 58 57 := mup_nk (by decide)
  have e65 : (mup σ 58 64 (a + ln A + 1)) 58 65 = σ 58 65 := mup_nk (by decide)
  have e66 : (mup σ 58 64 (a + ln A + 1)) 58 66 = σ 58 66 := mup_nk (by decide)
  obtain ⟨n, h', σ', N, o⟩ := m_brs (d := d) (cx := cx) (ρ := ρ) (v := v) B h (mup σ 58 64 (a + ln A + 1)) (a + ln A + 1) (Or.inr ⟨ww.2.2.2.1, ww.2.2.2.2.1, cB⟩) hk q.pc ⟨⟨y, ey, ry.o8 (mup_obj (by decide)) mOf_pc⟩, va.pc⟩ hl ((mup_nk (by decide)).trans e51) mup_eq (by rw [e57]; exact hb) ⟨by omega, by omega⟩ ⟨y1, y2⟩ h14 (by rw [show a + ln A + 1 + ln B + 1 = a + (ln A + ln B + 2) by omega]; exact cp)
  refine ⟨h, mup σ 58 64 (a + ln A + 1), n, h', σ', ?_, N, e65, ?_⟩
  · refine M_Mo_execute ?_
    unfold B_Mo_execute
    rw [pe, x1, x2, if_pos (by decide), if_pos (by decide), if_pos (by decide), if_pos (by decide), if_pos (by decide), if_pos (by decide), if_pos (by decide), if_pos (by decide), if_neg (by decide), if_pos (by decide), if_pos (by decide), if_pos (by decide)]
    exact ⟨by unfold rg; omega, ⟨by omega, by omega⟩, ⟨by omega, by omega⟩, by unfold rg; omega, rgk rfl, _, _, e_15 (by unfold rg; omega) (rgk rfl), rgk rfl, e_231 (by decide) (by decide)⟩
  · revert o
    cases brF B v ρ with
    | none => intro o; exact ⟨(frWm.m8 (by omega)).tr o.1, o.2⟩
    | some x => intro o; exact (mOut.pre (frWm.m8 (by omega)) e57 e65 e66 o).sl (by omega)
end MCAS
