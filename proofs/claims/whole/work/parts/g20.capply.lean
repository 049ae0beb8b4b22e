/-! The class's machine: REC, applications. -/
section CAPP
variable {h h' h1 : mHp} {σ0 σ σ' : Mem} {d n k : Nat} {P : Tr → Int → Prop} {c a : Int} {cx : Cx} {ρ ρ' : En} {vs : List Va} {v w : Va} {fs : List (Cx × En)}
/-- an old cell above all that counts is written -/
theorem cB.hi {i x : Nat} {u : Value} (b : cB σ0 n h σ c cx ρ vs fs a) (hi : n ≤ i) : cB σ0 n (hSet h i x u) σ c cx ρ vs fs a := by
  obtain ⟨b0, sp, e, v, cc, f, at', ra, p⟩ := b
  have s : smC n h (hSet h i x u) := smC.set (Or.inr hi)
  have := b0.1
  refine ⟨b0, sp, ?_, v.mv s (Nat.le_refl _) (fun j _ => at_ne (by omega) j), cc, ?_, at', ra, p⟩
  · rw [at_ne (by omega)]; exact e.mv s (Nat.le_refl _)
  · rw [at_ne (by omega)]; exact f.mv s (Nat.le_refl _)
theorem cs_rec (g : pg8 σ0) (pp : PP (shf σ0)) {z : Int} {A B C : Tr} (R : cRel σ0 n h σ (2, nd 14 z A B C, cx, ρ, vs, fs)) (W : wkV (2, nd 14 z A B C, cx, ρ, vs, fs)) (ok : stOK FP.Core.DFin 14 z B vs) {o : WkS ⊕ Int} (hm : wkS (2, nd 14 z A B C, cx, ρ, vs, fs) = some o) : ∃ h' σ', Rh (d + 22) yMc_step [.ref 54] h σ (.inl none) h' σ' ∧ cOutS σ0 130 h σ h' σ' o := by
  obtain ⟨lm, ρ2, vs, rfl⟩ := ok
  cases hm
  have ww : wf (nd 14 z A B C) := by
    rcases W.1.1 with e | e | e
    · cases e.1
    · cases e
    · exact e.2.2.1
  have ww : ltZ z ∧ isFn A ∧ wf A ∧ isE B ∧ wf B ∧ C = nl := ww
  obtain ⟨hl, a, b, r, t, pd⟩ := R.s
  obtain ⟨i, lam, ei, ni, ev⟩ := pd (Or.inr ⟨rfl, trivial⟩)
  cases ev
  have b2 := b
  obtain ⟨⟨n0, n1⟩, sp, en, cv, cc, cf, at', ra, cp⟩ := b2
  have H : 100 ≤ h.1 := Nat.le_trans n0 n1
  obtain ⟨r28, cp2, tB, -⟩ := sec2 pp t (Or.inl ww.2.2.2.1) (by decide) cp
  have rw0 : ∀ {σ1 : Mem} {i : Nat}, spg σ0 σ1 → 20 ≤ i → i ≤ 34 → rowv 128 σ1 i a = σ0 i a := fun s h0 h1 => (s.rv h0 h1).trans (rw8 g ra)
  obtain ⟨-, t1, t2, -⟩ := nT_nd.mp t
  have rga : rg (σ 54 3) := by rw [at']; exact rg8 g ra
  have gz := ltZ_rg ww.1
  rw [ei] at r
  obtain ⟨i', m, e, ci, a0, a1, gm, pm, -⟩ := r
  cases e
  have ih : i < h.1 := ci.1.2
  have i100 : 100 ≤ i := ci.1.1
  have ineh : i ≠ h.1 := Nat.ne_of_lt ih
  have Rt : Rh (d + 20) yMc_take [.ref 54] h σ (.inl (some (.ref i))) h (mup σ 54 2 vs.length) := r_take (d := d + 17) cc (by omega) (by rw [Int.toNat_natCast]; exact ei)
  have b1 : cB σ0 n h (mup σ 54 2 vs.length) vs.length cx ρ vs fs a := b.ct
  have at1 : (mup σ 54 2 vs.length) 54 3 = a := (mup_nk (by decide)).trans at'
  obtain ⟨x0, x1, x2, x3⟩ := hSc_at (h := h) (z := z) (v := .ref i) (o := hAt h 54 5)
  generalize hH : hSc h z (.ref i) (hAt h 54 5) = H9 at *
  have ne9 : neC h H9 := by rw [← hH]; exact neC.S
  have ex9 : exB 1 h H9 := by rw [← hH]; exact exB.S
  have e5 : hAt (nwO h 10) 54 5 = hAt h 54 5 := (neC.nw.2.1 54 (by omega)).2 5
  have t8 : hTag (hSet H9 54 5 (.ref h.1)) i = 8 := tag_set.trans ((ne9.2.1 i ineh).1.trans ci.2)
  -- the new cells
  generalize hF : hSet (hSet H9 54 5 (.ref h.1)) i 5 (.ref h.1) = HF
  have f54 : hAt HF 54 5 = .ref h.1 := by rw [← hF, at_ne (by omega), at_eq]
  have fo : ∀ x : Nat, x ≠ 54 → x ≠ i → hTag HF x = hTag H9 x ∧ ∀ y, hAt HF x y = hAt H9 x y := fun x h1 h2 => by
    rw [← hF]
    exact ⟨tag_set.trans tag_set, fun y => (at_ne h2 y).trans (at_ne h1 y)⟩
  have fi : ∀ y : Nat, y ≠ 5 → hAt HF i y = hAt h i y := fun y hy => by
    rw [← hF, at_nk hy, at_ne (by omega)]; exact (ne9.2.1 i ineh).2 y
  have ti : hTag HF i = 8 := by rw [← hF]; exact tag_set.trans t8
  have fi5 : hAt HF i 5 = .ref h.1 := by rw [← hF]; exact at_eq
  have sn : smC n h HF := fun x h0 h1 => by
    have := fo x (by omega) (by omega)
    have := ne9.2.1 x (by omega)
    exact ⟨(fo x (by omega) (by omega)).1.trans (ne9.2.1 x (by omega)).1, fun y => ((fo x (by omega) (by omega)).2 y).trans ((ne9.2.1 x (by omega)).2 y)⟩
  have F1 : HF.1 = h.1 + 1 := by rw [← hF]; exact ne9.1
  have fh := fo h.1 (by omega) (Ne.symm ineh)
  have ens : RPv HF (nT σ0) (h.1 + 1) ρ true (hAt h 54 5) := en.mv sn (by omega)
  have rv : RPv HF (nT σ0) (h.1 + 1) (vG z lm ρ) false (.ref i) := ⟨i, m, h.1, rfl, ⟨⟨i100, Nat.lt_succ_of_lt ih⟩, ti⟩, (fi 0 (by decide)).trans a0, (fi 1 (by decide)).trans a1, gm, pm, fi5, ⟨⟨H, Nat.lt_succ_self _⟩, fh.1.trans x0⟩, (fh.2 0).trans x1, gz, (fh.2 1).trans x2, by rw [(fh.2 2).trans x3]; exact ens⟩
  have re : RPv HF (nT σ0) (h.1 + 1) (eC z (vG z lm ρ) ρ) true (.ref h.1) := ⟨h.1, rfl, ⟨⟨H, Nat.lt_succ_self _⟩, fh.1.trans x0⟩, (fh.2 0).trans x1, gz, by rw [(fh.2 1).trans x2]; exact rv, by rw [(fh.2 2).trans x3]; exact ens⟩
  have b3 : cB σ0 (h.1 + 1) HF (mup (mup (mup σ 54 2 vs.length) 54 3 (σ0 28 a)) 54 4 0) vs.length ((2, nd 14 z A B C) :: cx) (eC z (vG z lm ρ) ρ) vs fs (σ0 28 a) := by
    have q1 : cB σ0 n HF (mup σ 54 2 vs.length) vs.length cx ρ vs fs a ∨ True := Or.inr trivial
    have c1 := b1.ex ex9
    have e0 : RPv H9 (nT σ0) n ρ true (hAt H9 54 5) := c1.2.2.1
    have c2 : cB σ0 n (hSet H9 54 5 (hAt H9 54 5)) (mup σ 54 2 vs.length) vs.length cx ρ vs fs a := c1.env e0
    have s1 : smC n H9 HF := fun x h0 h1 => fo x (by omega) (by omega)
    obtain ⟨⟨p0, p1⟩, sp1, -, cv1, cc1, cf1, at2, ra1, cp1⟩ := c1
    have w55 := fo 55 (by decide) (by omega)
    have w6 : hAt HF 54 6 = hAt H9 54 6 := by rw [← hF, at_ne (by omega), at_nk (by decide)]
    have cv2 : cVal HF (nT σ0) (h.1 + 1) vs := cv1.mv s1 (by omega) (fun y _ => w55.2 y)
    have cf2 : cFrm σ0 HF (nT σ0) (h.1 + 1) fs (hAt HF 54 6) := by rw [w6]; exact cf1.mv s1 (by omega)
    exact ⟨⟨by omega, by rw [F1]; omega⟩, (sp1.up).up, by rw [f54]; exact re, cv2, (mup_nk (by decide)).trans ((mup_nk (by decide)).trans cc1), cf2, (mup_nk (by decide)).trans mup_eq, r28, cp2⟩
  have k2 : ∀ x : Int, x ≠ 2 → x ≠ 3 → x ≠ 4 → (mup (mup (mup σ 54 2 vs.length) 54 3 (σ0 28 a)) 54 4 0) 54 x = σ 54 x := fun x h2 h3 h4 => by rw [mup_nk h4, mup_nk h3, mup_nk h2]
  have fr : frWk 1 h HF σ (mup (mup (mup σ 54 2 vs.length) 54 3 (σ0 28 a)) 54 4 0) := by
    rw [← hF]
    exact ((((((frWk.ex ex9 H).tr frWk.s4).tr (frWk.hi i100)).tr (frWk.m4 (j := 2) (z := vs.length) (by decide) (by decide))).tr (frWk.m4 (j := 3) (z := σ0 28 a) (by decide) (by decide))).tr (frWk.m4 (j := 4) (z := 0) (by decide) (by decide)))
  refine ⟨HF, mup (mup (mup σ 54 2 vs.length) 54 3 (σ0 28 a)) 54 4 0, M_Mc_step ⟨rga, ?_⟩, fr.le (by decide), ?_, Or.inr ⟨by show vs.length ≤ 200; omega, ⟨h.1 + 1, cRel.me (by omega) b3 mup_eq tB⟩, k2 7 (by decide) (by decide) (by decide), k2 8 (by decide) (by decide) (by decide)⟩⟩
  · rw [at', rw0 sp (by decide) (by decide), t1, if_neg (by decide), if_neg (by decide), if_neg (by decide), if_neg (by decide), if_neg (by decide), if_neg (by decide), if_pos (by decide)]
    refine ⟨_, _, (M_Mc_bindOwn (d := d + 16) ⟨.ref i, h, mup σ 54 2 vs.length, Rt, isQ.j, by rw [at1]; exact rg8 g ra, hAt h 54 5, e5, en.qe, H, nw_tag, H9, mup σ 54 2 vs.length, ?_, .ref h.1, at_eq, isQ.j, i, rfl, i100, t8, by rw [at1]; exact rg8 g ra, HF, mup (mup (mup σ 54 2 vs.length) 54 3 (σ0 28 a)) 54 4 0, ?_, rfl, rfl, rfl⟩), rfl, rfl, rfl⟩
    · rw [at1, rw0 sp.up (by decide) (by decide), t2, ← hH]
      exact r_scope (d := d + 18) H gz isQ.j en.qe
    · rw [at1, rw0 sp.up (by decide) (by decide), hF]
      exact r_into (d := d + 18) (rg8 g r28)
  · rw [← hF, at_ne (by omega), at_nk (by decide)]
    exact (ne9.2.1 54 (by omega)).2 11
end CAPP
