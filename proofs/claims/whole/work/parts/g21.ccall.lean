/-! The class's machine: applications. -/
section CCAL
variable {h h' h1 : mHp} {σ0 σ σ' : Mem} {d n k : Nat} {P : Tr → Int → Prop} {c a : Int} {cx : Cx} {ρ ρ' : En} {vs : List Va} {v w x : Va} {fs : List (Cx × En)}
/-- a function's body begins -/
theorem c_begin (g : pg8 σ0) (pp : PP (shf σ0)) {z y m : Int} {A B C bd : Tr} {j i : Nat} {σ2 : Mem} (t : nT σ0 (nd 11 z A B C) a) (hl : vs.length ≤ 198) (b : cB σ0 n h σ2 vs.length cx ρ vs fs a) (f2 : frWk 0 h h σ σ2) (k2 : ∀ q : Int, q ≠ 2 → σ2 54 q = σ 54 q) (rx : RPv h (nT σ0) h.1 x false (.ref j)) (ci : ceL h n 8 i) (em : hAt h i 1 = vi m) (gm : rg m) (tm : nT σ0 (nd 12 y bd nl nl) m) (hy : ltZ y) (hb : isE bd) (re : RPv h (nT σ0) n ρ' true (hAt h i 5)) (Rt1 : Rh (d + 20) yMc_take [.ref 54] h σ (.inl (some (.ref j))) h σ') (Rt2 : Rh (d + 20) yMc_take [.ref 54] h σ' (.inl (some (.ref i))) h σ2) : ∃ h' σ3, Rh (d + 21) yMc_apply [.ref 54] h σ (.inl none) h' σ3 ∧ cOut σ0 2 h σ h' σ3 (0, bd, [], eC y x ρ', vs, (cx, ρ) :: fs) := by
  have b2 := b
  obtain ⟨⟨n0, n1⟩, sp, en, cv, cc, cf, at', ra, cp⟩ := b2
  have H : 100 ≤ h.1 := Nat.le_trans n0 n1
  obtain ⟨rm, m1, m2, tb, -, -⟩ := nT_nd.mp tm
  obtain ⟨-, t1, -⟩ := nT_nd.mp t
  have rwm : ∀ {σ1 : Mem} {q : Nat}, spg σ0 σ1 → 20 ≤ q → q ≤ 34 → rowv 128 σ1 q m = σ0 q m := fun s h0 h1 => (s.rv h0 h1).trans (rw8 g rm)
  have hn := ne_nl tb (Or.inl hb)
  obtain ⟨r26, p26⟩ := par1 pp rm hn
  have gy := ltZ_rg hy
  have ih : i < h.1 := Nat.lt_of_lt_of_le ci.1.2 n1
  have i100 : 100 ≤ i := ci.1.1
  -- the frame
  obtain ⟨x0, x1, x2, x3⟩ := hFr_at (h := h) (a := a) (s := hAt h 54 5) (c := hAt h 54 6)
  have neF : neC h (hFr h a (hAt h 54 5) (hAt h 54 6)) := neC.Fr
  have exF : exB 1 h (hFr h a (hAt h 54 5) (hAt h 54 6)) := exB.Fr
  generalize hF : hFr h a (hAt h 54 5) (hAt h 54 6) = F at *
  generalize hG : hSet F 54 6 (.ref h.1) = G at *
  have G1 : G.1 = h.1 + 1 := by rw [← hG]; exact neF.1
  have Go : ∀ q : Nat, q ≠ 54 → hTag G q = hTag F q ∧ ∀ z, hAt G q z = hAt F q z := fun q hq => by rw [← hG]; exact ⟨tag_set, fun z => at_ne hq z⟩
  have ineh : i ≠ h.1 := Nat.ne_of_lt ih
  have i54 : i ≠ 54 := Nat.ne_of_gt (Nat.lt_of_lt_of_le (by decide) i100)
  have iG : i ≠ G.1 := by rw [G1]; exact Nat.ne_of_lt (Nat.lt_succ_of_lt ih)
  have gi : hTag G i = 8 ∧ ∀ z, hAt G i z = hAt h i z := ⟨((Go i i54).1.trans (neF.2.1 i ineh).1).trans ci.2, fun z => ((Go i i54).2 z).trans ((neF.2.1 i ineh).2 z)⟩
  have sG : smC h.1 h G := fun q q0 q1 => ⟨((Go q (by omega)).1).trans (neF.2.1 q (Nat.ne_of_lt q1)).1, fun z => ((Go q (by omega)).2 z).trans ((neF.2.1 q (Nat.ne_of_lt q1)).2 z)⟩
  -- the scope
  have HG : 100 ≤ G.1 := by omega
  have neS : neC G (hSc G y (.ref j) (hAt h i 5)) := neC.S
  have exS : exB 1 G (hSc G y (.ref j) (hAt h i 5)) := exB.S
  have es : RPv (hSc G y (.ref j) (hAt h i 5)) (nT σ0) (G.1 + 1) (eC y x ρ') true (.ref G.1) := RPv.sc HG gy (rx.mv sG (by omega)) (re.mv (sG.le n1) (by omega))
  generalize hS : hSc G y (.ref j) (hAt h i 5) = Sc at *
  have S1 : Sc.1 = h.1 + 2 := by have := neS.1; omega
  have sS : smC h.1 h Sc := sG.tr ((neS.sm).le (by omega))
  have So : ∀ q : Nat, q < G.1 → hTag Sc q = hTag G q ∧ ∀ z, hAt Sc q z = hAt G q z := fun q hq => neS.2.1 q (Nat.ne_of_lt hq)
  have at2 : σ2 54 3 = a := at'
  have p12 : cPs σ0 true [] (σ0 26 m) := by
    show (0 ≤ σ0 32 (σ0 26 m) ∧ σ0 32 (σ0 26 m) < σ0 20 7) ∧ σ0 22 (σ0 32 (σ0 26 m)) = 12
    rw [p26]; exact ⟨rm, m1⟩
  have b3 : cB σ0 (h.1 + 2) (hSet Sc 54 5 (.ref G.1)) (mup (mup σ2 54 3 (σ0 26 m)) 54 4 0) vs.length [] (eC y x ρ') vs ((cx, ρ) :: fs) (σ0 26 m) := by
    have s2 : smC h.1 h (hSet Sc 54 5 (.ref G.1)) := sS.tr (smC.set (Or.inl (by decide)))
    have w54 : ∀ q, q ≠ 5 → hAt (hSet Sc 54 5 (.ref G.1)) 54 q = hAt G 54 q := fun q hq => (at_nk hq).trans ((So 54 (by omega)).2 q)
    have w55 : ∀ q, hAt (hSet Sc 54 5 (.ref G.1)) 55 q = hAt h 55 q := fun q => (at_ne (by decide) q).trans (((So 55 (by omega)).2 q).trans (((Go 55 (by decide)).2 q).trans ((neF.2.1 55 (by omega)).2 q)))
    have wF : ∀ q, hAt (hSet Sc 54 5 (.ref G.1)) h.1 q = hAt F h.1 q := fun q => (at_ne (by omega) q).trans (((So h.1 (by omega)).2 q).trans ((Go h.1 (by omega)).2 q))
    have tF : hTag (hSet Sc 54 5 (.ref G.1)) h.1 = 9 := tag_set.trans (((So h.1 (by omega)).1).trans (((Go h.1 (by omega)).1).trans x0))
    have e6 : hAt (hSet Sc 54 5 (.ref G.1)) 54 6 = .ref h.1 := by rw [w54 6 (by decide), ← hG, at_eq]
    have u5 : smC (h.1 + 2) Sc (hSet Sc 54 5 (.ref G.1)) := smC.set (Or.inl (by decide))
    refine ⟨⟨by omega, by show h.1 + 2 ≤ Sc.1; omega⟩, (sp.up).up, ?_, cv.mv (s2.le n1) (by omega) (fun q _ => w55 q), (mup_nk (by decide)).trans ((mup_nk (by decide)).trans cc), ?_, (mup_nk (by decide)).trans mup_eq, r26, p12⟩
    · rw [at_eq]
      rw [G1] at es
      exact RPv.mv u5 (by omega) (by rw [G1]; exact es)
    · refine ⟨h.1, a, e6, ⟨⟨H, by omega⟩, tF⟩, (wF 0).trans x1, ⟨ra, t1⟩, cp, ?_, ?_⟩
      · rw [wF 1, x2]; exact en.mv (s2.le n1) (by omega)
      · rw [wF 2, x3]; exact cf.mv (s2.le n1) (by omega)
  have k3 : ∀ q : Int, q ≠ 2 → q ≠ 3 → q ≠ 4 → (mup (mup σ2 54 3 (σ0 26 m)) 54 4 0) 54 q = σ 54 q := fun q h2 h3 h4 => by rw [mup_nk h4, mup_nk h3]; exact k2 q h2
  have fr : frWk 2 h (hSet Sc 54 5 (.ref G.1)) σ (mup (mup σ2 54 3 (σ0 26 m)) 54 4 0) := by
    have fG : frWk 1 h G σ σ := by rw [← hG]; exact (frWk.ex exF H).tr frWk.s4
    have fS : frWk 1 G Sc σ σ := frWk.ex exS HG
    have f0 : frWk 0 (hSet Sc 54 5 (.ref G.1)) (hSet Sc 54 5 (.ref G.1)) σ σ2 := ⟨⟨Nat.le_refl _, Nat.le_refl _⟩, Nat.le_refl _, fun _ _ _ _ _ => rfl, f2.2.2.2.1, f2.2.2.2.2.1, f2.2.2.2.2.2.1, rfl, rfl⟩
    exact ((((fG.tr fS).tr frWk.s4).tr f0).tr (frWk.m4 (j := 3) (z := σ0 26 m) (by decide) (by decide))).tr (frWk.m4 (j := 4) (z := 0) (by decide) (by decide))
  refine ⟨hSet Sc 54 5 (.ref G.1), mup (mup σ2 54 3 (σ0 26 m)) 54 4 0, (M_Mc_apply (d := d + 16) ⟨_, _, _, Rt1, isQ.j, _, _, _, Rt2, isQ.j, i, rfl, i100, ?_, m, em, gm, ?_⟩), fr, ?_, Or.inr ⟨by show vs.length ≤ 200; omega, ⟨h.1 + 2, cRel.me (by omega) b3 mup_eq tb⟩, k3 7 (by decide) (by decide) (by decide), k3 8 (by decide) (by decide) (by decide)⟩⟩
  · exact ci.2
  · rw [rwm sp (by decide) (by decide), m1, if_neg (by simp), at2]
    refine ⟨rg8 g ra, hAt h 54 5, (neC.nw.2.1 54 (by omega)).2 5, en.qe, hAt h 54 6, (neC.nw.2.1 54 (by omega)).2 6, cf.q, H, nw_tag, F, σ2, ?_, i100, ?_, hAt h i 5, ?_, re.qe, ?_, ?_, Sc, σ2, ?_, hSet Sc 54 5 (.ref G.1), mup (mup σ2 54 3 (σ0 26 m)) 54 4 0, ?_, rfl, rfl, rfl⟩
    · rw [← hF]; exact r_frame (d := d + 18) H (rg8 g ra) en.qe cf.q
    · rw [hG, (neC.nw.2.1 i iG).1]; exact gi.1
    · rw [hG, (neC.nw.2.1 i iG).2]; exact gi.2 5
    · rw [hG]; exact HG
    · rw [hG]; exact nw_tag
    · rw [hG, rwm sp (by decide) (by decide), m2, ← hS]; exact r_scope (d := d + 18) HG gy isQ.j re.qe
    · rw [hG, rwm sp (by decide) (by decide)]; exact r_into (d := d + 18) (rg8 g r26)
  · rw [at_nk (by decide), (So 54 (by omega)).2 11, ← hG, at_nk (by decide)]
    exact (neF.2.1 54 (by omega)).2 11
theorem fv_cs {f : Va} (h : isFv f) : (∃ y, f = vI y ∧ (y = 82 ∨ y = 73)) ∨ (∃ y bd Rr ρ2, f = .tag 5 (.append (.tag 12 (.nest y (.append bd Rr))) ρ2)) ∨ ∃ gn y bd Rr ρ2, f = .tag 6 (.nest gn (.append (.tag 12 (.nest y (.append bd Rr))) ρ2)) := by
  unfold isFv at h
  split at h
  · obtain ⟨a, rfl⟩ := h; exact Or.inl ⟨_, rfl, a⟩
  · exact Or.inr (Or.inl ⟨_, _, _, _, rfl⟩)
  · exact Or.inr (Or.inr ⟨_, _, _, _, _, rfl⟩)
  · exact h.elim
theorem fn_12 {y : Int} {bd Rr : Tr} (hw : wf (.tag 12 (.nest y (.append bd Rr)))) : (.tag 12 (.nest y (.append bd Rr)) : Tr) = nd 12 y bd nl nl ∧ ltZ y := by
  unfold wf at hw
  split at hw
  · next k' z' A' B' C' e =>
    cases e
    have hB := hw.2.2.2.1
    have hC := hw.2.2.2.2
    have h1 := hw.1
    subst hB hC
    exact ⟨rfl, h1⟩
  · exact hw.elim
theorem cs_app (g : pg8 σ0) (pp : PP (shf σ0)) {z : Int} {A B C : Tr} (R : cRel σ0 n h σ (2, nd 11 z A B C, cx, ρ, vs, fs)) (W : wkV (2, nd 11 z A B C, cx, ρ, vs, fs)) (ok : stOK FP.Core.DFin 11 z B vs) {o : WkS ⊕ Int} (hm : wkS (2, nd 11 z A B C, cx, ρ, vs, fs) = some o) : ∃ h' σ', Rh (d + 22) yMc_step [.ref 54] h σ (.inl none) h' σ' ∧ cOutS σ0 130 h σ h' σ' o := by
  obtain ⟨f, x, vs, rfl, hf, hx⟩ := ok
  obtain ⟨hl, a, b, r, t, -⟩ := R.s
  have hl : vs.length + 1 + 1 ≤ 200 := hl
  have b2 := b
  obtain ⟨⟨n0, n1⟩, sp, en, cv, cc, cf, at', ra, cp⟩ := b2
  have H : 100 ≤ h.1 := Nat.le_trans n0 n1
  obtain ⟨-, t1, t2, -⟩ := nT_nd.mp t
  have rga : rg (σ 54 3) := by rw [at']; exact rg8 g ra
  have ek : rowv 128 σ 22 (σ 54 3) = 11 := by rw [at', sp.rv (by decide) (by decide), rw8 g ra, t1]; rfl
  obtain ⟨j, σ1, Rt, ej, f1, b1, k1⟩ := c_take (d := d + 17) b (by show vs.length + 1 < 200; omega) r
  obtain ⟨b1, rf⟩ := b1.tl
  obtain ⟨j2, σ2, Rt2, ej2, f2, b3, k2⟩ := c_take (d := d + 17) b1 (by omega) rf
  rw [ej] at r
  rw [ej2] at rf
  have kk : ∀ q : Int, q ≠ 2 → σ2 54 q = σ 54 q := fun q hq => (k2 q hq).trans (k1 q hq)
  have sp2 : spg σ0 σ2 := b3.2.1
  have fin : ∀ {h' σ' S'}, Rh (d + 21) yMc_apply [.ref 54] h σ (.inl none) h' σ' ∧ cOut σ0 2 h σ h' σ' S' → o = .inl S' → ∃ h' σ', Rh (d + 22) yMc_step [.ref 54] h σ (.inl none) h' σ' ∧ cOutS σ0 130 h σ h' σ' o := fun {h' σ' S'} q e => by
    subst e
    refine ⟨h', σ', M_Mc_step ⟨rga, ?_⟩, q.2.1.le (by decide), q.2.2⟩
    rw [ek, if_neg (by decide), if_neg (by decide), if_neg (by decide), if_pos rfl]
    exact ⟨_, _, q.1, rfl, rfl, rfl⟩
  have vf := W.2.2.1 f (List.mem_cons_of_mem _ List.mem_cons_self)
  rcases fv_cs hf with ⟨y, rfl, hy⟩ | ⟨y, bd, Rr, ρ2, rfl⟩ | ⟨gn, y, bd, Rr, ρ2, rfl⟩
  ·
    obtain ⟨i, m, e, ci, a0, a1, gm, pm⟩ := rf
    cases e
    obtain ⟨rm, m1, m2, -⟩ := nT_nd.mp pm
    have rwm : ∀ {q : Nat}, 20 ≤ q → q ≤ 34 → rowv 128 σ2 q m = σ0 q m := fun h0 h1 => (sp2.rv h0 h1).trans (rw8 g rm)
    have np := np_s cp W.1.2.1.2 t (by decide)
    have hx : (y = 82 ∧ isNv x) ∨ (y = 73 ∧ isRv FP.Core.DFin x) := hx
    rcases hx with ⟨rfl, z', rfl, gz⟩ | ⟨rfl, b0, rfl, fb⟩
    · obtain ⟨i2, e, c2, -, d1, -⟩ := r
      cases e
      obtain ⟨x0, x1, x2, x3⟩ := hvR_at (h := h) (b := FP.i2d (Int32.ofInt z'))
      obtain ⟨h', σ', Rs, oo⟩ := c_val2 (d := d + 17) (v := vR (FP.i2d (Int32.ofInt z'))) exB.R b3 (f1.tr f2) (kk 7 (by decide)) (kk 8 (by decide)) (by omega) ⟨h.1, rfl, ⟨⟨H, Nat.lt_succ_self _⟩, x0⟩, x1, x2, x3.trans (congrArg Value.double vR_at.symm)⟩ np
      refine fin (h' := h') (σ' := σ') (S' := (1, nl, cx, ρ, vR (FP.i2d (Int32.ofInt z')) :: vs, fs)) ⟨M_Mc_apply (d := d + 16) ⟨_, _, _, Rt, isQ.j, _, _, _, Rt2, isQ.j, j2, rfl, ci.1.1, ci.2, m, a1, gm, ?_⟩, oo.1.le (by decide), oo.2⟩ (by cases hm; rfl)
      rw [rwm (by decide) (by decide), m1, if_pos (by decide), rwm (by decide) (by decide), m2, if_neg (by decide)]
      exact ⟨j, rfl, c2.1.1, c2.2, z', d1, gz, _, _, _, r_real (d := d + 17), isQ.j, _, _, Rs, rfl, rfl, rfl⟩
    · obtain ⟨i2, e, c2, -, -, d2⟩ := r
      cases e
      have i2h : j ≠ h.1 := Nat.ne_of_lt c2.1.2
      obtain ⟨h', σ', Rs, oo⟩ := c_val2 (d := d + 17) (v := vN (FP.d2i (UInt64.ofNat ((b0.toNat : Int)).toNat)).toInt) (exB.I (k := 0) (z := (FP.d2i (UInt64.ofNat ((b0.toNat : Int)).toNat)).toInt)) b3 (f1.tr f2) (kk 7 (by decide)) (kk 8 (by decide)) (by omega) ⟨h.1, rfl, ⟨⟨H, Nat.lt_succ_self _⟩, hvI_at.1⟩, hvI_at.2.1, hvI_at.2.2, rg_toInt⟩ np
      refine fin (h' := h') (σ' := σ') (S' := (1, nl, cx, ρ, vN (FP.d2i (UInt64.ofNat ((b0.toNat : Int)).toNat)).toInt :: vs, fs)) ⟨M_Mc_apply (d := d + 16) ⟨_, _, _, Rt, isQ.j, _, _, _, Rt2, isQ.j, j2, rfl, ci.1.1, ci.2, m, a1, gm, ?_⟩, oo.1.le (by decide), oo.2⟩ (by cases hm; rfl)
      rw [rwm (by decide) (by decide), m1, if_pos (by decide), rwm (by decide) (by decide), m2, if_pos (by decide)]
      exact ⟨j, rfl, c2.1.1, (neC.nw.2.1 j i2h).1.trans c2.2, _, ((neC.nw.2.1 j i2h).2 2).trans d2, H, nw_tag, _, _, r_vnew (d := d + 18) H (rgk rfl) rg_toInt, _, _, Rs, rfl, rfl, rfl⟩
  ·
    obtain ⟨hfn, ⟨hw, -⟩, -⟩ := vf
    obtain ⟨hb, -⟩ := fnB hw hfn
    obtain ⟨e12, hy⟩ := fn_12 hw
    cases e12
    obtain ⟨i, m, e, ci, a0, a1, gm, pm, re⟩ := rf
    cases e
    obtain ⟨h', σ', q⟩ := c_begin (d := d) (x := x) (σ := σ) g pp t (by omega) b3 (f1.tr f2) kk r ci a1 gm pm hy hb re Rt Rt2
    exact fin q (by cases hm; rfl)
  ·
    obtain ⟨hfn, ⟨hw, -⟩, -⟩ := vf
    obtain ⟨hb, -⟩ := fnB hw hfn
    obtain ⟨e12, hy⟩ := fn_12 hw
    cases e12
    have rf0 := rf
    obtain ⟨i, m, s, e, ci, a0, a1, gm, pm, e5, cs, s0, gf, s1, s2⟩ := rf
    cases e
    have re : RPv h (nT σ0) n (eC gn (.tag 6 (.nest gn (.append (nd 12 y bd nl nl) ρ2))) ρ2) true (hAt h j2 5) := by
      rw [e5]
      exact ⟨s, rfl, cs, s0, gf, by rw [s1]; exact rf0, s2⟩
    obtain ⟨h', σ', q⟩ := c_begin (d := d) (x := x) (σ := σ) g pp t (by omega) b3 (f1.tr f2) kk r ci a1 gm pm hy hb re Rt Rt2
    exact fin q (by cases hm; rfl)
end CCAL
