/-! The class's machine: a node is entered. -/
/-- a REC's function is known, its step is due -/
def pndS (m : Nat) (T : Tr) (cx : Cx) : Prop := (m = 1 ∧ match cx with | (1, .tag 14 _) :: _ => True | _ => False) ∨ (m = 2 ∧ match T with | .tag 14 _ => True | _ => False)
/-- the class's state stands for S; n: what is older than the last value -/
def cRel (σ0 : Mem) (n : Nat) (h : mHp) (σ : Mem) : WkS → Prop
  | (m, T, cx, ρ, vs, fs) => vs.length ≤ 200 ∧ ∃ a, if m = 0 then cB σ0 n h σ vs.length cx ρ vs fs a ∧ σ 54 4 = 0 ∧ nT σ0 T a
    else ∃ v vs', vs = v :: vs' ∧ cB σ0 n h σ (vs'.length + 1) cx ρ vs' fs a ∧ RPv h (nT σ0) h.1 v false (hAt h 55 vs'.length) ∧ (if m = 1 then σ 54 4 = 1 else σ 54 4 = 2 ∧ nT σ0 T a) ∧ (pndS m T cx → ∃ i lam, hAt h 55 vs'.length = .ref i ∧ n ≤ i ∧ v = vF lam ρ)
/-- what a move comes to -/
def cOut (σ0 : Mem) (k : Nat) (h : mHp) (σ : Mem) (h' : mHp) (σ' : Mem) (S' : WkS) : Prop := frWk k h h' σ σ' ∧ hAt h' 54 11 = hAt h 54 11 ∧ ((200 < S'.2.2.2.2.1.length ∧ σ' 54 7 = 3 ∧ σ' 54 8 = 5) ∨ (S'.2.2.2.2.1.length ≤ 200 ∧ (∃ n, cRel σ0 n h' σ' S') ∧ σ' 54 7 = σ 54 7 ∧ σ' 54 8 = σ 54 8))
section CENT
variable {h h' h1 : mHp} {σ0 σ σ' : Mem} {d n k : Nat} {c a : Int} {cx : Cx} {ρ ρ' : En} {vs : List Va} {v : Va} {fs : List (Cx × En)}
theorem frWk.ex (x : exB k h h1) (H : 100 ≤ h.1) : frWk k h h1 σ σ := ⟨x.1, x.2.1, fun i hi _ _ y => (x.2.2.1 i (by omega)).2 y, fun _ _ => rfl, rfl, rfl, (x.2.2.1 0 (by omega)).1, x.2.2.2 0 (by omega)⟩
/-- a new value waits -/
theorem c_val {j : Nat} (x : exB k h h1) (b : cB σ0 n h σ vs.length cx ρ vs fs a) (hl : vs.length ≤ 200) (r : RPv h1 (nT σ0) h1.1 v false (.ref j)) (hp : pndS 1 nl cx → n ≤ j ∧ ∃ lam, v = vF lam ρ) : ∃ h' σ', Rh (d + 3) yMc_settle [.ref 54, .ref j] h1 σ (.inl none) h' σ' ∧ cOut σ0 k h σ h' σ' (1, nl, cx, ρ, v :: vs, fs) := by
  have H : 100 ≤ h.1 := Nat.le_trans b.1.1 b.1.2
  have b1 := b.ex x
  have k1 : hAt h1 54 11 = hAt h 54 11 := (x.2.2.1 54 (by omega)).2 11
  by_cases q : vs.length = 200
  · obtain ⟨σ', R, f, e7, e8⟩ := c_push5 (d := d) (j := j) b1 (by omega)
    exact ⟨h1, σ', R, ((frWk.ex x H).tr f).le (by omega), k1, Or.inl ⟨by show 200 < vs.length + 1; omega, e7, e8⟩⟩
  · obtain ⟨h', σ', R, f, b2, e4, ⟨r2, ej⟩, e7, e8, e11⟩ := c_push (d := d) rfl b1 (by omega) r
    refine ⟨h', σ', R, ((frWk.ex x H).tr f).le (by omega), e11.trans k1, Or.inr ⟨by show vs.length + 1 ≤ 200; omega, ⟨n, by show vs.length + 1 ≤ 200; omega, a, ?_⟩, e7, e8⟩⟩
    rw [if_neg (by decide)]
    refine ⟨v, vs, rfl, b2, r2, by rw [if_pos rfl]; exact e4, fun p => ?_⟩
    obtain ⟨p1, lam, p2⟩ := hp p
    exact ⟨j, lam, ej, p1, p2⟩
theorem wk_lit {z : Int} (hz : 0 ≤ z ∧ z ≤ 9999999) : nn (FP.ddiv (FP.i2d (Int32.ofInt z)) (FP.i2d 1000)) = true := fin_nn (rcl.1 z hz.1 hz.2)
theorem k1000 : (UInt64.ofNat 4652007308841189376) = FP.i2d 1000 := by decide +kernel
theorem vR_at {b : UInt64} : UInt64.ofNat ((b.toNat : Int)).toNat = b := by rw [Int.toNat_natCast]; exact UInt64.ofNat_toNat
/-- REC's first part is a function -/
theorem pnd_fn {E : Bool} {T : Tr} (cp : cPs σ0 E cx a) (w : cxW cx) (ht : nT σ0 T a) (p : pndS 1 nl cx) : isFn T := by
  rcases p with ⟨-, p⟩ | ⟨p, -⟩
  · split at p
    · next f cx' =>
      unfold cPs at cp
      obtain ⟨c1, -, c3, -⟩ := cp
      rcases c3 with ⟨-, c3⟩ | ⟨c3, -⟩
      · unfold cxW at w
        split at w
        · next e => cases e
        · next j k z A B C cx2 e =>
          cases e
          have t := (nT_nd.mp c1).2.2.2.1
          rw [c3] at t
          have := isT_det (Int.le_refl _) t ht
          subst this
          exact w.2.1.1.2.1
        · exact w.elim
      · exact absurd rfl c3
    · exact p.elim
  · cases p
theorem cm_enter (g : pg8 σ0) (pp : PP (shf σ0)) {k : Nat} {z : Int} {A B C : Tr} {S' : WkS} (R : cRel σ0 n h σ (0, nd k z A B C, cx, ρ, vs, fs)) (W : wkV (0, nd k z A B C, cx, ρ, vs, fs)) (nm : k = 5 → z ∈ nmEn ρ) (hm : wkM (0, nd k z A B C, cx, ρ, vs, fs) = some S') : ∃ h' σ', Rh (d + 6) yMc_enter [.ref 54] h σ (.inl none) h' σ' ∧ cOut σ0 1 h σ h' σ' S' := by
  obtain ⟨we, ww⟩ : isE (nd k z A B C) ∧ wf (nd k z A B C) := by
    rcases W.1.1 with e | e | e
    · exact e.2
    · cases e
    · cases e.1
  obtain ⟨hl, a, R⟩ := R
  rw [if_pos rfl] at R
  obtain ⟨b, e4, ht⟩ := R
  have b2 := b
  obtain ⟨⟨n0, n1⟩, sp, en, cv, cc, cf, at', ra, cp⟩ := b2
  have H : 100 ≤ h.1 := Nat.le_trans n0 n1
  have g' : pg8 σ := sp.g8 g
  have e20 : σ 20 7 = σ0 20 7 := congrFun (sp 20 (by decide) (by decide)) 7
  have ra' : 0 ≤ a ∧ a < σ 20 7 := by rw [e20]; exact ra
  have tt : nT σ (nd k z A B C) a := sp.nT ht
  obtain ⟨-, t1, t2, tA, -, -⟩ := nT_nd.mp tt
  have ek : rowv 128 σ 22 (σ 54 3) = k := by rw [at', rw8 g' ra', t1]
  have ez : rowv 128 σ 24 (σ 54 3) = z := by rw [at', rw8 g' ra', t2]
  have ef : rowv 128 σ 26 (σ 54 3) = σ 26 a := by rw [at', rw8 g' ra']
  have rga : rg (σ 54 3) := by rw [at']; exact rg8 g' ra'
  have np : k ≤ 5 → ¬ pndS 1 nl cx := fun hk p => by
    have := pnd_fn cp W.1.2.1.2 ht p
    have : k = 12 := this
    omega
  unfold wkM at hm
  simp only [nd] at hm
  by_cases q : k ≤ 5 ∨ k = 12
  · rw [if_pos q] at hm
    cases hm
    have T8 : ∀ {h2 : mHp}, hTag h2 h.1 = 8 → ceL h2 (h.1 + 1) 8 h.1 := fun t => ⟨⟨H, Nat.lt_succ_self _⟩, t⟩
    have plain : ∀ {kk zz : Int} {v : Va}, k ≤ 5 → RPv (hvI h kk zz) (nT σ0) (h.1 + 1) v false (.ref h.1) → ∃ h' σ', Rh (d + 5) yMc_settle [.ref 54, .ref h.1] (hvI h kk zz) σ (.inl none) h' σ' ∧ cOut σ0 1 h σ h' σ' (1, nl, cx, ρ, v :: vs, fs) := fun hk r => c_val (d := d + 2) exB.I b hl r (fun p => absurd p (np hk))
    have : k = 0 ∨ k = 1 ∨ k = 2 ∨ k = 3 ∨ k = 4 ∨ k = 5 ∨ k = 12 := by omega
    rcases this with rfl | rfl | rfl | rfl | rfl | rfl | rfl
    · have gz : rg z := by have := ww.1; unfold rg; omega
      obtain ⟨h', σ', Rs, o⟩ := plain (kk := 0) (zz := z) (v := vN z) (by decide) ⟨h.1, rfl, T8 hvI_at.1, hvI_at.2.1, hvI_at.2.2, gz⟩
      refine ⟨h', σ', M_Mc_enter ⟨rga, ?_⟩, o⟩
      rw [ek, ez, if_pos (by decide)]
      exact ⟨H, nw_tag, _, _, r_vnew (d := d + 3) H (rgk rfl) gz, _, _, Rs, rfl, rfl, rfl⟩
    · have hz : 0 ≤ z ∧ z ≤ 9999999 := ww.1
      have Rr := r_real (h := h) (σ := σ) (d := d + 2) (b := FP.ddiv (FP.i2d (Int32.ofInt z)) (FP.i2d 1000))
      obtain ⟨x0, x1, x2, x3⟩ := hvR_at (h := h) (b := FP.ddiv (FP.i2d (Int32.ofInt z)) (FP.i2d 1000))
      obtain ⟨h', σ', Rs, o⟩ := c_val (d := d + 2) (v := vR (FP.ddiv (FP.i2d (Int32.ofInt z)) (FP.i2d 1000))) exB.R b hl ⟨h.1, rfl, T8 x0, x1, x2, by rw [vR_at]; exact x3⟩ (fun p => absurd p (np (by decide)))
      refine ⟨h', σ', M_Mc_enter ⟨rga, ?_⟩, o⟩
      rw [ek, ez, if_neg (by decide), if_pos (by decide), k1000]
      exact ⟨wk_lit hz, _, _, _, Rr, isQ.j, _, _, Rs, rfl, rfl, rfl⟩
    · have hz : z = 0 ∨ z = 1 := ww.1
      have gz : rg z := by unfold rg; omega
      obtain ⟨h', σ', Rs, o⟩ := plain (kk := 1) (zz := z) (v := vB z) (by decide) ⟨h.1, rfl, T8 hvI_at.1, hvI_at.2.1, hvI_at.2.2, gz⟩
      refine ⟨h', σ', M_Mc_enter ⟨rga, ?_⟩, o⟩
      rw [ek, ez, if_neg (by decide), if_neg (by decide), if_pos (by decide)]
      exact ⟨H, nw_tag, _, _, r_vnew (d := d + 3) H (rgk rfl) gz, _, _, Rs, rfl, rfl, rfl⟩
    · obtain ⟨h', σ', Rs, o⟩ := plain (kk := 3) (zz := 0) (v := vE) (by decide) ⟨h.1, rfl, T8 hvI_at.1, hvI_at.2.1, hvI_at.2.2⟩
      refine ⟨h', σ', M_Mc_enter ⟨rga, ?_⟩, o⟩
      rw [ek, ez, if_neg (by decide), if_neg (by decide), if_neg (by decide), if_pos (by decide)]
      exact ⟨H, nw_tag, _, _, r_vnew (d := d + 3) H (rgk rfl) (rgk rfl), _, _, Rs, rfl, rfl, rfl⟩
    · have tz : nT σ0 (nd 4 z nl nl nl) a := by
        obtain ⟨-, rfl, rfl, rfl⟩ := (show (z = 82 ∨ z = 73) ∧ A = nl ∧ B = nl ∧ C = nl from ww)
        exact ht
      obtain ⟨x0, x1, x2, x3⟩ := hvF_at (h := h) (m := a) (s := hAt h 54 5)
      have rga2 : rg a := rg8 g ra
      obtain ⟨h', σ', Rs, o⟩ := c_val (d := d + 2) (v := vI z) exB.F b hl ⟨h.1, a, rfl, T8 x0, x1, x2, rga2, tz⟩ (fun p => absurd p (np (by decide)))
      refine ⟨h', σ', M_Mc_enter ⟨rga, ?_⟩, o⟩
      rw [ek, if_neg (by decide), if_neg (by decide), if_neg (by decide), if_neg (by decide), if_pos (by decide)]
      refine ⟨rga, _, rfl, en.qe, _, _, _, ?_, isQ.j, _, _, Rs, rfl, rfl, rfl⟩
      rw [at']
      exact r_fun (d := d + 2) rga2 en.qe
    · have gz : rg z := ltZ_rg ww.1
      obtain ⟨j, Rf, rv⟩ := r_find (d := d + 2) (σ := σ) gz en (nm rfl)
      obtain ⟨h', σ', Rs, o⟩ := c_val (d := d + 2) (k := 0) (h1 := h) (v := lkp z ρ) exB.rf b hl (rv.mv smC.rf n1) (fun p => absurd p (np (by decide)))
      refine ⟨h', σ', M_Mc_enter ⟨rga, ?_⟩, ⟨o.1.le (by decide), o.2⟩⟩
      rw [ek, ez, if_neg (by decide), if_neg (by decide), if_neg (by decide), if_neg (by decide), if_neg (by decide), if_pos (by decide)]
      exact ⟨_, _, _, Rf, isQ.j, _, _, Rs, rfl, rfl, rfl⟩
    · obtain ⟨x0, x1, x2, x3⟩ := hvF_at (h := h) (m := a) (s := hAt h 54 5)
      have rga2 : rg a := rg8 g ra
      obtain ⟨h', σ', Rs, o⟩ := c_val (d := d + 2) (v := vF (nd 12 z A B C) ρ) exB.F b hl ⟨h.1, a, rfl, T8 x0, x1, x2, rga2, ht, by rw [x3]; exact en.mv (neC.F.sm.le n1) (by show n ≤ h.1 + 1; omega)⟩ (fun _ => ⟨n1, _, rfl⟩)
      refine ⟨h', σ', M_Mc_enter ⟨rga, ?_⟩, o⟩
      rw [ek, if_neg (by decide), if_neg (by decide), if_neg (by decide), if_neg (by decide), if_neg (by decide), if_neg (by decide), if_neg (by decide), if_neg (by decide), if_neg (by decide), if_neg (by decide), if_neg (by decide), if_neg (by decide), if_pos (by decide)]
      refine ⟨rga, _, rfl, en.qe, _, _, _, ?_, isQ.j, _, _, Rs, rfl, rfl, rfl⟩
      rw [at']
      exact r_fun (d := d + 2) rga2 en.qe
  · rw [if_neg q] at hm
    cases hm
    have we : k ≤ 16 ∧ k ≠ 6 ∧ k ≠ 7 := we
    obtain ⟨-, u1, u2, uA, -, -⟩ := nT_nd.mp ht
    have e26 : σ 26 a = σ0 26 a := congrFun (sp 26 (by decide) (by decide)) a
    have hA : isE A ∨ isFn A := by
      have ww2 := ww
      unfold wf nd at ww2
      have : k = 8 ∨ k = 9 ∨ k = 10 ∨ k = 11 ∨ k = 13 ∨ k = 14 ∨ k = 15 ∨ k = 16 := by omega
      rcases this with rfl | rfl | rfl | rfl | rfl | rfl | rfl | rfl
      · exact Or.inl ww2.2.1
      · exact Or.inl ww2.2.1
      · exact Or.inl ww2.2.1
      · exact Or.inl ww2.2.1
      · exact Or.inl ww2.2.1
      · exact Or.inr ww2.2.1
      · exact Or.inl ww2.2.1
      · exact Or.inl ww2.2.1
    have hn : σ0 26 a ≠ -1 := by
      rcases nT_rg uA with ⟨e, -⟩ | ⟨r, -⟩
      · subst e
        rcases hA with e | e
        · exact e.elim
        · exact e.elim
      · omega
    obtain ⟨r26, p26⟩ := par1 pp ra hn
    have cp' : cPs σ0 (!fs.isEmpty) ((1, nd k z A B C) :: cx) (σ0 26 a) := by
      show nT σ0 (nd k z A B C) (σ0 32 (σ0 26 a)) ∧ _
      rw [p26]
      refine ⟨ht, ra, Or.inl ⟨rfl, rfl⟩, ?_⟩
      rw [if_neg (by rw [u1]; omega)]
      exact cp
    have b3 := (b.at r26 cp').m (j := 4) (z := 0) (by decide) (by decide)
    refine ⟨h, mup (mup σ 54 3 (σ0 26 a)) 54 4 0, M_Mc_enter ⟨rga, ?_⟩, ((frWk.m4 (by decide) (by decide)).tr (frWk.m4 (by decide) (by decide))).le (by decide), rfl, Or.inr ⟨hl, ⟨n, hl, σ0 26 a, ?_⟩, ?_, ?_⟩⟩
    · have body : B_Mc_enter_210 d h σ (.inl none) h (mup (mup σ 54 3 (σ0 26 a)) 54 4 0) := by
        refine ⟨rga, _, _, ?_, rfl, rfl, rfl⟩
        rw [ef, e26]
        exact r_into (d := d + 3) (rg8 g r26)
      rw [ek, if_neg (by omega), if_neg (by omega), if_neg (by omega), if_neg (by omega), if_neg (by omega), if_neg (by omega)]
      split
      · exact body
      split
      · exact body
      split
      · exact body
      split
      · exact body
      split
      · exact body
      split
      · exact body
      split
      · omega
      · exact body
    · rw [if_pos rfl]
      exact ⟨b3, mup_eq, uA⟩
    · rw [mup_nk (by decide), mup_nk (by decide)]
    · rw [mup_nk (by decide), mup_nk (by decide)]
end CENT
