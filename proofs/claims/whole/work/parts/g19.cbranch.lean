/-! The class's machine: LET, IF, CASE, REC. -/
section CBRA
variable {h h' h1 : mHp} {σ0 σ σ' : Mem} {d n k : Nat} {P : Tr → Int → Prop} {c a : Int} {cx : Cx} {ρ ρ' : En} {vs : List Va} {v w : Va} {fs : List (Cx × En)}
theorem ne_nl {T : Tr} {x : Int} (t : nT σ0 T x) (he : isE T ∨ isBr T ∨ isFn T) : x ≠ -1 := by
  rcases nT_rg t with ⟨e, -⟩ | ⟨r, -⟩
  · subst e
    rcases he with e | e | e
    · exact e.elim
    · exact e.elim
    · exact e.elim
  · omega
/-- the second part's place -/
theorem sec2 (pp : PP (shf σ0)) {E : Bool} {k : Nat} {z : Int} {A B C : Tr} (t : nT σ0 (nd k z A B C) a) (he : isE B ∨ isBr B ∨ isFn B) (hk : k ≠ 17) (cp : cPs σ0 E cx a) : (0 ≤ σ0 28 a ∧ σ0 28 a < σ0 20 7) ∧ cPs σ0 E ((2, nd k z A B C) :: cx) (σ0 28 a) ∧ nT σ0 B (σ0 28 a) ∧ σ0 32 (σ0 28 a) = a := by
  obtain ⟨ra, t1, -, -, tB, -⟩ := nT_nd.mp t
  have hn := ne_nl tB he
  obtain ⟨r28, p28⟩ := par2 pp ra hn
  have ne : σ0 26 a ≠ σ0 28 a := fun e => by
    have := (pp.2 a a ra ra 11 13 (Or.inl rfl) (Or.inr (Or.inl rfl)) e (fun e2 => hn (e.symm.trans e2))).2
    omega
  refine ⟨r28, ?_, tB, p28⟩
  show nT σ0 (nd k z A B C) (σ0 32 (σ0 28 a)) ∧ _
  rw [p28]
  refine ⟨t, ra, Or.inr ⟨by decide, ne⟩, ?_⟩
  rw [if_neg (by rw [t1]; omega)]
  exact cp
theorem sec3 (pp : PP (shf σ0)) {E : Bool} {k : Nat} {z : Int} {A B C : Tr} (t : nT σ0 (nd k z A B C) a) (he : isE C) (hk : k ≠ 17) (cp : cPs σ0 E cx a) : (0 ≤ σ0 30 a ∧ σ0 30 a < σ0 20 7) ∧ cPs σ0 E ((3, nd k z A B C) :: cx) (σ0 30 a) ∧ nT σ0 C (σ0 30 a) := by
  obtain ⟨ra, t1, -, -, -, tC⟩ := nT_nd.mp t
  have hn := ne_nl tC (Or.inl he)
  obtain ⟨r30, p30⟩ := par3 pp ra hn
  rw [if_neg (by rw [t1]; omega)] at p30
  have ne : σ0 26 a ≠ σ0 30 a := fun e => by
    have := (pp.2 a a ra ra 11 15 (Or.inl rfl) (Or.inr (Or.inr rfl)) e (fun e2 => hn (e.symm.trans e2))).2
    omega
  refine ⟨r30, ?_, tC⟩
  show nT σ0 (nd k z A B C) (σ0 32 (σ0 30 a)) ∧ _
  rw [p30]
  refine ⟨t, ra, Or.inr ⟨by decide, ne⟩, ?_⟩
  rw [if_neg (by rw [t1]; omega)]
  exact cp
theorem exB.nw : exB 1 h (nwO h 10) := neC.nw.ex (show h.2.1 + 3 ≤ h.2.1 + 6 by omega)
theorem cs_let (g : pg8 σ0) (pp : PP (shf σ0)) {z : Int} {A B C : Tr} (R : cRel σ0 n h σ (2, nd 13 z A B C, cx, ρ, vs, fs)) (W : wkV (2, nd 13 z A B C, cx, ρ, vs, fs)) (ok : stOK FP.Core.DFin 13 z B vs) {o : WkS ⊕ Int} (hm : wkS (2, nd 13 z A B C, cx, ρ, vs, fs) = some o) : ∃ h' σ', Rh (d + 22) yMc_step [.ref 54] h σ (.inl none) h' σ' ∧ cOutS σ0 130 h σ h' σ' o := by
  obtain ⟨v, vs, rfl⟩ := ok
  cases hm
  have ww : wf (nd 13 z A B C) := by
    rcases W.1.1 with e | e | e
    · cases e.1
    · cases e
    · exact e.2.2.1
  have ww : ltZ z ∧ isE A ∧ wf A ∧ isE B ∧ wf B ∧ C = nl := ww
  obtain ⟨hl, a, b, r, t, -⟩ := R.s
  have b2 := b
  obtain ⟨⟨n0, n1⟩, sp, en, cv, cc, cf, at', ra, cp⟩ := b2
  have H : 100 ≤ h.1 := Nat.le_trans n0 n1
  obtain ⟨r28, cp2, tB, -⟩ := sec2 pp t (Or.inl ww.2.2.2.1) (by decide) cp
  have rw0 : ∀ {σ1 : Mem} {i : Nat}, spg σ0 σ1 → 20 ≤ i → i ≤ 34 → rowv 128 σ1 i a = σ0 i a := fun s h0 h1 => (s.rv h0 h1).trans (rw8 g ra)
  obtain ⟨-, t1, t2, -⟩ := nT_nd.mp t
  have rga : rg (σ 54 3) := by rw [at']; exact rg8 g ra
  have gz := ltZ_rg ww.1
  obtain ⟨j, ej, -⟩ := r.v
  rw [ej] at r
  have Rt : Rh (d + 21) yMc_take [.ref 54] (nwO h 10) σ (.inl (some (.ref j))) (nwO h 10) (mup σ 54 2 vs.length) := r_take (d := d + 18) cc (by omega) (by rw [Int.toNat_natCast, (neC.nw.2.1 55 (by omega)).2]; exact ej)
  have b1 : cB σ0 n h (mup σ 54 2 vs.length) vs.length cx ρ vs fs a := b.ct
  have e5 : hAt (nwO h 10) 54 5 = hAt h 54 5 := (neC.nw.2.1 54 (by omega)).2 5
  have es := RPv.sc (us := hAt h 54 5) H gz r (en.mv smC.rf n1)
  have b3 := ((((b1.ex exB.S).up (n' := h.1 + 1) (by omega) (Nat.le_refl _)).env es).at r28 cp2).m (j := 4) (z := 0) (by decide) (by decide)
  have at1 : (mup σ 54 2 vs.length) 54 3 = a := (mup_nk (by decide)).trans at'
  have k2 : ∀ x : Int, x ≠ 2 → x ≠ 3 → x ≠ 4 → (mup (mup (mup σ 54 2 vs.length) 54 3 (σ0 28 a)) 54 4 0) 54 x = σ 54 x := fun x h2 h3 h4 => by rw [mup_nk h4, mup_nk h3, mup_nk h2]
  have hS : smC h.1 (hSc h z (.ref j) (hAt h 54 5)) (hSet (hSc h z (.ref j) (hAt h 54 5)) 54 5 (.ref h.1)) := smC.set (Or.inl (by decide))
  have fr : frWk 1 h (hSet (hSc h z (.ref j) (hAt h 54 5)) 54 5 (.ref h.1)) σ (mup (mup (mup σ 54 2 vs.length) 54 3 (σ0 28 a)) 54 4 0) := (((((frWk.ex exB.S H).tr frWk.s4).tr (frWk.m4 (j := 2) (z := vs.length) (by decide) (by decide))).tr (frWk.m4 (j := 3) (z := σ0 28 a) (by decide) (by decide))).tr (frWk.m4 (j := 4) (z := 0) (by decide) (by decide)))
  refine ⟨_, _, M_Mc_step ⟨rga, ?_⟩, fr.le (by decide), ?_, Or.inr ⟨by show vs.length ≤ 200; omega, ⟨h.1 + 1, cRel.me (by omega) b3 mup_eq tB⟩, k2 7 (by decide) (by decide) (by decide), k2 8 (by decide) (by decide) (by decide)⟩⟩
  · rw [at', rw0 sp (by decide) (by decide), t1, if_neg (by decide), if_neg (by decide), if_neg (by decide), if_neg (by decide), if_neg (by decide), if_pos (by decide)]
    refine ⟨_, _, _, Rt, isQ.j, hAt h 54 5, e5, en.qe, H, nw_tag, hSc h z (.ref j) (hAt h 54 5), mup σ 54 2 vs.length, ?_, ?_, hSet (hSc h z (.ref j) (hAt h 54 5)) 54 5 (.ref h.1), mup (mup (mup σ 54 2 vs.length) 54 3 (σ0 28 a)) 54 4 0, ?_, rfl, rfl, rfl⟩
    · rw [rw0 sp (by decide) (by decide), t2]
      exact r_scope (d := d + 19) H gz isQ.j en.qe
    · rw [at1]; exact rg8 g ra
    · rw [at1, rw0 sp.up (by decide) (by decide)]
      exact r_into (d := d + 19) (rg8 g r28)
  · rw [at_nk (by decide)]
    exact (neC.S.2.1 54 (by omega)).2 11
theorem cs_if (g : pg8 σ0) (pp : PP (shf σ0)) {z : Int} {A B C : Tr} (R : cRel σ0 n h σ (2, nd 15 z A B C, cx, ρ, vs, fs)) (W : wkV (2, nd 15 z A B C, cx, ρ, vs, fs)) (ok : stOK FP.Core.DFin 15 z B vs) {o : WkS ⊕ Int} (hm : wkS (2, nd 15 z A B C, cx, ρ, vs, fs) = some o) : ∃ h' σ', Rh (d + 22) yMc_step [.ref 54] h σ (.inl none) h' σ' ∧ cOutS σ0 130 h σ h' σ' o := by
  obtain ⟨v, vs, rfl, hv⟩ := ok
  have ww : wf (nd 15 z A B C) := by
    rcases W.1.1 with e | e | e
    · cases e.1
    · cases e
    · exact e.2.2.1
  have ww : z = 0 ∧ isE A ∧ wf A ∧ isE B ∧ wf B ∧ isE C ∧ wf C := ww
  obtain ⟨hl, a, b, r, t, -⟩ := R.s
  have b2 := b
  obtain ⟨⟨n0, n1⟩, sp, en, cv, cc, cf, at', ra, cp⟩ := b2
  have H : 100 ≤ h.1 := Nat.le_trans n0 n1
  have rw0 : ∀ {σ1 : Mem} {i : Nat}, spg σ0 σ1 → 20 ≤ i → i ≤ 34 → rowv 128 σ1 i a = σ0 i a := fun s h0 h1 => (s.rv h0 h1).trans (rw8 g ra)
  obtain ⟨-, t1, t2, -⟩ := nT_nd.mp t
  have rga : rg (σ 54 3) := by rw [at']; exact rg8 g ra
  have Rt : ∀ {j : Nat}, hAt h 55 vs.length = .ref j → Rh (d + 21) yMc_take [.ref 54] h σ (.inl (some (.ref j))) h (mup σ 54 2 vs.length) := fun ej => r_take (d := d + 18) cc (by omega) (by rw [Int.toNat_natCast]; exact ej)
  have b1 : cB σ0 n h (mup σ 54 2 vs.length) vs.length cx ρ vs fs a := b.ct
  have at1 : (mup σ 54 2 vs.length) 54 3 = a := (mup_nk (by decide)).trans at'
  have k2 : ∀ {y : Int} (x : Int), x ≠ 2 → x ≠ 3 → x ≠ 4 → (mup (mup (mup σ 54 2 vs.length) 54 3 y) 54 4 0) 54 x = σ 54 x := fun x h2 h3 h4 => by rw [mup_nk h4, mup_nk h3, mup_nk h2]
  have fr : ∀ {y : Int}, frWk 0 h h σ (mup (mup (mup σ 54 2 vs.length) 54 3 y) 54 4 0) := fun {y} => (((frWk.m4 (j := 2) (z := vs.length) (by decide) (by decide))).tr (frWk.m4 (j := 3) (z := y) (by decide) (by decide))).tr (frWk.m4 (j := 4) (z := 0) (by decide) (by decide))
  rcases hv with rfl | rfl
  · cases hm
    obtain ⟨r30, cp2, tC⟩ := sec3 pp t ww.2.2.2.2.2.1 (by decide) cp
    have b3 := (b1.at r30 cp2).m (j := 4) (z := 0) (by decide) (by decide)
    obtain ⟨i, ei, ci, -, a1, -⟩ := r
    refine ⟨_, _, M_Mc_step ⟨rga, ?_⟩, fr.le (by decide), rfl, Or.inr ⟨by show vs.length ≤ 200; omega, ⟨n, cRel.me (by omega) b3 mup_eq tC⟩, k2 7 (by decide) (by decide) (by decide), k2 8 (by decide) (by decide) (by decide)⟩⟩
    rw [at', rw0 sp (by decide) (by decide), t1, if_neg (by decide), if_neg (by decide), if_neg (by decide), if_neg (by decide), if_neg (by decide), if_neg (by decide), if_neg (by decide), if_pos (by decide)]
    refine ⟨_, _, _, Rt ei, isQ.j, i, rfl, ci.1.1, ci.2, 0, a1, rgk rfl, ?_⟩
    rw [if_pos (by decide), at1]
    refine ⟨rg8 g ra, h, mup (mup (mup σ 54 2 vs.length) 54 3 (σ0 30 a)) 54 4 0, ?_, rfl, rfl, rfl⟩
    rw [rw0 sp.up (by decide) (by decide)]
    exact r_into (d := d + 19) (rg8 g r30)
  · cases hm
    obtain ⟨r28, cp2, tB, -⟩ := sec2 pp t (Or.inl ww.2.2.2.1) (by decide) cp
    have b3 := (b1.at r28 cp2).m (j := 4) (z := 0) (by decide) (by decide)
    obtain ⟨i, ei, ci, -, a1, -⟩ := r
    refine ⟨_, _, M_Mc_step ⟨rga, ?_⟩, fr.le (by decide), rfl, Or.inr ⟨by show vs.length ≤ 200; omega, ⟨n, cRel.me (by omega) b3 mup_eq tB⟩, k2 7 (by decide) (by decide) (by decide), k2 8 (by decide) (by decide) (by decide)⟩⟩
    rw [at', rw0 sp (by decide) (by decide), t1, if_neg (by decide), if_neg (by decide), if_neg (by decide), if_neg (by decide), if_neg (by decide), if_neg (by decide), if_neg (by decide), if_pos (by decide)]
    refine ⟨_, _, _, Rt ei, isQ.j, i, rfl, ci.1.1, ci.2, 1, a1, rgk rfl, ?_⟩
    rw [if_neg (by decide), at1]
    refine ⟨rg8 g ra, h, mup (mup (mup σ 54 2 vs.length) 54 3 (σ0 28 a)) 54 4 0, ?_, rfl, rfl, rfl⟩
    rw [rw0 sp.up (by decide) (by decide)]
    exact r_into (d := d + 19) (rg8 g r28)
theorem cs_case (g : pg8 σ0) (pp : PP (shf σ0)) (hh : h.1 ≤ 2000000) {z : Int} {A B C : Tr} (R : cRel σ0 n h σ (2, nd 16 z A B C, cx, ρ, vs, fs)) (W : wkV (2, nd 16 z A B C, cx, ρ, vs, fs)) (G5 : c5 (nd 16 z A B C) ∧ pdT (nd 16 z A B C)) (ok : stOK FP.Core.DFin 16 z B vs) {o : WkS ⊕ Int} (hm : wkS (2, nd 16 z A B C, cx, ρ, vs, fs) = some o) : ∃ h' σ', Rh (d + 22) yMc_step [.ref 54] h σ (.inl none) h' σ' ∧ cOutS σ0 130 h σ h' σ' o := by
  obtain ⟨v, vs, rfl, hv⟩ := ok
  have ww : wf (nd 16 z A B C) := by
    rcases W.1.1 with e | e | e
    · cases e.1
    · cases e
    · exact e.2.2.1
  have ww : z = 0 ∧ isE A ∧ wf A ∧ isBr B ∧ wf B ∧ C = nl := ww
  have wz : szT A + szT B + szT C + 1 ≤ 128 := W.1.2.1.1
  obtain ⟨hl, a, b, r, t, -⟩ := R.s
  have b2 := b
  obtain ⟨⟨n0, n1⟩, sp, en, cv, cc, cf, at', ra, cp⟩ := b2
  have H : 100 ≤ h.1 := Nat.le_trans n0 n1
  have rw0 : ∀ {σ1 : Mem} {i : Nat}, spg σ0 σ1 → 20 ≤ i → i ≤ 34 → rowv 128 σ1 i a = σ0 i a := fun s h0 h1 => (s.rv h0 h1).trans (rw8 g ra)
  obtain ⟨-, t1, t2, -, tB, -⟩ := nT_nd.mp t
  have rga : rg (σ 54 3) := by rw [at']; exact rg8 g ra
  obtain ⟨j, ej, -⟩ := r.v
  rw [ej] at r
  have Rt : Rh (d + 20) yMc_take [.ref 54] h σ (.inl (some (.ref j))) h (mup σ 54 2 vs.length) := r_take (d := d + 17) cc (by omega) (by rw [Int.toNat_natCast]; exact ej)
  have b1 : cB σ0 n h (mup σ 54 2 vs.length) vs.length cx ρ vs fs a := b.ct
  have at1 : (mup σ 54 2 vs.length) 54 3 = a := (mup_nk (by decide)).trans at'
  have s1 : spg σ0 (mup σ 54 2 vs.length) := sp.up
  have hn := ne_nl tB (Or.inr (Or.inl ww.2.2.2.1))
  obtain ⟨r28, p28⟩ := par2 pp ra hn
  have q32 : (mup σ 54 2 vs.length) 32 (σ0 28 a) = a := (congrFun (s1 32 (by decide) (by decide)) _).trans p28
  have C := c_cho (d := d) (P := nT σ0) (s1.g8 g) (s1.PP pp) (c := a) H hh (u := .ref j) (us := hAt h 54 5) rfl B v ρ (σ0 28 a) 0 (Or.inr ⟨ww.2.2.2.1, ww.2.2.2.2.1⟩) G5.2.2.2.1 (by have := G5.1.1 rfl; omega) (s1.nT tB) (fun _ => q32) r hv (en.mv smC.rf n1)
  have stp : ∀ {r1 : mRes} {h1 : mHp} {σ1 : Mem}, Lh (d + 20) yMc_choose 19 [(0, .ref 54), (1, .ref j), (2, vi (σ0 28 a)), (3, vi (0 : Nat))] [] h (mup σ 54 2 vs.length) r1 h1 σ1 → r1 = .inl none → Rh (d + 22) yMc_step [.ref 54] h σ (.inl none) h1 σ1 := fun {r1 h1 σ1} L e => by
    subst e
    refine M_Mc_step ⟨rga, ?_⟩
    rw [at', rw0 sp (by decide) (by decide), t1, if_neg (by decide), if_neg (by decide), if_neg (by decide), if_neg (by decide), if_neg (by decide), if_neg (by decide), if_neg (by decide), if_neg (by decide)]
    refine ⟨_, _, M_Mc_choose ⟨_, _, _, Rt, isQ.j, by rw [at1]; exact rg8 g ra, ?_⟩, rfl, rfl, rfl⟩
    rw [at1, rw0 s1 (by decide) (by decide)]
    exact L
  unfold wkS at hm
  simp only [nd] at hm
  revert C hm
  cases hb : brF B v ρ with
  | none =>
    intro C hm
    cases hm
    have C : Lh (d + 20) yMc_choose 19 [(0, .ref 54), (1, .ref j), (2, vi (σ0 28 a)), (3, vi (0 : Nat))] [] h (mup σ 54 2 vs.length) (.inl none) h (mup (mup (mup σ 54 2 vs.length) 54 7 3) 54 8 2) := C
    refine ⟨_, _, stp C rfl, ?_, rfl, (mup_nk (by decide)).trans mup_eq, mup_eq⟩
    exact ((((frWk.m4 (j := 2) (z := vs.length) (by decide) (by decide))).tr (frWk.m4 (j := 7) (z := 3) (by decide) (by decide))).tr (frWk.m4 (j := 8) (z := 2) (by decide) (by decide))).le (by decide)
  | some q =>
    obtain ⟨E, br, ρ'⟩ := q
    intro C hm
    cases hm
    obtain ⟨h1, u', b', L, x, eu, tb, pb⟩ := C
    obtain ⟨⟨weE, -⟩, ⟨z', Pt, CC, rfl, -, -, -⟩, -⟩ := br_wf hb ww.2.2.2.2.1 (W.2.2.1 v List.mem_cons_self) W.2.1
    have tb : nT σ0 (nd 17 z' Pt E CC) b' := s1.sy.nT tb
    obtain ⟨rb, u1, -, -, tE, -⟩ := nT_nd.mp tb
    have pb : σ0 32 b' = a := by rw [← pb]; exact (congrFun (s1 32 (by decide) (by decide)) _).symm
    have e28 : (mup σ 54 2 vs.length) 28 b' = σ0 28 b' := congrFun (s1 28 (by decide) (by decide)) _
    rw [e28] at L
    have hnE := ne_nl tE (Or.inl weE)
    obtain ⟨rE, pE⟩ := par2 pp rb hnE
    have ne : σ0 26 b' ≠ σ0 28 b' := fun e => by
      have := (pp.2 b' b' rb rb 11 13 (Or.inl rfl) (Or.inr (Or.inl rfl)) e (fun e2 => hnE (e.symm.trans e2))).2
      omega
    have cp2 : cPs σ0 (!fs.isEmpty) ((2, nd 17 z' Pt E CC) :: cx) (σ0 28 b') := by
      show nT σ0 (nd 17 z' Pt E CC) (σ0 32 (σ0 28 b')) ∧ _
      rw [pE]
      refine ⟨tb, rb, Or.inr ⟨by decide, ne⟩, ?_⟩
      rw [if_pos (by rw [u1]; rfl), pb]
      exact ⟨⟨ra, by rw [t1]; rfl⟩, cp⟩
    have b3 := ((((b1.ex x).up (n' := h1.1) (Nat.le_trans n1 x.1.1) (Nat.le_refl _)).env eu).at rE cp2).m (j := 4) (z := 0) (by decide) (by decide)
    have k2 : ∀ x : Int, x ≠ 2 → x ≠ 3 → x ≠ 4 → (mup (mup (mup σ 54 2 vs.length) 54 3 (σ0 28 b')) 54 4 0) 54 x = σ 54 x := fun x h2 h3 h4 => by rw [mup_nk h4, mup_nk h3, mup_nk h2]
    refine ⟨_, _, stp L rfl, ?_, ?_, Or.inr ⟨by show vs.length ≤ 200; omega, ⟨h1.1, cRel.me (by omega) b3 mup_eq tE⟩, k2 7 (by decide) (by decide) (by decide), k2 8 (by decide) (by decide) (by decide)⟩⟩
    · exact (((((frWk.ex x H).tr frWk.s4).tr (frWk.m4 (j := 2) (z := vs.length) (by decide) (by decide))).tr (frWk.m4 (j := 3) (z := σ0 28 b') (by decide) (by decide))).tr (frWk.m4 (j := 4) (z := 0) (by decide) (by decide))).le (by omega)
    · rw [at_nk (by decide)]
      exact (x.2.2.1 54 (by omega)).2 11
end CBRA
