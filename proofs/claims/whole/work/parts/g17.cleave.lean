/-! The class's machine: a node is left. -/
section CLEA
variable {h h' h1 : mHp} {σ0 σ σ' : Mem} {d n k : Nat} {P : Tr → Int → Prop} {c a : Int} {cx : Cx} {ρ ρ' : En} {vs : List Va} {v : Va} {fs : List (Cx × En)}
theorem pnd_12 {E : Bool} (cp : cPs σ0 E cx a) (w : cxW cx) (p : pndS 1 nl cx) : σ0 22 a = 12 := by
  rcases p with ⟨-, p⟩ | ⟨p, -⟩
  · split at p
    · next f cx' =>
      unfold cPs at cp
      obtain ⟨c1, -, c3, -⟩ := cp
      rcases c3 with ⟨-, c3⟩ | ⟨c3, -⟩
      · unfold cxW at w
        split at w
        · next e => cases e
        · next j k z A B C cx2 e =>
          cases e
          have t := (nT_nd.mp c1).2.2.2.1
          rw [c3] at t
          have fn : isFn A := w.2.1.1.2.1
          unfold isFn at fn
          split at fn
          · next k' f' =>
            subst fn
            unfold nT isT at t
            split at t
            · next e => cases e; exact t.2.1
            · next e => cases e
            · exact t.elim
          · exact fn.elim
        · exact w.elim
      · exact absurd rfl c3
    · exact p.elim
  · cases p
theorem r_unb {x : Int} (hx : 0 ≤ x ∧ x ≤ 200) (r : RPv h P n ρ true (hAt h 54 5)) : ∃ u, Rh (d + 2) yMc_unbind [.ref 54, vi x] h σ (.inl none) (hSet h 54 5 u) σ ∧ RPv h P n (drp x.toNat ρ) true u := by
  obtain ⟨u, L, q⟩ := r_unb2 (d := d) (σ := σ) hx x.toNat 0 h ρ (by omega) (Int.le_refl _) r
  exact ⟨u, M_Mc_unbind (by unfold rg; omega) L, q⟩
theorem bnd_sz : ∀ (A : Tr), (bnd A).length ≤ szT A := by
  intro A
  fun_induction bnd A with
  | case1 z a b c => show 1 ≤ szT a + szT b + szT c + 1; omega
  | case2 k z a b c hk ia ib => rw [List.length_append]; show _ ≤ szT a + szT b + szT c + 1; omega
  | case3 => exact Nat.zero_le _
/-- the relation, left: its parts -/
theorem cRel.l {T : Tr} (R : cRel σ0 n h σ (1, T, cx, ρ, v :: vs, fs)) : vs.length + 1 ≤ 200 ∧ ∃ a, cB σ0 n h σ (vs.length + 1) cx ρ vs fs a ∧ RPv h (nT σ0) h.1 v false (hAt h 55 vs.length) ∧ σ 54 4 = 1 ∧ (pndS 1 T cx → ∃ i lam, hAt h 55 vs.length = .ref i ∧ n ≤ i ∧ v = vF lam ρ) := by
  obtain ⟨hl, a, R⟩ := R
  rw [if_neg (by decide)] at R
  obtain ⟨v', vs', e, b, r, e4, p⟩ := R
  cases e
  rw [if_pos rfl] at e4
  exact ⟨hl, a, b, r, e4, p⟩
theorem cRel.ml {T : Tr} (hl : vs.length + 1 ≤ 200) (b : cB σ0 n h σ (vs.length + 1) cx ρ vs fs a) (r : RPv h (nT σ0) h.1 v false (hAt h 55 vs.length)) (e4 : σ 54 4 = 1) (p : pndS 1 T cx → ∃ i lam, hAt h 55 vs.length = .ref i ∧ n ≤ i ∧ v = vF lam ρ) : cRel σ0 n h σ (1, T, cx, ρ, v :: vs, fs) := by
  refine ⟨hl, a, ?_⟩
  rw [if_neg (by decide)]
  exact ⟨v, vs, rfl, b, r, by rw [if_pos rfl]; exact e4, p⟩
theorem cRel.ms {T : Tr} (hl : vs.length + 1 ≤ 200) (b : cB σ0 n h σ (vs.length + 1) cx ρ vs fs a) (r : RPv h (nT σ0) h.1 v false (hAt h 55 vs.length)) (e4 : σ 54 4 = 2) (t : nT σ0 T a) (p : pndS 2 T cx → ∃ i lam, hAt h 55 vs.length = .ref i ∧ n ≤ i ∧ v = vF lam ρ) : cRel σ0 n h σ (2, T, cx, ρ, v :: vs, fs) := by
  refine ⟨hl, a, ?_⟩
  rw [if_neg (by decide)]
  exact ⟨v, vs, rfl, b, r, by rw [if_neg (by decide)]; exact ⟨e4, t⟩, p⟩
theorem cRel.me {T : Tr} (hl : vs.length ≤ 200) (b : cB σ0 n h σ vs.length cx ρ vs fs a) (e4 : σ 54 4 = 0) (t : nT σ0 T a) : cRel σ0 n h σ (0, T, cx, ρ, vs, fs) := by
  refine ⟨hl, a, ?_⟩
  rw [if_pos rfl]
  exact ⟨b, e4, t⟩
/-- the last value is one of the others -/
theorem cB.all (b : cB σ0 n h σ c cx ρ vs fs a) (r : RPv h (nT σ0) h.1 v false (hAt h 55 vs.length)) : cB σ0 h.1 h σ c cx ρ (v :: vs) fs a := by
  obtain ⟨b0, sp, e, cv, rest⟩ := b.up b.1.2 (Nat.le_refl _)
  exact ⟨b0, sp, e, ⟨r, cv⟩, rest⟩
theorem cm_leave (g : pg8 σ0) (pp : PP (shf σ0)) {T : Tr} {S' : WkS} (R : cRel σ0 n h σ (1, T, cx, ρ, v :: vs, fs)) (W : wkV (1, T, cx, ρ, v :: vs, fs)) (hT : T = nl) (hm : wkM (1, T, cx, ρ, v :: vs, fs) = some S') : ∃ h' σ', Rh (d + 6) yMc_leave [.ref 54] h σ (.inl none) h' σ' ∧ cOut σ0 0 h σ h' σ' S' := by
  subst hT
  obtain ⟨hl, a, b, r, e4, pd⟩ := R.l
  have b2 := b
  obtain ⟨⟨n0, n1⟩, sp, en, cv, cc, cf, at', ra, cp⟩ := b2
  have H : 100 ≤ h.1 := Nat.le_trans n0 n1
  have g' : pg8 σ := sp.g8 g
  have e20 : σ 20 7 = σ0 20 7 := congrFun (sp 20 (by decide) (by decide)) 7
  have ra' : 0 ≤ a ∧ a < σ 20 7 := by rw [e20]; exact ra
  have e32 : σ 32 a = σ0 32 a := congrFun (sp 32 (by decide) (by decide)) a
  have rga : rg (σ 54 3) := by rw [at']; exact rg8 g' ra'
  have par : rowv 128 σ 32 (σ 54 3) = σ0 32 a := by rw [at', rw8 g' ra', e32]
  obtain ⟨wz, w2⟩ := W.1.2.1
  have ext : ∀ {h2 : mHp} {σ2 : Mem} {cx' : Cx} {ρ2 : En} {a2 : Int}, frWk 0 h h2 σ σ2 → hAt h2 54 11 = hAt h 54 11 → smC h.1 h h2 → h2.1 = h.1 → hAt h2 55 vs.length = hAt h 55 vs.length → cB σ0 n h2 σ2 (vs.length + 1) cx' ρ2 vs fs a2 → σ2 54 4 = 1 → σ2 54 7 = σ 54 7 → σ2 54 8 = σ 54 8 → ¬ pndS 1 nl cx' → cOut σ0 0 h σ h2 σ2 (1, nl, cx', ρ2, v :: vs, fs) := fun f e11 sm e1 e55 b3 e4' e7 e8 np => ⟨f, e11, Or.inr ⟨hl, ⟨n, cRel.ml hl b3 (by rw [e55, e1]; exact r.mv sm (Nat.le_refl _)) e4' (fun q => absurd q np)⟩, e7, e8⟩⟩
  have M7 : ∀ {z : Int}, (mup σ 54 3 z) 54 7 = σ 54 7 ∧ (mup σ 54 3 z) 54 8 = σ 54 8 ∧ (mup σ 54 3 z) 54 4 = 1 := fun {z} => ⟨mup_nk (by decide), mup_nk (by decide), (mup_nk (by decide)).trans e4⟩
  cases cx with
  | nil =>
    cases fs with
    | nil => cases hm
    | cons f fs =>
      obtain ⟨fx, fe⟩ := f
      cases hm
      obtain ⟨rp, k12⟩ := (show (0 ≤ σ0 32 a ∧ σ0 32 a < σ0 20 7) ∧ σ0 22 (σ0 32 a) = 12 from cp)
      have sp' : spg σ0 (mup σ 54 3 (σ0 32 a)) := sp.up
      have rr : ∀ {i : Nat}, 20 ≤ i → i ≤ 34 → rowv 128 (mup σ 54 3 (σ0 32 a)) i (σ0 32 a) = σ0 i (σ0 32 a) := fun h0 h1 => (sp'.rv h0 h1).trans (rw8 g rp)
      obtain ⟨i, a', ei, ci, ea, ⟨ra2, k11⟩, cp2, en2, cf2⟩ := cf
      have t9 : hTag (hSet h 54 5 (hAt h i 1)) i = 9 := tag_set.trans ci.2
      have i54 : i ≠ 54 := Nat.ne_of_gt (Nat.lt_of_lt_of_le (by decide) ci.1.1)
      have b3 : cB σ0 n (hSet (hSet h 54 5 (hAt h i 1)) 54 6 (hAt h i 2)) (mup (mup σ 54 3 (σ0 32 a)) 54 3 a') (vs.length + 1) fx fe vs fs a' := by
        have s1 : smC n h (hSet (hSet h 54 5 (hAt h i 1)) 54 6 (hAt h i 2)) := (smC.set (Or.inl (by decide))).tr (smC.set (Or.inl (by decide)))
        refine ⟨⟨n0, n1⟩, sp'.up, ?_, cv.mv s1 (Nat.le_refl _) (fun x _ => (at_ne (by decide) x).trans (at_ne (by decide) x)), ((mup_nk (by decide)).trans (mup_nk (by decide))).trans cc, ?_, mup_eq, ra2, cp2⟩
        · rw [at_nk (by decide), at_eq]; exact en2.mv s1 (Nat.le_refl _)
        · rw [at_eq]; exact cf2.mv s1 (Nat.le_refl _)
      have fr2 : frWk 0 h (hSet (hSet h 54 5 (hAt h i 1)) 54 6 (hAt h i 2)) σ (mup (mup σ 54 3 (σ0 32 a)) 54 3 a') := ((frWk.s4.tr frWk.s4).tr (frWk.m4 (j := 3) (z := σ0 32 a) (by decide) (by decide))).tr (frWk.m4 (j := 3) (z := a') (by decide) (by decide))
      have sm2 : smC h.1 h (hSet (hSet h 54 5 (hAt h i 1)) 54 6 (hAt h i 2)) := (smC.set (Or.inl (by decide))).tr (smC.set (Or.inl (by decide)))
      have e11 : hAt (hSet (hSet h 54 5 (hAt h i 1)) 54 6 (hAt h i 2)) 54 11 = hAt h 54 11 := (at_nk (by decide)).trans (at_nk (by decide))
      have e55 : hAt (hSet (hSet h 54 5 (hAt h i 1)) 54 6 (hAt h i 2)) 55 vs.length = hAt h 55 vs.length := (at_ne (by decide) _).trans (at_ne (by decide) _)
      have q4 : ∀ x : Int, x ≠ 3 → (mup (mup σ 54 3 (σ0 32 a)) 54 3 a') 54 x = σ 54 x := fun x hx => by rw [mup_nk hx, mup_nk hx]
      refine ⟨hSet (hSet h 54 5 (hAt h i 1)) 54 6 (hAt h i 2), mup (mup σ 54 3 (σ0 32 a)) 54 3 a', M_Mc_leave ⟨rga, ?_⟩, fr2, e11, Or.inr ⟨hl, ⟨n, cRel.ml hl b3 (by rw [e55]; exact r.mv sm2 (Nat.le_refl _)) ((q4 4 (by decide)).trans e4) (fun q => by
        have := pnd_12 cp2 (W.1.2.2 _ List.mem_cons_self) q
        omega)⟩, q4 7 (by decide), q4 8 (by decide)⟩⟩
      rw [par, mup_eq]
      refine ⟨rg8 g rp, ?_⟩
      rw [rr (by decide) (by decide), k12, if_neg (by decide), if_neg (by decide), if_neg (by decide), if_neg (by decide), if_pos (by decide)]
      refine ⟨_, _, M_Mc_giveBack ⟨_, ei, isQ.j, Or.inr ⟨i, rfl, ci.1.1, ci.2, a', ea, rg8 g ra2, _, rfl, en2.qe, ci.1.1, t9, _, at_ne i54 2, cf2.q, rfl, rfl, rfl⟩⟩, rfl, rfl, rfl⟩
  | cons q cx =>
    obtain ⟨j, N⟩ := q
    unfold cxW at w2
    split at w2
    · next e => cases e
    · next j' k z A B C cx' e =>
      cases e
      obtain ⟨tN, rp, jd, cq⟩ := (show nT σ0 (nd k z A B C) (σ0 32 a) ∧ (0 ≤ σ0 32 a ∧ σ0 32 a < σ0 20 7) ∧ ((j = 1 ∧ σ0 26 (σ0 32 a) = a) ∨ (j ≠ 1 ∧ σ0 26 (σ0 32 a) ≠ a)) ∧ (if σ0 22 (σ0 32 a) = 17 then ((0 ≤ σ0 32 (σ0 32 a) ∧ σ0 32 (σ0 32 a) < σ0 20 7) ∧ σ0 22 (σ0 32 (σ0 32 a)) = 16) ∧ cPs σ0 (!fs.isEmpty) cx (σ0 32 (σ0 32 a)) else cPs σ0 (!fs.isEmpty) cx (σ0 32 a)) from cp)
      obtain ⟨-, k22, k24, tA, tB, tC⟩ := nT_nd.mp tN
      generalize hp : σ0 32 a = p at *
      have sp' : spg σ0 (mup σ 54 3 p) := sp.up
      have rr : ∀ {i : Nat}, 20 ≤ i → i ≤ 34 → rowv 128 (mup σ 54 3 p) i p = σ0 i p := fun h0 h1 => (sp'.rv h0 h1).trans (rw8 g rp)
      have rgp : rg p := rg8 g rp
      have fr1 : frWk 0 h h σ (mup σ 54 3 p) := frWk.m4 (by decide) (by decide)
      have stp : ∀ {σ2 : Mem}, k ≠ 17 → (k = 14 → j = 1) → σ2 = mup (mup σ 54 3 p) 54 4 2 → cOut σ0 0 h σ h σ2 (2, nd k z A B C, cx, ρ, v :: vs, fs) := fun {σ2} k17 kj e => by
        subst e
        rw [if_neg (by rw [k22]; omega)] at cq
        refine ⟨fr1.tr (frWk.m4 (by decide) (by decide)), rfl, Or.inr ⟨hl, ⟨n, cRel.ms hl ((b.at rp cq).m (by decide) (by decide)) r mup_eq tN (fun q => ?_)⟩, (mup_nk (by decide)).trans M7.1, (mup_nk (by decide)).trans M7.2.1⟩⟩
        rcases q with ⟨q, -⟩ | ⟨-, q⟩
        · cases q
        · have k14 : k = 14 := by
            unfold nd at q
            split at q
            · next e => cases e; rfl
            · exact q.elim
          subst k14
          have := kj rfl
          subst this
          exact pd (Or.inl ⟨rfl, trivial⟩)
      have np : k ≠ 12 → (σ0 22 p = 17 → False) → ¬ pndS 1 nl cx := fun k12 k17 q => by
        rw [if_neg (fun e => k17 e)] at cq
        have := pnd_12 cq w2.2.2 q
        omega
      unfold wkM at hm
      simp only [nd] at hm
      have head : ∀ {h2 : mHp} {σ2 : Mem}, (rg p ∧ (B_Mc_leave d h σ (.inl none) h2 σ2)) → Rh (d + 6) yMc_leave [.ref 54] h σ (.inl none) h2 σ2 := fun q => M_Mc_leave q.2
      rcases w2.1 with ⟨rfl, k8, k16, k12⟩ | ⟨rfl, kk⟩ | ⟨rfl, k15⟩
      · rw [if_pos rfl] at hm
        have ea : σ0 26 p = a := by
          rcases jd with q | q
          · exact q.2
          · exact absurd rfl q.1
        have r26 : rowv 128 (mup σ 54 3 p) 26 p = a := (rr (by decide) (by decide)).trans ea
        by_cases q : k = 9 ∨ k = 10 ∨ k = 11
        · rw [if_pos q] at hm
          cases hm
          rw [if_neg (by rw [k22]; omega)] at cq
          have hB : isE B := by
            have ww2 := w2.2.1.1
            unfold wf nd at ww2
            rcases q with rfl | rfl | rfl
            · exact ww2.2.2.2.1
            · exact ww2.2.2.2.1
            · exact ww2.2.2.2.1
          have hn : σ0 28 p ≠ -1 := by
            rcases nT_rg tB with ⟨e, -⟩ | ⟨r, -⟩
            · subst e; exact hB.elim
            · omega
          obtain ⟨r28, p28⟩ := par2 pp rp hn
          have ne : σ0 26 p ≠ σ0 28 p := fun e => by
            have := (pp.2 p p rp rp 11 13 (Or.inl rfl) (Or.inr (Or.inl rfl)) e (fun e2 => hn (e.symm.trans e2))).2
            omega
          have cp' : cPs σ0 (!fs.isEmpty) ((2, nd k z A B C) :: cx) (σ0 28 p) := by
            show nT σ0 (nd k z A B C) (σ0 32 (σ0 28 p)) ∧ _
            rw [p28]
            refine ⟨tN, rp, Or.inr ⟨by decide, ne⟩, ?_⟩
            rw [if_neg (by rw [k22]; omega)]
            exact cq
          have b3 := (((b.all r).at rp cq).at r28 cp').m (j := 4) (z := 0) (by decide) (by decide)
          refine ⟨h, _, M_Mc_leave ⟨rga, ?_⟩, (fr1.tr (frWk.m4 (by decide) (by decide))).tr (frWk.m4 (by decide) (by decide)), rfl, Or.inr ⟨hl, ⟨h.1, cRel.me hl b3 mup_eq tB⟩, ?_, ?_⟩⟩
          · have body : B_Mc_leave_84 d (σ 54 3) h (mup σ 54 3 p) (.inl none) h (mup (mup (mup σ 54 3 p) 54 3 (σ0 28 p)) 54 4 0) := by
              unfold B_Mc_leave_84
              rw [mup_eq]
              refine ⟨rgp, ?_⟩
              rw [r26, at', if_neg (by simp), rr (by decide) (by decide)]
              exact ⟨_, _, r_into (d := d + 3) (rg8 g r28), rfl, rfl, rfl⟩
            rw [par, mup_eq]
            refine ⟨rgp, ?_⟩
            rw [rr (by decide) (by decide), k22, if_neg (by omega)]
            split
            · exact body
            split
            · exact body
            split
            · exact body
            · omega
          · rw [mup_nk (by decide), mup_nk (by decide)]; exact M7.1
          · rw [mup_nk (by decide), mup_nk (by decide)]; exact M7.2.1
        · rw [if_neg q] at hm
          cases hm
          refine ⟨h, _, M_Mc_leave ⟨rga, ?_⟩, stp (by omega) (fun _ => rfl) rfl⟩
          rw [par, mup_eq]
          refine ⟨rgp, ?_⟩
          rw [rr (by decide) (by decide), k22]
          have c13 : B_Mc_leave_156 d (σ 54 3) h (mup σ 54 3 p) (.inl none) h (mup (mup σ 54 3 p) 54 4 2) := by
            unfold B_Mc_leave_156
            rw [mup_eq]
            refine ⟨rgp, ?_⟩
            rw [r26, at', if_neg (by simp)]
            exact ⟨rfl, rfl, rfl⟩
          have c15 : B_Mc_leave_133 d (σ 54 3) h (mup σ 54 3 p) (.inl none) h (mup (mup σ 54 3 p) 54 4 2) := by
            unfold B_Mc_leave_133
            rw [mup_eq]
            refine ⟨rgp, ?_⟩
            rw [r26, at', if_neg (by simp)]
            exact ⟨rfl, rfl, rfl⟩
          have kk : k = 8 ∨ k = 13 ∨ k = 14 ∨ k = 15 ∨ k = 16 := by omega
          rcases kk with kk | kk | kk | kk | kk
          · rw [kk, if_pos (by decide)]; exact ⟨rfl, rfl, rfl⟩
          · rw [kk, if_neg (by decide), if_neg (by decide), if_neg (by decide), if_neg (by decide), if_neg (by decide), if_pos (by decide)]; exact c13
          · rw [kk, if_neg (by decide), if_neg (by decide), if_neg (by decide), if_neg (by decide), if_neg (by decide), if_neg (by decide), if_pos (by decide)]; exact c13
          · rw [kk, if_neg (by decide), if_neg (by decide), if_neg (by decide), if_neg (by decide), if_neg (by decide), if_neg (by decide), if_neg (by decide), if_pos (by decide)]; exact c15
          · rw [kk, if_neg (by decide), if_neg (by decide), if_neg (by decide), if_neg (by decide), if_neg (by decide), if_neg (by decide), if_neg (by decide), if_neg (by decide), if_pos (by decide)]; exact c15
      · rw [if_neg (by decide)] at hm
        have ne : σ0 26 p ≠ a := by
          rcases jd with q | q
          · cases q.1
          · exact q.2
        have r26 : rowv 128 (mup σ 54 3 p) 26 p ≠ a := by rw [rr (by decide) (by decide)]; exact ne
        by_cases q : k = 9 ∨ k = 10 ∨ k = 11
        · rw [if_pos q] at hm
          cases hm
          refine ⟨h, _, M_Mc_leave ⟨rga, ?_⟩, stp (by omega) (fun e => by omega) rfl⟩
          have body : B_Mc_leave_84 d (σ 54 3) h (mup σ 54 3 p) (.inl none) h (mup (mup σ 54 3 p) 54 4 2) := by
            unfold B_Mc_leave_84
            rw [mup_eq]
            refine ⟨rgp, ?_⟩
            rw [at', if_pos (fun e => r26 e.symm)]
            exact ⟨rfl, rfl, rfl⟩
          rw [par, mup_eq]
          refine ⟨rgp, ?_⟩
          rw [rr (by decide) (by decide), k22, if_neg (by omega)]
          split
          · exact body
          split
          · exact body
          split
          · exact body
          · omega
        · rw [if_neg q] at hm
          by_cases q2 : k = 13 ∨ k = 14 ∨ k = 17
          · rw [if_pos q2] at hm
            cases hm
            by_cases k17 : k = 17
            · subst k17
              rw [if_pos (by rw [k22]; rfl)] at cq
              obtain ⟨⟨rq, k16⟩, cq⟩ := cq
              have ww2 : (z = (bnd A).length ∧ (bnd A).Nodup) ∧ wfP A ∧ isE B ∧ wf B ∧ (C = nl ∨ (isBr C ∧ wf C)) := w2.2.1.1
              have hz : 0 ≤ z ∧ z ≤ 200 := by
                have := bnd_sz A
                have e : szT A + szT B + szT C + 1 ≤ 128 := w2.2.1.2
                omega
              obtain ⟨u, Ru', eu⟩ := r_unb (d := d + 3) (σ := mup σ 54 3 p) hz en
              have b3 : cB σ0 n (hSet h 54 5 u) (mup (mup σ 54 3 p) 54 3 (σ0 32 p)) (vs.length + 1) cx (drp z.toNat ρ) vs fs (σ0 32 p) := by rw [mup_mup]; exact (b.env eu).at rq cq
              have np2 : ¬ pndS 1 nl cx := fun q => by
                have := pnd_12 cq w2.2.2 q
                omega
              refine ⟨hSet h 54 5 u, mup (mup σ 54 3 p) 54 3 (σ0 32 p), M_Mc_leave ⟨rga, ?_⟩, ext ((frWk.s4.tr (frWk.m4 (by decide) (by decide))).tr (frWk.m4 (by decide) (by decide))) (at_nk (by decide)) (smC.set (Or.inl (by decide))) rfl (at_ne (by decide) _) b3 ((mup_nk (by decide)).trans M7.2.2) ((mup_nk (by decide)).trans M7.1) ((mup_nk (by decide)).trans M7.2.1) np2⟩
              rw [par, mup_eq]
              refine ⟨rgp, ?_⟩
              rw [rr (by decide) (by decide), k22, if_neg (by decide), if_neg (by decide), if_neg (by decide), if_neg (by decide), if_neg (by decide), if_neg (by decide), if_neg (by decide), if_neg (by decide), if_neg (by decide), if_pos (by decide)]
              refine ⟨hSet h 54 5 u, mup σ 54 3 p, ?_, by rw [mup_eq]; exact rgp, rfl, rfl, ?_⟩
              · rw [rr (by decide) (by decide), k24]; exact Ru'
              · rw [mup_eq, rr (by decide) (by decide)]
            · rw [if_neg (by rw [k22]; omega)] at cq
              obtain ⟨u, Ru', eu⟩ := r_unb (d := d + 3) (σ := mup σ 54 3 p) (x := 1) (by decide) en
              have b3 : cB σ0 n (hSet h 54 5 u) (mup σ 54 3 p) (vs.length + 1) cx (drp 1 ρ) vs fs p := (b.env eu).at rp cq
              have nb : numB (nd k z A B C) = 1 := by
                show (if k = 17 then z.toNat else 1) = 1
                rw [if_neg k17]
              rw [show (Std.Format.tag k (Std.Format.nest z (A.append (B.append C)))) = nd k z A B C from rfl, nb]
              refine ⟨hSet h 54 5 u, mup σ 54 3 p, M_Mc_leave ⟨rga, ?_⟩, ext (frWk.s4.tr (frWk.m4 (by decide) (by decide))) (at_nk (by decide)) (smC.set (Or.inl (by decide))) rfl (at_ne (by decide) _) b3 M7.2.2 M7.1 M7.2.1 (np (by omega) (fun e => k17 (by rw [k22] at e; omega)))⟩
              have body : B_Mc_leave_156 d (σ 54 3) h (mup σ 54 3 p) (.inl none) (hSet h 54 5 u) (mup σ 54 3 p) := by
                unfold B_Mc_leave_156
                rw [mup_eq]
                refine ⟨rgp, ?_⟩
                rw [at', if_pos (fun e => r26 e.symm)]
                exact ⟨_, _, Ru', rfl, rfl, rfl⟩
              rw [par, mup_eq]
              refine ⟨rgp, ?_⟩
              rw [rr (by decide) (by decide), k22, if_neg (by omega), if_neg (by omega), if_neg (by omega), if_neg (by omega), if_neg (by omega)]
              split
              · exact body
              split
              · exact body
              · omega
          · rw [if_neg q2] at hm
            cases hm
            have k15 : k = 15 := by omega
            subst k15
            rw [if_neg (by rw [k22]; decide)] at cq
            refine ⟨h, mup σ 54 3 p, M_Mc_leave ⟨rga, ?_⟩, ext fr1 rfl smC.rf rfl rfl (b.at rp cq) M7.2.2 M7.1 M7.2.1 (np (by decide) (fun e => by rw [k22] at e; omega))⟩
            rw [par, mup_eq]
            refine ⟨rgp, ?_⟩
            rw [rr (by decide) (by decide), k22, if_neg (by decide), if_neg (by decide), if_neg (by decide), if_neg (by decide), if_neg (by decide), if_neg (by decide), if_neg (by decide), if_pos (by decide)]
            unfold B_Mc_leave_133
            rw [mup_eq]
            refine ⟨rgp, ?_⟩
            rw [at', if_pos (fun e => r26 e.symm)]
            exact ⟨rfl, rfl, rfl⟩
      · subst k15
        rw [if_neg (by decide), if_neg (by decide), if_neg (by decide)] at hm
        cases hm
        have ne : σ0 26 p ≠ a := by
          rcases jd with q | q
          · cases q.1
          · exact q.2
        have r26 : rowv 128 (mup σ 54 3 p) 26 p ≠ a := by rw [rr (by decide) (by decide)]; exact ne
        rw [if_neg (by rw [k22]; decide)] at cq
        refine ⟨h, mup σ 54 3 p, M_Mc_leave ⟨rga, ?_⟩, ext fr1 rfl smC.rf rfl rfl (b.at rp cq) M7.2.2 M7.1 M7.2.1 (np (by decide) (fun e => by rw [k22] at e; omega))⟩
        rw [par, mup_eq]
        refine ⟨rgp, ?_⟩
        rw [rr (by decide) (by decide), k22, if_neg (by decide), if_neg (by decide), if_neg (by decide), if_neg (by decide), if_neg (by decide), if_neg (by decide), if_neg (by decide), if_pos (by decide)]
        unfold B_Mc_leave_133
        rw [mup_eq]
        refine ⟨rgp, ?_⟩
        rw [at', if_pos (fun e => r26 e.symm)]
        exact ⟨rfl, rfl, rfl⟩
    · exact w2.elim
end CLEA
