/-! The model: what it holds between calls; run; after a load. -/
/-- what doesn't touch working out -/
def keM (h h' : mHp) (σ σ' : Mem) : Prop := (∀ i x, i = 89 ∨ (92 ≤ i ∧ i ≤ 97) → hAt h' i x = hAt h i x) ∧ (∀ i, i = 63 ∨ i = 64 ∨ i = 65 ∨ i = 68 ∨ i = 69 ∨ i = 75 ∨ i = 90 ∨ i = 91 ∨ i = 93 → σ' i = σ i) ∧ ∀ k, k = 11 ∨ k = 51 ∨ k = 54 ∨ k = 57 ∨ k = 58 ∨ k = 61 ∨ k = 63 ∨ k = 64 ∨ k = 65 ∨ k = 66 ∨ k = 67 ∨ k = 68 → σ' 58 k = σ 58 k
/-- S: where the working out stands, s of the program's steps, a of all steps made -/
def moS (T : Tr) (σ0 : Mem) (h : mHp) (σ : Mem) (s a : Int) (e : WkE) : Prop := (RM σ0 ∧ 0 ≤ σ0 58 11) ∧ (σ 58 67 = s ∧ σ 58 68 = a) ∧ match e with
  | .inl S => (mRel σ0 h σ s S ∧ σ 58 65 = 1 ∧ σ 58 66 = 0) ∧ wkI T S ∧ ∃ m, Run T m (abS S) s (σ 58 57)
  | .inr (.inl v) => ((∃ y, hAt h 89 0 = vlg y ∧ RMv h σ (pfM σ0) (mOf σ) v false y) ∧ mBo (mOf σ) ∧ pgM σ0 σ) ∧ σ 58 65 = 2 ∧ σ 58 66 = 0
  | .inr (.inr c) => σ 58 65 = 3 ∧ σ 58 66 = c
section MSTA
variable {h h' h1 : mHp} {σ0 σ σ' σ1 : Mem} {d : Nat} {s a x k s' a' : Int} {T : Tr} {S : WkS} {e e' : WkE} {v : Va}
theorem keM.mo (k : keM h h' σ σ') : mOf σ' = mOf σ := by unfold mOf; rw [k.2.2 61 (by omega), k.2.2 63 (by omega), k.2.2 57 (by omega)]
theorem keM.sm (k : keM h h' σ σ') {m : MBd} : smM m h h' σ σ' := ⟨fun _ _ _ => ⟨k.1 94 _ (by omega), k.1 95 _ (by omega)⟩, fun _ _ _ => k.1 96 _ (by omega), fun z _ _ => ⟨k.1 92 _ (by omega), congrFun (k.2.1 93 (by omega)) z⟩⟩
theorem keM.pg (k : keM h h' σ σ') : pgM σ σ' := ⟨fun i hi => k.2.1 i (by omega), k.2.2 11 (by omega)⟩
theorem keM.rv (k : keM h h' σ σ') {P : Tr → List Int → Int → Prop} {b : Bool} {y : Int} (r : RMv h σ P (mOf σ) v b y) : RMv h' σ' P (mOf σ') v b y := by
  have rf : ∀ x : Int, x ≤ x := fun x => Int.le_refl x
  rw [k.mo]
  exact r.mv k.sm (rf _) (rf _) (rf _)
theorem keM.rf : keM h h σ σ := ⟨fun _ _ _ => rfl, fun _ _ => rfl, fun _ _ => rfl⟩
theorem keM.tr (x : keM h h1 σ σ1) (y : keM h1 h' σ1 σ') : keM h h' σ σ' := ⟨fun i z a => (y.1 i z a).trans (x.1 i z a), fun i a => (y.2.1 i a).trans (x.2.1 i a), fun k a => (y.2.2 k a).trans (x.2.2 k a)⟩
theorem mRel.ke (k : keM h h' σ σ') (R : mRel σ0 h σ s S) : mRel σ0 h' σ' s S := by
  have rf : ∀ x : Int, x ≤ x := fun x => Int.le_refl x
  have me := k.mo
  obtain ⟨m, T, cx, ρ, vs, fs⟩ := S
  obtain ⟨hl, q, e51, ps, vt⟩ := R
  refine ⟨hl, q.cg k.sm k.pg (fun j hj => k.2.2 j (by omega)) (fun i _ => ⟨congrFun (k.2.1 90 (by omega)) i, congrFun (k.2.1 91 (by omega)) i⟩), (k.2.2 51 (by omega)).trans e51, by rw [k.2.2 64 (by omega)]; exact ps, ?_⟩
  rw [me]
  cases vs with
  | nil => trivial
  | cons v vs =>
    obtain ⟨⟨y, ey, ty⟩, va⟩ := vt
    refine ⟨⟨y, (k.1 89 _ (by omega)).trans ey, ?_⟩, va.mv k.sm (rf _) (rf _) (rf _) (fun i _ => k.1 89 i (by omega))⟩
    revert ty
    cases (if m = 0 then none else if m = 1 then hd14 cx else k14 T) with
    | none => intro ty; exact RMv.mv k.sm (rf _) (rf _) (rf _) ty
    | some x =>
      intro ty
      obtain ⟨lam, ρ, p, e, x1, x2, x3, x4, x5, x6⟩ := ty
      refine ⟨lam, ρ, p, e, x1, x2, x3, x4, x5, ?_⟩
      rw [k.2.2 58 (by omega)]; exact x6.mv k.sm (rf _) (rf _) (rf _)
theorem moS.ke (k : keM h h' σ σ') (X : moS T σ0 h σ s a e) : moS T σ0 h' σ' s a e := by
  obtain ⟨g, ⟨e67, e68⟩, E⟩ := X
  refine ⟨g, ⟨(k.2.2 67 (by omega)).trans e67, (k.2.2 68 (by omega)).trans e68⟩, ?_⟩
  cases e with
  | inl S =>
    obtain ⟨⟨R, e65, e66⟩, I, r⟩ := E
    exact ⟨⟨R.ke k, (k.2.2 65 (by omega)).trans e65, (k.2.2 66 (by omega)).trans e66⟩, I, by rw [k.2.2 57 (by omega)]; exact r⟩
  | inr y =>
    cases y with
    | inl v =>
      obtain ⟨⟨⟨y, ey, ry⟩, bo, pg⟩, e65, e66⟩ := E
      exact ⟨⟨⟨y, (k.1 89 0 (by omega)).trans ey, k.rv ry⟩, by rw [k.mo]; exact bo, pg.tr k.pg⟩, (k.2.2 65 (by omega)).trans e65, (k.2.2 66 (by omega)).trans e66⟩
    | inr c =>
      obtain ⟨e65, e66⟩ := E
      exact ⟨(k.2.2 65 (by omega)).trans e65, (k.2.2 66 (by omega)).trans e66⟩
theorem keM.m8 {j z : Int} (hj : j = 0 ∨ j = 2 ∨ j = 49 ∨ j = 70) : keM h h σ (mup σ 58 j z) := ⟨fun _ _ _ => rfl, fun i hi => mup_obj (by omega), fun k hk => mup_nk (by omega)⟩
theorem m_runC (SF : sfR T) (rb : rmB T) (X : moS T σ0 h σ s a e) (gx : rg x) (hs : 0 ≤ s ∧ s ≤ 500) (ha : 0 ≤ a ∧ a ≤ 1000) (hr : runS x s a e k s' a' e') : ∃ h' σ', Rh (d + 8) yMo_run [.ref 58, vi x] h σ (.inl (some (vi k))) h' σ' ∧ moS T σ0 h' σ' s' a' e' ∧ frRm h h' σ σ' ∧ ((¬ runM x e ∧ h' = h ∧ σ' = mup σ 58 0 0 ∧ e' = e) ∨ (runM x e ∧ ∀ v, e' = .inr (.inl v) → (∃ y, hAt h' 58 69 = vlg y ∧ RMv h' σ' (pfM σ0) (mOf σ') v false y) ∧ σ' 58 70 = 0)) := by
  have k0 : keM h h σ (mup σ 58 0 0) := keM.m8 (by omega)
  have f0 : frRm h h σ (mup σ 58 0 0) := frRm.m8 (by omega)
  have e65 : (mup σ 58 0 0) 58 65 = σ 58 65 := mup_nk (by decide)
  have no : (x < 0 ∨ 100 < x ∨ (σ 58 65 ≠ 1 ∧ rg (σ 58 65))) → ¬ runM x e → k = -1 ∧ s' = s ∧ a' = a ∧ e' = e → ∃ h' σ', Rh (d + 8) yMo_run [.ref 58, vi x] h σ (.inl (some (vi k))) h' σ' ∧ moS T σ0 h' σ' s' a' e' ∧ frRm h h' σ σ' ∧ ((¬ runM x e ∧ h' = h ∧ σ' = mup σ 58 0 0 ∧ e' = e) ∨ (runM x e ∧ ∀ v, e' = .inr (.inl v) → (∃ y, hAt h' 58 69 = vlg y ∧ RMv h' σ' (pfM σ0) (mOf σ') v false y) ∧ σ' 58 70 = 0)) := fun q nr ⟨q1, q2, q3, q4⟩ => by
    subst q1 q2 q3 q4
    refine ⟨h, mup σ 58 0 0, M_Mo_run gx ?_, X.ke k0, f0, Or.inl ⟨nr, rfl, rfl, rfl⟩⟩
    unfold B_Mo_run
    by_cases a1 : x < 0
    · rw [if_pos a1]; exact ⟨rfl, rfl, rfl⟩
    rw [if_neg a1]
    by_cases a2 : x > 100
    · rw [if_pos a2]; exact ⟨rfl, rfl, rfl⟩
    rw [if_neg a2, e65]
    obtain ⟨a3, a4⟩ : σ 58 65 ≠ 1 ∧ rg (σ 58 65) := by
      rcases q with q | q | q
      · exact absurd q a1
      · exact absurd q a2
      · exact q
    rw [if_neg a3]
    exact ⟨a4, rfl, rfl, rfl⟩
  unfold runS at hr
  by_cases q : x < 0 ∨ 100 < x
  · rw [if_pos q] at hr
    exact no (by omega) (fun m => by have := m.1; omega) hr
  rw [if_neg q] at hr
  obtain ⟨⟨M0, p0⟩, ⟨e67, e68⟩, E⟩ := id X
  cases e with
  | inr y =>
    have hr : k = -1 ∧ s' = s ∧ a' = a ∧ e' = .inr y := hr
    refine no (Or.inr (Or.inr ?_)) (fun m => m.2) hr
    cases y with
    | inl v =>
      have e7 : σ 58 65 = 2 := E.2.1
      rw [e7]; exact ⟨by decide, rgk rfl⟩
    | inr c =>
      have e7 : σ 58 65 = 3 := E.1
      rw [e7]; exact ⟨by decide, rgk rfl⟩
  | inl S =>
    obtain ⟨F, G⟩ := hr
    obtain ⟨⟨R, e65', e66⟩, I, r⟩ := E
    have r2 : ∃ m, Run T m (abS S) s ((mup σ 58 0 0) 58 57) := by rw [k0.2.2 57 (by omega)]; exact r
    obtain ⟨h', σ', L, f, ⟨-, x67, x68⟩, E'⟩ := m_run (d := d) M0 p0 SF rb (nn := x) ⟨by omega, by omega⟩ F S 0 s a h (mup σ 58 0 0) G I r2 (R.ke k0) (e65.trans e65') ((k0.2.2 67 (by omega)).trans e67) ((k0.2.2 68 (by omega)).trans e68) hs ha ⟨Int.le_refl _, by omega⟩
    rw [k0.2.2 66 (by omega), e66] at E'
    refine ⟨h', σ', M_Mo_run gx ?_, ⟨⟨M0, p0⟩, ⟨x67, x68⟩, ?_⟩, f0.tr f, Or.inr ⟨⟨by omega, trivial⟩, ?_⟩⟩
    · unfold B_Mo_run
      rw [if_neg (by omega), if_neg (by omega), e65, e65', if_pos rfl]
      exact ⟨rgk rfl, L⟩
    · cases e' with
      | inl S' => exact ⟨E'.1, E'.2.1, E'.2.2.1⟩
      | inr y =>
        cases y with
        | inl v =>
          obtain ⟨⟨⟨y, y1, y2, y3⟩, b, g⟩, z1, z2, z3⟩ := E'
          exact ⟨⟨⟨y, y1, y3⟩, b, g⟩, z1, z2⟩
        | inr c => exact E'
    · intro v ev
      subst ev
      obtain ⟨⟨⟨y, y1, y2, y3⟩, b, g⟩, z1, z2, z3⟩ := E'
      exact ⟨⟨y, y2, y3⟩, z3⟩
theorem m_start {cs : List Int} (b : bLd σ σ' T) (G : mdL σ1 σ' T cs) (M : RM σ') (e68 : σ' 58 68 = a) : moS T σ' h σ' 0 a (.inl (0, T, [], eN, [], [])) := by
  obtain ⟨I, z⟩ := wkI.st b
  obtain ⟨-, -, ⟨pc, pn, p11, p124, ps⟩, -, -, -, g2, g51, g54, g57, g58, g61, g63, g64, g65, g66, g67⟩ := G
  have l0 := ln_ge (T := T)
  have s0 := sn_ge (T := T)
  have mo : mOf σ' = (0, 0, 0) := by unfold mOf; rw [g61, g63, g57]
  refine ⟨⟨M, by omega⟩, ⟨g67, e68⟩, ⟨⟨by decide, ⟨⟨⟨fun _ _ => rfl, rfl⟩, by omega⟩, ⟨?_, by omega, by omega, by decide⟩, ?_, g54, trivial⟩, g51, ?_, trivial⟩, g65, g66⟩, I, 0, ?_⟩
  · rw [mo]; exact ⟨⟨by decide, by decide⟩, ⟨by decide, by decide⟩, by decide, by decide⟩
  · show σ' 58 58 = 0; exact g58
  · unfold psM
    rw [if_pos rfl, g64]
    refine ⟨⟨⟨0, pc, by decide, by omega⟩, pn, by omega, by omega⟩, ?_⟩
    show 0 + ln T = σ' 58 11
    omega
  · rw [g57]; exact ⟨rfl, rfl, rfl⟩
end MSTA
