/-! The class's machine: branches are tried. -/
/-- the program is the same -/
def spg (σ σ' : Mem) : Prop := ∀ i, 20 ≤ i → i ≤ 34 → σ' i = σ i
section CCHO
variable {h h' h2 : mHp} {σ σ' σ2 : Mem} {d n : Nat} {P : Tr → Int → Prop}
theorem spg.rf : spg σ σ := fun _ _ _ => rfl
theorem spg.tr (a : spg σ σ') (b : spg σ' σ2) : spg σ σ2 := fun i h0 h1 => (b i h0 h1).trans (a i h0 h1)
theorem spg.sy (a : spg σ σ') : spg σ' σ := fun i h0 h1 => (a i h0 h1).symm
theorem spg.m4 {k z : Int} : spg σ (mup σ 54 k z) := fun i _ h1 => mup_obj (by omega)
theorem spg.up (a : spg σ σ') {k z : Int} : spg σ (mup σ' 54 k z) := a.tr spg.m4
theorem spg.nT (a : spg σ σ') {T : Tr} {x : Int} (t : nT σ T x) : nT σ' T x := by
  have e7 : shf σ' 5 7 = shf σ 5 7 := congrFun (a 20 (by decide) (by decide)) 7
  refine isT.mv (Int.le_refl _) (by rw [e7]; exact Int.le_refl _) (fun y _ _ => ?_) t
  exact ⟨congrFun (a 22 (by decide) (by decide)) y, congrFun (a 24 (by decide) (by decide)) y, congrFun (a 26 (by decide) (by decide)) y, congrFun (a 28 (by decide) (by decide)) y, congrFun (a 30 (by decide) (by decide)) y⟩
theorem spg.g8 (a : spg σ σ') (g : pg8 σ) : pg8 σ' := by unfold pg8; rw [a 20 (by decide) (by decide)]; exact g
theorem spg.rv (a : spg σ σ') {i : Nat} {x : Int} (h0 : 20 ≤ i) (h1 : i ≤ 34) : rowv 128 σ' i x = rowv 128 σ i x := by unfold rowv; rw [a i h0 h1]
theorem spg.PP (a : spg σ σ') (p : PP (shf σ)) : PP (shf σ') := p.mv (congrFun (a 20 (by decide) (by decide)) 7) (fun x _ _ j hj => congrFun (a (j + 15) (by omega) (by omega)) x)
/-- where a part's part is -/
theorem par1 (p : PP (shf σ)) {x : Int} (hx : 0 ≤ x ∧ x < σ 20 7) (hn : σ 26 x ≠ -1) : (0 ≤ σ 26 x ∧ σ 26 x < σ 20 7) ∧ σ 32 (σ 26 x) = x := by
  rcases p.1 x hx.1 hx.2 11 (Or.inl rfl) with e | ⟨a, b, -, c⟩
  · exact absurd e hn
  · rw [if_neg (by omega)] at c; exact ⟨⟨a, b⟩, c⟩
theorem par2 (p : PP (shf σ)) {x : Int} (hx : 0 ≤ x ∧ x < σ 20 7) (hn : σ 28 x ≠ -1) : (0 ≤ σ 28 x ∧ σ 28 x < σ 20 7) ∧ σ 32 (σ 28 x) = x := by
  rcases p.1 x hx.1 hx.2 13 (Or.inr (Or.inl rfl)) with e | ⟨a, b, -, c⟩
  · exact absurd e hn
  · rw [if_neg (by omega)] at c; exact ⟨⟨a, b⟩, c⟩
theorem par3 (p : PP (shf σ)) {x : Int} (hx : 0 ≤ x ∧ x < σ 20 7) (hn : σ 30 x ≠ -1) : (0 ≤ σ 30 x ∧ σ 30 x < σ 20 7) ∧ σ 32 (σ 30 x) = if σ 22 x = 17 then σ 32 x else x := by
  rcases p.1 x hx.1 hx.2 15 (Or.inr (Or.inr rfl)) with e | ⟨a, b, -, c⟩
  · exact absurd e hn
  · refine ⟨⟨a, b⟩, c.trans ?_⟩
    by_cases q : σ 22 x = 17
    · rw [if_pos q]; exact if_pos ⟨rfl, q⟩
    · rw [if_neg q]; exact if_neg (fun e => q e.2)
theorem nT_rg {T : Tr} {x : Int} (t : nT σ T x) : T = nl ∧ x = -1 ∨ (0 ≤ x ∧ x < σ 20 7) ∧ ∃ k z A B C, T = nd k z A B C := by
  unfold nT isT at t
  split at t
  · exact Or.inr ⟨t.1, _, _, _, _, _, rfl⟩
  · exact Or.inl ⟨rfl, t⟩
  · exact t.elim
/-- the branches from b on, i of them tried -/
theorem c_cho (g : pg8 σ) (pp : PP (shf σ)) {c : Int} (S : 100 ≤ h.1) (hh : h.1 ≤ 2000000) {u us : Value} (eus : hAt h 54 5 = us) : ∀ (B : Tr) (v : Va) (ρ : En) (b : Int) (i : Nat), (B = nl ∨ (isBr B ∧ wf B)) → pdT B → i + nbr B ≤ 5 → nT σ B b → (b ≠ -1 → σ 32 b = c) → RPv h P h.1 v false u → KiB B v → RPv h P h.1 ρ true us → match brF B v ρ with
    | none => Lh (d + 20) yMc_choose 19 [(0, .ref 54), (1, u), (2, vi b), (3, vi i)] [] h σ (.inl none) h (mup (mup σ 54 7 3) 54 8 2)
    | some (E, br, ρ') => ∃ h1 u' b', Lh (d + 20) yMc_choose 19 [(0, .ref 54), (1, u), (2, vi b), (3, vi i)] [] h σ (.inl none) (hSet h1 54 5 u') (mup (mup σ 54 3 (σ 28 b')) 54 4 0) ∧ exB (szT B) h h1 ∧ RPv h1 P h1.1 ρ' true u' ∧ nT σ br b' ∧ σ 32 b' = c := by
  intro B v ρ
  have rgi : ∀ {i : Nat}, i ≤ 6 → rg (i : Int) := fun h => by unfold rg; omega
  fun_induction brF B v ρ with
  | case1 z A E C v ρ ρ1 hf =>
    intro b i hB hp hi ht hc r hk e
    obtain ⟨hb, k1, k2, tA, tE, tC⟩ := nT_nd.mp ht
    have wB : (z = (bnd A).length ∧ (bnd A).Nodup) ∧ wfP A ∧ isE E ∧ wf E ∧ (C = nl ∨ (isBr C ∧ wf C)) := by
      rcases hB with e | e
      · cases e
      · exact e.2
    have hi : i + (nbr C + 1) ≤ 5 := hi
    have hk : KiP A v ∧ KiB C v := hk
    have pd : pdp A ≤ 14 := hp.1 rfl
    have rb : rg b := rg8 g hb
    obtain ⟨j, rfl, -⟩ := r.v
    have F := (r_fits (d := 0) g hh A _ v _ 0 wB.2.1 tA r hk.1 (by omega)).deep (e := d + 20) (by omega)
    have fz1 : fz A v = 1 := by
      unfold fz
      rw [fit_some (ρ2 := ρ), hf]; rfl
    obtain ⟨h1, u', R, x, q⟩ := r_pbind (d := 0) (n := 0) g (by omega) A (σ 26 b) v (.ref j) us ρ ρ1 0 h S wB.2.1 tA r e hf (by omega)
    have R := R.deep (e := d + 20) (by omega)
    refine ⟨h1, u', b, K_Mc_choose_19 isQ.j rb (rgi (by omega)) ?_, x.le (by show szT A ≤ szT A + szT E + szT C + 1; omega), q, ht, hc (by omega)⟩
    unfold B_Mc_choose_19
    rw [if_neg (by omega), if_neg (by omega)]
    refine ⟨fz A v, h, σ, by rw [rw8 g hb]; exact F, by rw [fz1]; exact rgk rfl, ?_⟩
    rw [if_neg (by rw [fz1]; decide)]
    refine ⟨us, eus, e.qe, u', h1, σ, by rw [rw8 g hb]; exact R, q.qe, _, _, ?_, rfl, rfl, rfl⟩
    rw [rw8 g hb]
    have tb : rg (σ 28 b) := by
      rcases nT_rg tE with ⟨_, e⟩ | ⟨a, -⟩
      · rw [e]; exact rgk rfl
      · exact rg8 g a
    exact r_into (d := d + 18) tb
  | case2 z A E C v ρ hf ih =>
    intro b i hB hp hi ht hc r hk e
    obtain ⟨hb, k1, k2, tA, tE, tC⟩ := nT_nd.mp ht
    have wB : (z = (bnd A).length ∧ (bnd A).Nodup) ∧ wfP A ∧ isE E ∧ wf E ∧ (C = nl ∨ (isBr C ∧ wf C)) := by
      rcases hB with e | e
      · cases e
      · exact e.2
    have hi : i + (nbr C + 1) ≤ 5 := hi
    have hk : KiP A v ∧ KiB C v := hk
    have pd : pdp A ≤ 14 := hp.1 rfl
    have rb : rg b := rg8 g hb
    obtain ⟨j, rfl, -⟩ := r.v
    have F := (r_fits (d := 0) g hh A _ v _ 0 wB.2.1 tA r hk.1 (by omega)).deep (e := d + 20) (by omega)
    have fz0 : fz A v = 0 := by
      unfold fz
      rw [fit_some (ρ2 := ρ), hf]; rfl
    have I := ih (σ 30 b) (i + 1) wB.2.2.2.2 hp.2.2.2 (by omega) tC (fun q => by
      have := (par3 pp hb q).2
      rw [this, if_pos (by omega)]
      exact hc (by omega)) r hk.2 e
    have ei : ((i + 1 : Nat) : Int) = (i : Int) + 1 := by omega
    rw [ei] at I
    have go : ∀ {r1 : mRes} {h1 : mHp} {σ1 : Mem}, Lh (d + 20) yMc_choose 19 [(0, .ref 54), (1, .ref j), (2, vi (σ 30 b)), (3, vi ((i : Int) + 1))] [] h σ r1 h1 σ1 → Lh (d + 20) yMc_choose 19 [(0, .ref 54), (1, .ref j), (2, vi b), (3, vi i)] [] h σ r1 h1 σ1 := fun L => by
      refine K_Mc_choose_19 isQ.j rb (rgi (by omega)) ?_
      unfold B_Mc_choose_19
      rw [if_neg (by omega), if_neg (by omega)]
      refine ⟨fz A v, h, σ, by rw [rw8 g hb]; exact F, by rw [fz0]; exact rgk rfl, ?_⟩
      rw [if_pos fz0]
      refine ⟨by unfold rg; omega, ?_⟩
      rw [rw8 g hb]
      exact L
    revert I
    cases brF C v ρ with
    | none => intro I; exact go I
    | some q =>
      obtain ⟨E', br, ρ'⟩ := q
      intro ⟨h1, u', b', L, x, rest⟩
      exact ⟨h1, u', b', go L, x.le (by show szT C ≤ szT A + szT E + szT C + 1; omega), rest⟩
  | case3 B v ρ hn =>
    intro b i hB hp hi ht hc r hk e
    have hB : B = nl := by
      rcases hB with q | q
      · exact q
      · exfalso
        obtain ⟨q1, q2⟩ := q
        unfold isBr at q1
        split at q1
        · next k f =>
          subst q1
          unfold wf at q2
          split at q2
          · next k' z A B' C e => cases e; exact hn _ _ _ _ rfl
          · exact q2
        · exact q1
    subst hB
    have hb : b = -1 := ht
    refine K_Mc_choose_19 r.qv (by rw [hb]; exact rgk rfl) (rgi (by omega)) ?_
    unfold B_Mc_choose_19 B_Mc_choose_94
    rw [if_pos hb]
    split
    · exact ⟨_, _, r_fail (d := d + 18) (rgk rfl), rfl, rfl, rfl⟩
    · exact ⟨_, _, r_fail (d := d + 18) (rgk rfl), rfl, rfl, rfl⟩
end CCHO
