/-! The class's machine: any step; the loop. -/
/-- what a run leaves alone; c cells more at most -/
def frGo (c : Nat) (h h' : mHp) (σ σ' : Mem) : Prop := (h.1 ≤ h'.1 ∧ h'.1 ≤ h.1 + c) ∧ h'.2.1 ≤ h.2.1 + 6 * c ∧ (∀ i, i < 100 → i ≠ 54 → i ≠ 55 → ∀ x, hAt h' i x = hAt h i x) ∧ (∀ i, i ≠ 54 → σ' i = σ i) ∧ (hTag h' 0 = hTag h 0 ∧ hLen h' 0 = hLen h 0)
/-- where a run stands: what its part of the class holds -/
def cEnd (T : Tr) (σ0 : Mem) (Z : Int) (h : mHp) (σ : Mem) (h' : mHp) (σ' : Mem) (s' : Int) : WkE → Prop
  | .inl S' => ((∃ n, cRel σ0 n h' σ' S') ∧ σ' 54 7 = 1 ∧ σ' 54 8 = σ 54 8 ∧ hAt h' 54 11 = hAt h 54 11) ∧ wkI T S' ∧ S'.1 = 2 ∧ (wkZ S' : Int) + 641 * (500 - s') ≤ Z
  | .inr (.inl v) => (RPv h' (nT σ0) h'.1 v false (hAt h' 54 11) ∧ σ' 54 7 = 2 ∧ σ' 54 8 = σ 54 8 ∧ spg σ0 σ') ∧ ∃ m n g ρ, Run T m ([], ρ, [v], []) n g
  | .inr (.inr c) => σ' 54 7 = 3 ∧ σ' 54 8 = c ∧ hAt h' 54 11 = hAt h 54 11
def cQe : WkE → Nat
  | .inl S' => wkQ S'
  | _ => 0
section CGO
variable {h h' h1 : mHp} {σ0 σ σ' σ1 : Mem} {d n c c' : Nat} {a s k i nn : Int} {cx : Cx} {ρ : En} {vs : List Va} {v : Va} {fs : List (Cx × En)} {T N : Tr} {S S' : WkS} {f : Nat} {o : Int × Int × Int} {e : WkE}
theorem frGo.rf : frGo 0 h h σ σ := ⟨⟨Nat.le_refl _, Nat.le_refl _⟩, Nat.le_refl _, fun _ _ _ _ _ => rfl, fun _ _ => rfl, rfl, rfl⟩
theorem frGo.tr (x : frGo c h h1 σ σ1) (y : frGo c' h1 h' σ1 σ') : frGo (c + c') h h' σ σ' := ⟨⟨Nat.le_trans x.1.1 y.1.1, by have := x.1.2; have := y.1.2; omega⟩, by have := x.2.1; have := y.2.1; omega, fun i h1 h2 h3 z => (y.2.2.1 i h1 h2 h3 z).trans (x.2.2.1 i h1 h2 h3 z), fun i hi => (y.2.2.2.1 i hi).trans (x.2.2.2.1 i hi), y.2.2.2.2.1.trans x.2.2.2.2.1, y.2.2.2.2.2.trans x.2.2.2.2.2⟩
theorem frWk.go (x : frWk c h h' σ σ') : frGo c h h' σ σ' := ⟨x.1, x.2.1, x.2.2.1, x.2.2.2.1, x.2.2.2.2.2.2⟩
theorem frGo.m4 {j z : Int} : frGo 0 h h σ (mup σ 54 j z) := ⟨⟨Nat.le_refl _, Nat.le_refl _⟩, Nat.le_refl _, fun _ _ _ _ _ => rfl, fun _ hi => mup_obj hi, rfl, rfl⟩
theorem cRel.m {j z : Int} (h2 : j ≠ 2) (h3 : j ≠ 3) (h4 : j ≠ 4) (R : cRel σ0 n h σ S) : cRel σ0 n h (mup σ 54 j z) S := by
  obtain ⟨m, N, cx, ρ, vs, fs⟩ := S
  obtain ⟨hl, a, R⟩ := R
  refine ⟨hl, a, ?_⟩
  have e4 : (mup σ 54 j z) 54 4 = σ 54 4 := mup_nk (Ne.symm h4)
  by_cases q : m = 0
  · rw [if_pos q] at R ⊢
    exact ⟨R.1.m h2 h3, e4.trans R.2.1, R.2.2⟩
  · rw [if_neg q] at R ⊢
    obtain ⟨v, vs', e, b, r, x, y⟩ := R
    rw [e4]
    exact ⟨v, vs', e, b.m h2 h3, r, x, y⟩
/-- a step, whatever it is -/
theorem cs_all (g : pg8 σ0) (pp : PP (shf σ0)) (hh : h.1 ≤ 2000000) (SF : sfR T) (R : cRel σ0 n h σ S) (I : wkI T S) (h2 : S.1 = 2) : ∃ o, wkS S = some o ∧ ∃ h' σ', Rh (d + 22) yMc_step [.ref 54] h σ (.inl none) h' σ' ∧ cOutS σ0 130 h σ h' σ' o := by
  obtain ⟨m, N, cx, ρ, vs, fs⟩ := S
  have h2 : m = 2 := h2
  subst h2
  obtain ⟨W, ag, -, -, m, nn, gg, r⟩ := I
  obtain ⟨we, ww, w8, w12⟩ : isE N ∧ wf N ∧ 8 ≤ (match N with | .tag k _ => k | _ => 0) ∧ (match N with | .tag k _ => k | _ => 0) ≠ 12 := by
    rcases W.1.1 with e | e | e
    · cases e.1
    · cases e
    · exact e.2
  have ok : OkA FP.Core.DFin (abS (2, N, cx, ρ, vs, fs)) := by
    rcases SF r with ⟨v, e⟩ | e
    · cases e
    · exact e
  have hn := wk_ok ok W
  obtain ⟨k, z, A, B, C, rfl, hk⟩ := isE_nd we ww
  have w8 : 8 ≤ k := w8
  have w12 : k ≠ 12 := w12
  have ok : stOK FP.Core.DFin k z B vs := ok
  cases hm : wkS (2, nd k z A B C, cx, ρ, vs, fs) with
  | none => exact absurd hm hn
  | some o =>
    refine ⟨o, rfl, ?_⟩
    have hk : k = 8 ∨ k = 9 ∨ k = 10 ∨ k = 11 ∨ k = 13 ∨ k = 14 ∨ k = 15 ∨ k = 16 := by omega
    rcases hk with rfl | rfl | rfl | rfl | rfl | rfl | rfl | rfl
    · exact cs_neg g R W ok hm
    · exact cs_op g R W ok hm
    · exact cs_cons g hh R W ok hm
    · exact cs_app g pp R W ok hm
    · exact cs_let g pp R W ok hm
    · exact cs_rec g pp R W ok hm
    · exact cs_if g pp R W ok hm
    · exact cs_case g pp hh R W ag.1 ok hm
theorem go_2a (h2 : S.1 = 2) (hk : nn ≤ k) : goS (f + 1) nn k s a S (k, s, a) (.inl S) := by
  unfold goS; rw [if_pos h2, if_pos hk]; exact ⟨rfl, rfl⟩
theorem go_2b (h2 : S.1 = 2) (hk : ¬ nn ≤ k) (hs : 500 ≤ s ∨ 1000 ≤ a) : goS (f + 1) nn k s a S (k, s, a) (.inr (.inr 4)) := by
  unfold goS; rw [if_pos h2, if_neg hk, if_pos hs]; exact ⟨rfl, rfl⟩
theorem go_2c (h2 : S.1 = 2) (hk : ¬ nn ≤ k) (hs : ¬ (500 ≤ s ∨ 1000 ≤ a)) (hw : wkS S = some (.inl S')) (hl : 200 < S'.2.2.2.2.1.length) : goS (f + 1) nn k s a S (k + 1, s + 1, a + 1) (.inr (.inr 5)) := by
  unfold goS; rw [if_pos h2, if_neg hk, if_neg hs, hw]; dsimp only; rw [if_pos hl]; exact ⟨rfl, rfl⟩
theorem go_2d (h2 : S.1 = 2) (hk : ¬ nn ≤ k) (hs : ¬ (500 ≤ s ∨ 1000 ≤ a)) (hw : wkS S = some (.inl S')) (hl : ¬ 200 < S'.2.2.2.2.1.length) (K : goS f nn (k + 1) (s + 1) (a + 1) S' o e) : goS (f + 1) nn k s a S o e := by
  unfold goS; rw [if_pos h2, if_neg hk, if_neg hs, hw]; dsimp only; rw [if_neg hl]; exact K
theorem go_2e {c : Int} (h2 : S.1 = 2) (hk : ¬ nn ≤ k) (hs : ¬ (500 ≤ s ∨ 1000 ≤ a)) (hw : wkS S = some (.inr c)) : goS (f + 1) nn k s a S (k + 1, s + 1, a + 1) (.inr (.inr c)) := by
  unfold goS; rw [if_pos h2, if_neg hk, if_neg hs, hw]; exact ⟨rfl, rfl⟩
theorem go_1a : goS (f + 1) nn k s a (1, N, [], ρ, v :: vs, []) (k, s, a) (.inr (.inl v)) := by
  unfold goS; rw [if_neg (show ¬ (1 : Nat) = 2 by decide)]; exact ⟨rfl, rfl⟩
theorem go_1b (h2 : S.1 ≠ 2) (hw : wkM S = some S') (hl : 200 < S'.2.2.2.2.1.length) : goS (f + 1) nn k s a S (k, s, a) (.inr (.inr 5)) := by
  unfold goS; rw [if_neg h2]
  split
  · cases hw
  · rw [hw]; dsimp only; rw [if_pos hl]; exact ⟨rfl, rfl⟩
theorem go_1c (h2 : S.1 ≠ 2) (hw : wkM S = some S') (hl : ¬ 200 < S'.2.2.2.2.1.length) (K : goS f nn k s a S' o e) : goS (f + 1) nn k s a S o e := by
  unfold goS; rw [if_neg h2]
  split
  · cases hw
  · rw [hw]; dsimp only; rw [if_neg hl]; exact K
theorem gl_109 {r : mRes} (hn : rg nn) (hk : rg k) (hi : rg i) (hj : rg (i + 1)) (L : Lh (d + 22) yMc_go 4 [(0, .ref 54), (1, vi nn), (2, vi k), (3, vi (i + 1))] [] h σ r h' σ') : B_Mc_go_109 d nn k i h σ r h' σ' := ⟨hj, L⟩
theorem gl_end {q : Int} (hn : rg nn) (hk : rg k) (hi : rg i) (h1 : i < 1000000) (e : σ 54 7 = q) (gq : rg q) (hq : q ≠ 1) : Lh (d + 22) yMc_go 4 [(0, .ref 54), (1, vi nn), (2, vi k), (3, vi i)] [] h σ (.inl (some (vi k))) h σ := by
  refine K_Mc_go_4 hn hk hi ?_
  unfold B_Mc_go_4
  rw [if_neg (by omega), e, if_pos hq]
  exact ⟨gq, rfl, rfl, rfl⟩
end CGO
