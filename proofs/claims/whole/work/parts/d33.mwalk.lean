/-! The loop over the code of a tree: frames, names, one instruction and the look at all parts. -/
section MWK
variable {σ σ' σ1 τ m : Mem} {p q s x z : Int} {E : List (Int × Int)} {F : List Int} {T : Tr}
theorem tP_no {i : Nat} (h : tP i = false) : i ≠ 58 ∧ (i < 76 ∨ 87 < i) := by
  have h1 := Bool.or_eq_false_iff.mp h
  refine ⟨fun e => by rw [e] at h1; exact absurd h1.1 (by decide), ?_⟩
  by_cases a : 76 ≤ i
  · by_cases b : i ≤ 87
    · have e : (Nat.ble 76 i && Nat.ble i 87) = true := by rw [Nat.ble_eq_true_of_le a, Nat.ble_eq_true_of_le b]; rfl
      rw [e] at h1; exact absurd h1.2 (by decide)
    · right; omega
  · left; omega
theorem tK_no {k : Int} (h : tK k = false) : k ≠ 30 ∧ k ≠ 35 ∧ k ≠ 37 ∧ k ≠ 38 ∧ k ≠ 39 ∧ k ≠ 41 ∧ k ≠ 43 ∧ k ≠ 44 ∧ k ≠ 45 := by
  refine ⟨?_, ?_, ?_, ?_, ?_, ?_, ?_, ?_, ?_⟩ <;> (intro e; rw [e] at h; cases h)
theorem fT.rf : fT σ σ := ⟨fun _ _ => rfl, fun _ _ => rfl⟩
theorem fT.tr (a : fT σ σ1) (b : fT σ1 σ') : fT σ σ' := ⟨fun i h => (b.1 i h).trans (a.1 i h), fun k h => (b.2 k h).trans (a.2 k h)⟩
theorem FK.fT (f : FK σ σ') : fT σ σ' := ⟨fun i h => by have := tP_no h; exact f.1 i (by omega) (by omega) (by omega) (by omega) (by omega) (by omega) (by omega), fun k h => by have := tK_no h; exact f.2 k (by omega) (by omega) (by omega) (by omega) (by omega)⟩
theorem FX.fT (f : FX σ σ') : fT σ σ' := ⟨fun i h => by have := tP_no h; exact f.1 i (by omega) (by omega), fun k h => by have := tK_no h; exact f.2 k (by omega) (by omega)⟩
theorem FG.fT (f : FG σ σ') : fT σ σ' := ⟨fun i h => by have := tP_no h; exact f.1 i (by omega) (by omega) (by omega), fun k h => by have := tK_no h; exact f.2 k (by omega) (by omega) (by omega)⟩
theorem FU.fT (f : FU σ σ') : fT σ σ' := f.fk.fT
theorem FP.fT (f : FP σ σ' x) : fT σ σ' := ⟨fun i h => by have := tP_no h; exact f.1 i (by omega) (by omega) (by omega) (by omega) (by omega) (by omega) (by omega) (by omega) (by omega) (by omega) (by omega) (by omega), fun k h => by have := tK_no h; exact f.2.1 k (by omega) (by omega) (by omega) (by omega) (by omega) (by omega) (by omega)⟩
theorem puM.fT : fT σ (puM σ x) := ⟨fun i h => by have := tP_no h; exact puM_fx.1 i (by omega) (by omega) (by omega), fun k h => by have := tK_no h; exact puM_fx.2 k (by omega) (by omega)⟩
theorem bdM.fT : fT σ (bdM σ z x) := ⟨fun i h => by have := tP_no h; exact bdM_fx.1 i (by omega) (by omega) (by omega) (by omega), fun k h => by have := tK_no h; exact bdM_fx.2 k (by omega)⟩
theorem fT.mu {i : Nat} {k v : Int} (h : tP i = true) (h8 : i ≠ 58) : fT σ (mup σ i k v) := ⟨fun j hj => mup_obj (fun e => by rw [e, h] at hj; cases hj), fun _ _ => mup_ne h8.symm⟩
theorem fT.m8 {k v : Int} (h : tK k = true) : fT σ (mup σ 58 k v) := ⟨fun j hj => mup_obj (fun e => by rw [e] at hj; cases hj), fun l hl => mup_nk (fun e => by rw [e, h] at hl; cases hl)⟩
theorem fT.s7 (f : fT σ σ') : σ' 58 7 = σ 58 7 := f.2 7 rfl
theorem fT.ic (f : fT σ σ') {a : Int} (c : isC σ T a s) : isC σ' T a s := isC.mv (fun y _ _ => ⟨congrFun (f.1 60 rfl) y, fun _ => congrFun (f.1 61 rfl) y, congrFun (f.1 62 rfl) y, congrFun (f.1 74 rfl) y⟩) (fun y _ _ => ⟨congrFun (f.1 66 rfl) y, congrFun (f.1 67 rfl) y⟩) c
theorem fT.isn (f : fT σ σ') {a : Int} {G : List Int} (c : isN σ T a G) : isN σ' T a G := isN.mv (fun y _ _ => congrFun (f.1 61 rfl) y) c
theorem fT.cel (f : fT σ σ') {a x y z : Int} (c : cell σ a x y z) : cell σ' a x y z := by
  unfold cell at c ⊢
  rw [f.1 60 rfl, f.1 61 rfl, f.1 62 rfl]; exact c
/-- names -/
theorem tmR.mv : ∀ {E : List (Int × Int)} {F : List Int}, (∀ k : Int, 0 ≤ k → k < E.length → σ' 76 k = σ 76 k ∧ σ' 77 k = σ 77 k ∧ σ' 78 k = σ 78 k) → tmR σ E F → tmR σ' E F
  | [], [], _, _ => trivial
  | e :: E, f :: F, h, t => by
    obtain ⟨⟨a, b, c, d⟩, r⟩ := t
    have h0 := h (E.length : Int) (by omega) (by rw [List.length_cons]; omega)
    exact ⟨⟨h0.1.trans a, h0.2.1.trans b, h0.2.2.trans c, d⟩, tmR.mv (fun k k0 k1 => h k k0 (by rw [List.length_cons]; omega)) r⟩
  | [], _ :: _, _, t => t.elim
  | _ :: _, [], _, t => t.elim
theorem tmR.len : ∀ {E : List (Int × Int)} {F : List Int}, tmR σ E F → F.length = E.length
  | [], [], _ => rfl
  | _ :: E, _ :: F, t => by rw [List.length_cons, List.length_cons, tmR.len t.2]
  | [], _ :: _, t => t.elim
  | _ :: _, [], t => t.elim
theorem tmR.mn : ∀ {E : List (Int × Int)} {F : List Int}, tmR σ E F → ∀ m, mnF E F m ↔ ∃ k, (0 ≤ k ∧ k < (E.length : Int)) ∧ σ 78 k = 0 ∧ m = σ 77 k
  | [], [], _, m => ⟨fun h => h.elim, fun ⟨k, h, _⟩ => by have : (([] : List (Int × Int)).length : Int) = 0 := rfl; omega⟩
  | e :: E, f :: F, ⟨⟨a, b, c, d⟩, r⟩, m => by
    have ih := tmR.mn r m
    have lc : ((e :: E).length : Int) = E.length + 1 := by rw [List.length_cons]; omega
    show ((f = 0 ∧ m = e.2) ∨ mnF E F m) ↔ _
    rw [ih]
    constructor
    · rintro (⟨h1, h2⟩ | ⟨k, h1, h2⟩)
      · exact ⟨E.length, by omega, c.trans h1, h2.trans b.symm⟩
      · exact ⟨k, by omega, h2⟩
    · rintro ⟨k, h1, h2, h3⟩
      by_cases e0 : k = E.length
      · rw [e0] at h2 h3
        exact Or.inl ⟨c.symm.trans h2, h3.trans b⟩
      · exact Or.inr ⟨k, by omega, h2, h3⟩
  | [], _ :: _, t, _ => t.elim
  | _ :: _, [], t, _ => t.elim
theorem tmE.mn (t : tmE σ E F) : mnM σ = mnF E F := by
  funext m
  exact propext (by rw [t.2.mn m, ← t.1]; exact Iff.rfl)
/-- a name is looked up -/
theorem tmR.lk : ∀ {E : List (Int × Int)} {F : List Int}, tmR σ E F → inE E z = true → (0 ≤ ix z (E.map Prod.fst) ∧ ix z (E.map Prod.fst) < E.length) ∧ σ 77 (E.length - 1 - ix z (E.map Prod.fst)) = lkE z E ∧ σ 78 (E.length - 1 - ix z (E.map Prod.fst)) = lkF z E F ∧ (lkF z E F = 0 ∨ lkF z E F = 1) ∧ (z, lkE z E) ∈ E
  | [], _, _, h => by cases h
  | (y, n) :: E, f :: F, ⟨⟨a, b, c, d⟩, r⟩, h => by
    have lc : (((y, n) :: E).length : Int) = E.length + 1 := by rw [List.length_cons]; omega
    have ei : ix z (((y, n) :: E).map Prod.fst) = if y = z then 0 else 1 + ix z (E.map Prod.fst) := rfl
    have el : lkE z ((y, n) :: E) = if y = z then n else lkE z E := rfl
    have ef : lkF z ((y, n) :: E) (f :: F) = if y = z then f else lkF z E F := rfl
    rw [ei, el, ef, lc]
    by_cases e : y = z
    · rw [if_pos e, if_pos e, if_pos e]
      rw [show (E.length : Int) + 1 - 1 - 0 = E.length by omega, e]
      exact ⟨by omega, b, c, d, List.mem_cons_self⟩
    · rw [if_neg e, if_neg e, if_neg e]
      have h' : inE E z = true := by
        have h : (decide (y = z) || inE E z) = true := h
        rw [decide_eq_false e, Bool.false_or] at h; exact h
      obtain ⟨i1, i2, i3, i4, i5⟩ := tmR.lk r h'
      rw [show (E.length : Int) + 1 - 1 - (1 + ix z (E.map Prod.fst)) = E.length - 1 - ix z (E.map Prod.fst) by omega]
      exact ⟨by omega, i2, i3, i4, List.mem_cons_of_mem _ i5⟩
  | _ :: _, [], t, _ => t.elim
/-- on from one place of the loop to another -/
theorem TZ.tr (k : ∀ o s', tfL q σ1 o s' → tfL p σ o s') (f : fT σ σ1) (t : TZ σ1 q) : TZ σ p := by
  obtain ⟨s', h1, h2⟩ := t
  exact ⟨s', k _ _ h1, f.tr h2⟩
theorem TZ.ill (hp : rg p) (hi : σ 58 44 = 1) : TZ σ p := by
  refine ⟨σ, K_Mo_typesFound_57 (d := 17) hp ?_, fT.rf⟩
  unfold B_Mo_typesFound_57
  have e : B_Mo_typesFound_135 17 σ (some 0) σ := by
    unfold B_Mo_typesFound_135
    rw [if_pos (by omega)]; exact ⟨rfl, rfl⟩
  by_cases h : p ≥ σ 58 7
  · rw [if_pos h]; exact e
  · rw [if_neg h, if_pos (by omega)]; exact e
theorem tf_go (hp : 0 ≤ p ∧ p < σ 58 7 ∧ σ 58 7 ≤ 124) (hi : σ 58 44 = 0) (R : Rn 20 yMo_typeOf [.ref 58, vi p] σ none m) {o : Option Int} {s' : Mem} (k : Lb 20 yMo_typesFound 82 [(0, .ref 58), (4, vi p), (5, vi 0)] [] m o s') : tfL p σ o s' := by
  refine K_Mo_typesFound_57 (d := 17) ⟨by omega, by omega⟩ ?_
  unfold B_Mo_typesFound_57
  rw [if_neg (by omega), if_neg (by omega)]
  exact ⟨m, R, k⟩
theorem tf_bad (hp : 0 ≤ p ∧ p < σ 58 7 ∧ σ 58 7 ≤ 124) (hi : σ 58 44 = 0) (R : Rn 20 yMo_typeOf [.ref 58, vi p] σ none m) (im : m 58 44 = 1) (k43 : 0 ≤ m 58 43 ∧ m 58 43 ≤ 260) (f : fT σ m) : TZ σ p := by
  obtain ⟨σ', k, FF, i⟩ := tf_i (d := 14) (x4 := p) (m 58 43).toNat 0 m (by omega) (by omega) k43.2 ⟨hp.1, by omega⟩ im
  exact TZ.tr (q := p + 1) (σ1 := σ') (fun o s' h => tf_go hp hi R (k o s' h)) (f.tr FF.fT) (TZ.ill ⟨by omega, by omega⟩ i)
theorem tf_ok (hp : 0 ≤ p ∧ p < σ 58 7 ∧ σ 58 7 ≤ 124) (hi : σ 58 44 = 0) (R : Rn 20 yMo_typeOf [.ref 58, vi p] σ none m) (H : MT m) (im : m 58 44 = 0) (P : inPt m) (k43 : 0 ≤ m 58 43 ∧ m 58 43 ≤ 260) (f : fT σ m) : (∃ σ', (∀ o s', tfL (p + 1) σ' o s' → tfL p σ o s') ∧ FX m σ' ∧ σ' 58 44 = 0 ∧ MT σ' ∧ mS σ' = mS m ∧ smP σ') ∨ (TZ σ p ∧ ∃ k, (0 ≤ k ∧ k < m 58 43) ∧ ∀ ρ, VS (mS m).1 (mS m).2.1 ρ → 80 < gw (ρ (m 85 k))) := by
  obtain ⟨σ', k, FF, out⟩ := tf_82 (d := 14) (x4 := p) (m 58 43).toNat 0 m H (by omega) (by omega) k43.2 ⟨hp.1, by omega⟩ im P
  obtain ⟨H', e'⟩ := FF.mt H
  rcases out with ⟨o1, o2⟩ | ⟨o1, o2⟩
  · refine Or.inl ⟨σ', fun o s' h => tf_go hp hi R (k o s' h), FF, o1, H', e', fun j j0 j1 μ Mi => ?_⟩
    rw [e'] at Mi
    rw [FF.1 85 (by decide) (by decide)]
    rw [FF.2 43 (by decide) (by decide)] at j1
    exact o2 μ Mi j j0 j1
  · exact Or.inr ⟨TZ.tr (q := p + 1) (σ1 := σ') (fun o s' h => tf_go hp hi R (k o s' h)) (f.tr FF.fT) (TZ.ill ⟨by omega, by omega⟩ o1), o2⟩
/-- the parts kept -/
theorem psA_1 (h1 : σ' 58 43 = σ 58 43 + 1) (h2 : σ' 85 (σ 58 43) = x) {y : Int} : y = x ↔ PsA σ σ' y := by
  constructor
  · intro e; exact ⟨σ 58 43, Int.le_refl _, by omega, e.trans h2.symm⟩
  · intro ⟨i, i0, i1, e⟩
    rw [show i = σ 58 43 by omega, h2] at e; exact e
theorem psA_tr (h1 : σ 58 43 ≤ σ1 58 43) (h2 : σ1 58 43 ≤ σ' 58 43) (h3 : ∀ k, k < σ1 58 43 → σ' 85 k = σ1 85 k) {y : Int} : (PsA σ σ1 y ∨ PsA σ1 σ' y) ↔ PsA σ σ' y := by
  constructor
  · rintro (⟨i, i0, i1, e⟩ | ⟨i, i0, i1, e⟩)
    · exact ⟨i, i0, by omega, by rw [h3 i i1]; exact e⟩
    · exact ⟨i, by omega, i1, e⟩
  · intro ⟨i, i0, i1, e⟩
    by_cases h : i < σ1 58 43
    · exact Or.inl ⟨i, i0, h, by rw [← h3 i h]; exact e⟩
    · exact Or.inr ⟨i, by omega, i1, e⟩
theorem Blw.tr (a : Blw σ σ1) (h37 : σ 58 37 ≤ σ1 58 37) (h41 : σ 58 41 ≤ σ1 58 41) (h30 : σ 58 30 ≤ σ1 58 30) (b : Blw σ1 σ') : Blw σ σ' := by
  obtain ⟨a1, a2, a3, a4⟩ := a
  obtain ⟨b1, b2, b3, b4⟩ := b
  exact ⟨fun k h => (b1 k (by omega)).trans (a1 k h), fun k h => (b2 k (by omega)).trans (a2 k h), ⟨by omega, fun k h => (b3.2 k (by omega)).trans (a3.2 k h)⟩, fun k h => by
    have q := b4 k (by omega)
    have r := a4 k h
    exact ⟨q.1.trans r.1, q.2.1.trans r.2.1, q.2.2.trans r.2.2⟩⟩
theorem Blw.rf : Blw σ σ := ⟨fun _ _ => rfl, fun _ _ => rfl, ⟨Int.le_refl _, fun _ _ => rfl⟩, fun _ _ => ⟨rfl, rfl, rfl⟩⟩
theorem FX.bl (f : FX σ σ') : Blw σ σ' := ⟨fun k _ => by rw [f.1 83 (by decide) (by decide)], fun k _ => by rw [f.1 84 (by decide) (by decide)], ⟨by rw [f.2 43 (by decide) (by decide)]; exact Int.le_refl _, fun k _ => by rw [f.1 85 (by decide) (by decide)]⟩, fun k _ => by rw [f.1 76 (by decide) (by decide), f.1 77 (by decide) (by decide), f.1 78 (by decide) (by decide)]; exact ⟨rfl, rfl, rfl⟩⟩
theorem tmE.bl (t : tmE σ E F) (b : Blw σ σ') (h : σ' 58 30 = σ 58 30) : tmE σ' E F := ⟨h.trans t.1, t.2.mv (fun k _ k1 => b.2.2.2 k (by have := t.1; omega))⟩
theorem inPt.st (i : inPt σ) (b : Blw σ σ') (hc : σ 58 35 ≤ σ' 58 35) (n : inC (mS σ') (PsA σ σ')) : inPt σ' := fun k k0 k1 => by
  by_cases h : k < σ 58 43
  · rw [b.2.2.1.2 k h]
    have := i k k0 h
    omega
  · exact n _ ⟨k, by omega, k1, rfl⟩
theorem PMs.inC (t : TH σ E F) : inC (mS σ) (PMs σ E F) := fun m h => by
  rcases h with ⟨k, h, e⟩ | h
  · rw [e]; exact t.2.2.2.2.1 k h.1 h.2
  · exact t.2.2.1.1 m h
/-- the last instruction of a tree: its node is pushed -/
theorem td_fin {P : Int → Prop} (t : TH σ E F) (hr : RmT σ (rwl T)) (hw : 1 ≤ rwl T) (hq : 0 ≤ q ∧ q + 1 = p + ln T ∧ q < τ 58 7 ∧ τ 58 7 ≤ 124) (hi : τ 58 44 = 0) (R : Rn 20 yMo_typeOf [.ref 58, vi q] τ none m) (k0 : ∀ o s', tfL q τ o s' → tfL p σ o s') (fτ : fT σ τ) (fm : fT τ m) (H : MT m) (im : m 58 44 = 0) (bl : Blw σ m) (c30 : m 58 30 = σ 58 30) (c37 : m 58 37 = σ 58 37 + 1) (c41 : m 58 41 = σ 58 41) (c43 : m 58 43 ≤ σ 58 43 + 2 * rwl T - 1) (top : m 83 (σ 58 37) = x) (TR : TRes (mS σ) (mS m) E (mnF E F) 0 T P x) (eP : ∀ y, P y ↔ PsA σ m y) (px : P x) (rt : shN (mS m) x → RT T 0 (mS σ) E F (mS m) x) : (∃ σ' r, TD σ σ' E F T r ∧ ∀ o s', tfL (p + ln T) σ' o s' → tfL p σ o s') ∨ (TZ σ p ∧ NoM (mS σ) (PMs σ E F) E T) := by
  have e : P = PsA σ m := funext (fun y => propext (eP y))
  subst e
  have cc : σ 58 35 ≤ m 58 35 := TR.1.2.1.1
  have ip : inPt m := t.2.2.2.2.1.st bl cc TR.2.2.1
  have b43 := bl.2.2.1.1
  obtain ⟨-, r43, -, -⟩ := hr
  rcases tf_ok ⟨hq.1, hq.2.2.1, hq.2.2.2⟩ hi R H im ip ⟨by omega, by omega⟩ fm with ⟨σ', k, FF, i', H', e', sp⟩ | ⟨z1, k, hk, wd⟩
  · have f43 : σ' 58 43 = m 58 43 := FF.2 43 (by decide) (by decide)
    have f35 : σ' 58 35 = m 58 35 := FF.2 35 (by decide) (by decide)
    have f85 : σ' 85 = m 85 := FF.1 85 (by decide) (by decide)
    have f30 : σ' 58 30 = m 58 30 := FF.2 30 (by decide) (by decide)
    have f37 : σ' 58 37 = m 58 37 := FF.2 37 (by decide) (by decide)
    have f41 : σ' 58 41 = m 58 41 := FF.2 41 (by decide) (by decide)
    have ep : PsA σ σ' = PsA σ m := by unfold PsA; rw [f43, f85]
    have bl' : Blw σ σ' := by
      obtain ⟨a1, a2, a3, a4⟩ := bl
      obtain ⟨b1, b2, b3, b4⟩ := FF.bl
      exact ⟨fun k h => (b1 k (by omega)).trans (a1 k h), fun k h => (b2 k (by omega)).trans (a2 k h), ⟨by omega, fun k h => (b3.2 k (by omega)).trans (a3.2 k h)⟩, fun k h => by
        have q := b4 k (by omega)
        have r := a4 k h
        exact ⟨q.1.trans r.1, q.2.1.trans r.2.1, q.2.2.trans r.2.2⟩⟩
    have sx : shN (mS m) x := by
      obtain ⟨j, j0, j1, ej⟩ := px
      have := sp j (by have := r43.1; omega) (by omega)
      rw [e', f85] at this
      rw [ej]; exact this
    have fx83 : σ' 83 = m 83 := FF.1 83 (by decide) (by decide)
    refine Or.inl ⟨σ', x, ⟨(fτ.tr fm).tr FF.fT, ⟨H', t.2.1.bl bl' (f30.trans c30), ?_, i', ?_, sp⟩, bl', ⟨f30.trans c30, f37.trans c37, f41.trans c41, by omega⟩, by rw [fx83]; exact top, by rw [ep]; exact px, by rw [ep, e']; exact TR, by rw [e']; exact rt sx⟩, fun o s' h => k0 o s' (k o s' (by rw [hq.2.1]; exact h))⟩
    · rw [e']; exact t.2.2.1.up (by decide) t.1.1 TR.1.2.1
    · intro k k0 k1
      rw [f85, f35]; exact ip k k0 (by omega)
  · refine Or.inr ⟨z1.tr k0 fτ, TRP.wd t.2.2.1 (by decide) t.1.1 TR (PMs.inC t) (p := m 85 k) ?_ wd⟩
    by_cases h : k < σ 58 43
    · exact Or.inl (Or.inl ⟨k, ⟨hk.1, h⟩, bl.2.2.1.2 k h⟩)
    · exact Or.inr ⟨k, by omega, hk.2, rfl⟩
end MWK
