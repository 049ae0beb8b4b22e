/-! The model's reader: clauses; how they begin, names counted, the chain of jumps. -/
section CLB
variable {σ τ ρ : Mem} {D q a b k u v z : Int}
theorem yy1 {c j : Int} (hc : 0 ≤ c ∧ c ≤ 5) (hj : 0 ≤ j ∧ j < 124) : zAnd (c * 65536 + j) 65535 = j ∧ zShr (c * 65536 + j) 16 = c ∧ zOr (zShl c 16) j = c * 65536 + j := by
  have h : ((List.range 6).all fun c => (List.range 124).all fun j => zAnd ((c : Nat) * 65536 + (j : Nat)) 65535 == (j : Int) && zShr ((c : Nat) * 65536 + (j : Nat)) 16 == (c : Int) && zOr (zShl (c : Nat) 16) (j : Nat) == ((c : Nat) * 65536 + (j : Nat) : Int)) = true := by decide +kernel
  have h1 := List.all_eq_true.mp h c.toNat (List.mem_range.mpr (by omega))
  have h2 := List.all_eq_true.mp h1 j.toNat (List.mem_range.mpr (by omega))
  rw [Bool.and_eq_true, Bool.and_eq_true, beq_iff_eq, beq_iff_eq, beq_iff_eq, show ((c.toNat : Nat) : Int) = c by omega, show ((j.toNat : Nat) : Int) = j by omega] at h2
  exact ⟨h2.1.1, h2.1.2, h2.2⟩
/-- what the beginning of a clause leaves -/
def clB (ρ : Mem) (k t : Int) : Mem := aft (mup (dft (mup (mup ρ 58 24 t) 58 23 0) 16 (ρ 58 14) 0) 72 k (ρ 58 7)) 10 7
theorem s_clB {d : Nat} {t : Int} (hk : 0 ≤ k ∧ k < 180) (h7 : 0 ≤ ρ 58 7 ∧ ρ 58 7 < 124) (h14 : 0 ≤ ρ 58 14 ∧ ρ 58 14 ≤ 1000) (h21 : 1 ≤ ρ 58 21 ∧ ρ 58 21 < 180) (h : (t = 1 ∧ (ρ 58 24 ≠ 0 ∨ zShr (ρ 73 k) 16 = 5)) ∨ (t = 0 ∧ ρ 58 24 = 0 ∧ zShr (ρ 73 k) 16 ≠ 5)) : Rn (d + 6) yMo_clauseBegins [.ref 58, vi k] ρ none (clB ρ k t) := by
  have e7 : (mup (mup ρ 58 24 t) 58 23 0) 58 7 = ρ 58 7 := (mup_nk (by decide)).trans (mup_nk (by decide))
  have d7 : (dft (mup (mup ρ 58 24 t) 58 23 0) 16 (ρ 58 14) 0) 58 7 - 1 = ρ 58 7 := by rw [dft_at.2.1, e7]; omega
  have d21 : (mup (dft (mup (mup ρ 58 24 t) 58 23 0) 16 (ρ 58 14) 0) 72 k (ρ 58 7)) 58 21 = ρ 58 21 := (mup_ne (by decide)).trans ((dft_at.1 21 (by decide)).trans ((mup_nk (by decide)).trans (mup_nk (by decide))))
  have B : t = 0 ∨ t = 1 → B_Mo_clauseBegins_26 (d + 2) k t ρ none (clB ρ k t) := by
    intro ht
    refine ⟨ht, _, s_put (d := d + 1) (rgk rfl) ⟨by omega, by omega⟩ (rgk rfl) (by omega), ⟨by omega, by omega⟩, ?_⟩
    rw [d7]
    exact ⟨⟨by omega, by omega⟩, _, s_after (d := d) (rgk rfl) (rgk rfl) (by omega), rfl, rfl⟩
  refine M_Mo_clauseBegins (d := d + 2) ⟨by omega, by omega⟩ ?_
  unfold B_Mo_clauseBegins
  rcases h with ⟨rfl, h⟩ | ⟨rfl, h1, h2⟩
  · by_cases w : ρ 58 24 ≠ 0
    · rw [if_pos w]; exact B (Or.inr rfl)
    · rw [if_neg w]
      refine ⟨by omega, ?_⟩
      rw [if_neg (by rcases h with h | h; exact absurd h w; exact fun z => z h)]
      exact B (Or.inr rfl)
  · rw [if_neg (fun z => z h1)]
    refine ⟨by omega, ?_⟩
    rw [if_pos h2]
    exact B (Or.inl rfl)
theorem clB_f {t : Int} : frM ρ (clB ρ k t) := (((((frM.m8 (by unfold mfP; omega)).tr (frM.m8 (by unfold mfP; omega))).tr frM.dft).tr (frM.mu rfl (by decide))).tr frM.aft)
theorem clB_bad : (clB ρ k 1) 58 24 = 1 := by
  unfold clB
  rw [aft_at.1 24 (by decide), mup_ne (by decide), dft_at.1 24 (by decide), mup_nk (by decide), mup_eq]
/-- a row of the drafts is filled in -/
theorem Pg.fixJ {dp x : Int} {j : Nat} (hj : j = 62 ∨ j = 74) (S : Pg σ τ q dp a b) (hx : σ 58 7 ≤ x) : Pg σ (mup τ j x z) q dp a b := by
  obtain ⟨f, s24, s3, s3b, s21, s22, k1, k2, k3, s7, s14, s70⟩ := S
  have o : ∀ {i : Nat}, i ≠ j → (mup τ j x z) i = τ i := fun h => mup_obj h
  have g : ∀ {i : Nat} {y : Int}, y ≠ x → (mup τ j x z) i y = τ i y := fun {i y} h => by
    by_cases e : i = j
    · rw [e]; exact mup_nk h
    · exact mup_ne e
  refine ⟨f.tr (frM.mu (by rcases hj with rfl | rfl <;> rfl) (by omega)), ?_, ?_, s3b, ?_, ?_, ?_, ?_, ?_, ?_, ?_, ?_⟩
  · rw [o (by omega)]; exact s24
  · rw [o (by omega)]; exact s3
  · rw [o (by omega)]; exact s21
  · rw [o (by omega)]; exact s22
  · intro y h0 h1; rw [o (by omega), o (by omega), o (by omega), o (by omega)]; exact k1 y h0 h1
  · intro y h0 h1; rw [g (by omega), g (by omega), g (by omega), g (by omega)]; exact k2 y h0 h1
  · intro y h0 h1; rw [o (by omega), o (by omega)]; exact k3 y h0 h1
  · rw [o (by omega)]; exact s7
  · rw [o (by omega)]; exact s14
  · rw [o (by omega)]; exact s70
theorem fixJ_kD {n x : Int} {j : Nat} (h : n ≤ x) : kpD n τ (mup τ j x z) := fun y _ h1 => by
  have g : ∀ {i : Nat}, (mup τ j x z) i y = τ i y := fun {i} => by
    by_cases e : i = j
    · rw [e]; exact mup_nk (by omega)
    · exact mup_ne e
  rw [g, g, g, g]; exact ⟨rfl, rfl, rfl, rfl⟩
theorem fixJ_kS {n x : Int} {j : Nat} (hj : j = 62 ∨ j = 74) : kpS n τ (mup τ j x z) := fun y _ _ => by
  rw [mup_ne (by omega), mup_ne (by omega)]; exact ⟨rfl, rfl⟩
/-- how many names a pattern's signs hold -/
def bnP : Tr → Int
  | .tag k (.nest z (.append A (.append B _))) => match k with
    | 6 => if 0 < z then 1 else 0
    | 10 => bnP A + bnP B
    | _ => 0
  | _ => 0
theorem bnP_rg : ∀ {T : Tr}, 0 ≤ bnP T ∧ bnP T ≤ pn T := by
  intro T
  fun_induction bnP T with
  | case1 => exact ⟨by decide, Int.le_refl (1 : Int)⟩
  | case2 => exact ⟨by decide, show (0 : Int) ≤ 1 by decide⟩
  | case3 z A B C i1 i2 =>
    have : pn (nd 10 z A B C) = pn A + pn B + 1 := rfl
    constructor
    · omega
    · show bnP A + bnP B ≤ pn A + pn B + 1
      omega
  | case4 => exact ⟨Int.le_refl _, pn_ge⟩
  | case5 => exact ⟨Int.le_refl _, pn_ge⟩
def lpb (P : Int → List Int → PaR) : Prop := ∀ p L t, P p L = some t → (t.2.2.length : Int) = L.length + bnP t.1
theorem pPart_b {ch : Int → Int} {P : Int → List Int → PaR} (hP : lpb P) : lpb (pPart ch P) := by
  intro p L t h
  unfold pPart at h
  split at h
  · next w =>
    split at h
    · cases h
    · cases h
      have : bnP (nd 6 (nx ch p) nl nl nl) = if 0 < nx ch p then 1 else 0 := rfl
      rw [this, if_pos (by omega)]
      simp
  split at h
  · obtain ⟨r, e2, h⟩ := Option.map_eq_some_iff.mp h
    cases h
    show (L.length : Int) = L.length + 0
    omega
  split at h
  · cases h
    show (L.length : Int) = L.length + 0
    omega
  split at h
  · obtain ⟨s, e1, h⟩ := Option.bind_eq_some_iff.mp h
    obtain ⟨r, e2, h⟩ := Option.map_eq_some_iff.mp h
    have l := hP _ _ _ e1
    cases h
    exact l
  · obtain ⟨r, e2, h⟩ := Option.map_eq_some_iff.mp h
    cases h
    unfold pCon at e2
    split at e2
    · cases e2; show (L.length : Int) = L.length + 0; omega
    split at e2
    · cases e2; show (L.length : Int) = L.length + 0; omega
    split at e2
    · cases e2; show (L.length : Int) = L.length + 0; omega
    · cases e2
theorem pPat_b {ch : Int → Int} : ∀ k, lpb (pPat ch k)
  | 0 => by intro p L t h; cases h
  | k + 1 => by
    intro p L t h
    unfold pPat at h
    obtain ⟨s, e1, h⟩ := Option.bind_eq_some_iff.mp h
    have l := pPart_b (pPat_b k) _ _ _ e1
    split at h
    · obtain ⟨r, e2, h⟩ := Option.map_eq_some_iff.mp h
      have l2 := pPat_b k _ _ _ e2
      cases h
      have : bnP (nd 10 0 s.1 r.1 nl) = bnP s.1 + bnP r.1 := rfl
      dsimp only; omega
    · cases h
      exact l
/-- the names of a pattern are counted -/
theorem cnt_l {d : Nat} {w e : Int} (hk : 0 ≤ k ∧ k < 180) (hw : ρ 72 k = w) (hw2 : 0 ≤ w ∧ w < 124) (he : ρ 62 w = e) (he2 : e ≤ 80) : ∀ (T : Tr) (s x2 : Int), isP ρ T s → 0 ≤ s → s + pn T ≤ e → 0 ≤ x2 ∧ x2 ≤ 1000 - pn T → ∀ o s', Lb (d + 3) yMo_clauseEnds 14 [(0, .ref 58), (1, vi k), (2, vi (x2 + bnP T)), (3, vi (s + pn T))] [] ρ o s' → Lb (d + 3) yMo_clauseEnds 14 [(0, .ref 58), (1, vi k), (2, vi x2), (3, vi s)] [] ρ o s' := by
  have one : ∀ {s x2 y z : Int}, sg ρ s y z → 0 ≤ s → s + 1 ≤ e → 0 ≤ x2 ∧ x2 ≤ 1000 → ∀ o s', Lb (d + 3) yMo_clauseEnds 14 [(0, .ref 58), (1, vi k), (2, vi (x2 + (if y = 1 ∧ 0 < z then 1 else 0))), (3, vi (s + 1))] [] ρ o s' → Lb (d + 3) yMo_clauseEnds 14 [(0, .ref 58), (1, vi k), (2, vi x2), (3, vi s)] [] ρ o s' := by
    intro s x2 y z hs h0 h1 h2 o s' hL
    refine K_Mo_clauseEnds_14 ⟨by omega, by omega⟩ ⟨by omega, by omega⟩ ⟨by omega, by omega⟩ ?_
    unfold B_Mo_clauseEnds_14
    rw [hw, he, hs.1, hs.2, if_neg (by omega)]
    refine ⟨hk, hw2, ⟨by omega, by omega⟩, ?_⟩
    unfold B_Mo_clauseEnds_53 B_Mo_clauseEnds_54
    by_cases c1 : y = 1
    · rw [if_neg (fun w => w c1)]
      refine ⟨⟨by omega, by omega⟩, ?_⟩
      by_cases c2 : z ≤ 0
      · rw [if_neg (fun w => by omega)] at hL
        rw [if_pos c2]
        exact ⟨⟨by omega, by omega⟩, ⟨by omega, by omega⟩, hL⟩
      · rw [if_pos ⟨c1, by omega⟩] at hL
        rw [if_neg c2]
        exact ⟨⟨by omega, by omega⟩, ⟨by omega, by omega⟩, hL⟩
    · rw [if_neg (fun w => c1 w.1)] at hL
      rw [if_pos c1]
      exact ⟨⟨by omega, by omega⟩, ⟨by omega, by omega⟩, hL⟩
  intro T s
  fun_induction isP ρ T s with
  | case6 z A B C s i1 i2 =>
    intro x2 c h0 h1 h2 o s' hL
    have e1 : pn (nd 10 z A B C) = pn A + pn B + 1 := rfl
    have e2 : bnP (nd 10 z A B C) = bnP A + bnP B := rfl
    change s + pn (nd 10 z A B C) ≤ e at h1
    change 0 ≤ x2 ∧ x2 ≤ 1000 - pn (nd 10 z A B C) at h2
    change Lb (d + 3) yMo_clauseEnds 14 [(0, .ref 58), (1, vi k), (2, vi (x2 + bnP (nd 10 z A B C))), (3, vi (s + pn (nd 10 z A B C)))] [] ρ o s' at hL
    rw [e1] at h1 h2 hL
    rw [e2] at hL
    have g1 := pn_ge (T := A)
    have g2 := pn_ge (T := B)
    have b1 := bnP_rg (T := A)
    have b2 := bnP_rg (T := B)
    obtain ⟨c1, c2, c3⟩ := c
    refine one c1 h0 (by omega) (by omega) o s' ?_
    rw [if_neg (by decide), Int.add_zero]
    refine i1 x2 c2 (by omega) (by omega) (by omega) o s' ?_
    refine i2 (x2 + bnP A) c3 (by omega) (by omega) (by omega) o s' ?_
    rw [show x2 + bnP A + bnP B = x2 + (bnP A + bnP B) by omega, show s + 1 + pn A + pn B = s + (pn A + pn B + 1) by omega]
    exact hL
  | case7 => intro x2 c; exact c.elim
  | case8 => intro x2 c; exact c.elim
  | case1 z A B C s =>
    intro x2 c h0 h1 h2 o s' hL
    refine one c h0 h1 (by have : pn (nd 6 z A B C) = 1 := rfl; change 0 ≤ x2 ∧ x2 ≤ 1000 - pn (nd 6 z A B C) at h2; omega) o s' ?_
    have : (if (1 : Int) = 1 ∧ 0 < z then (1 : Int) else 0) = bnP (nd 6 z A B C) := by
      show _ = if 0 < z then (1 : Int) else 0
      by_cases w : 0 < z
      · rw [if_pos w, if_pos ⟨rfl, w⟩]
      · rw [if_neg w, if_neg (fun h => w h.2)]
    rw [this]; exact hL
  | case2 z A B C s =>
    intro x2 c h0 h1 h2 o s' hL
    refine one c h0 h1 (by have : pn (nd 7 z A B C) = 1 := rfl; change 0 ≤ x2 ∧ x2 ≤ 1000 - pn (nd 7 z A B C) at h2; omega) o s' ?_
    rw [if_neg (by decide)]; exact hL
  | case3 z A B C s =>
    intro x2 c h0 h1 h2 o s' hL
    refine one c h0 h1 (by have : pn (nd 0 z A B C) = 1 := rfl; change 0 ≤ x2 ∧ x2 ≤ 1000 - pn (nd 0 z A B C) at h2; omega) o s' ?_
    rw [if_neg (fun h => by have := h.1; omega)]; exact hL
  | case4 z A B C s =>
    intro x2 c h0 h1 h2 o s' hL
    refine one c h0 h1 (by have : pn (nd 2 z A B C) = 1 := rfl; change 0 ≤ x2 ∧ x2 ≤ 1000 - pn (nd 2 z A B C) at h2; omega) o s' ?_
    rw [if_neg (fun h => by have := h.1; omega)]; exact hL
  | case5 z A B C s =>
    intro x2 c h0 h1 h2 o s' hL
    refine one c h0 h1 (by have : pn (nd 3 z A B C) = 1 := rfl; change 0 ≤ x2 ∧ x2 ≤ 1000 - pn (nd 3 z A B C) at h2; omega) o s' ?_
    rw [if_neg (by decide)]; exact hL
/-- the chain of the jumps that wait -/
def chn (ρ : Mem) : Int → List Int → Prop
  | l, [] => l = 0
  | l, j :: J => l = j ∧ (0 < j ∧ j < 124) ∧ (∀ i ∈ J, i < j) ∧ chn ρ (ρ 61 j) J
theorem chn.mv {ρ' : Mem} : ∀ {J : List Int} {l : Int}, (∀ j ∈ J, ρ' 61 j = ρ 61 j) → chn ρ l J → chn ρ' l J
  | [], l, _, h => h
  | j :: J, l, h, ⟨h1, h2, h3, h4⟩ => by
    refine ⟨h1, h2, h3, ?_⟩
    rw [h j (List.mem_cons_self ..)]
    exact chn.mv (fun i hi => h i (List.mem_cons_of_mem _ hi)) h4
/-- the chain is filled in -/
theorem chn_l {d : Nat} {N : Int} (hN : rg N) (h22 : -1000 ≤ ρ 58 22 ∧ ρ 58 22 ≤ 1000) (h21 : 0 ≤ ρ 58 21 ∧ ρ 58 21 ≤ 1000) : ∀ (J : List Int) (l : Int) (ρ : Mem), chn ρ l J → ρ 58 7 = N → (-1000 ≤ ρ 58 22 ∧ ρ 58 22 ≤ 1000) → (0 ≤ ρ 58 21 ∧ ρ 58 21 ≤ 1000) → ∃ τ, Lb (d + 4) yMo_clauseEnds 170 [(0, .ref 58), (4, vi l)] [] ρ none (eDp τ) ∧ (∀ i, i ≠ 61 → τ i = ρ i) ∧ (∀ x, x ∉ J → τ 61 x = ρ 61 x) ∧ ∀ x ∈ J, τ 61 x = N := by
  intro J
  induction J with
  | nil =>
    intro l ρ h hn h22 h21
    have h : l = 0 := h
    refine ⟨ρ, K_Mo_clauseEnds_170 (d := d + 1) ⟨by omega, by omega⟩ ?_, fun _ _ => rfl, fun _ _ => rfl, fun x hx => by cases hx⟩
    unfold B_Mo_clauseEnds_170
    rw [if_pos (by omega)]
    exact ⟨_, s_endsDeep (d := d) h22 h21, rfl, rfl⟩
  | cons j J ih =>
    intro l ρ h hn h22 h21
    obtain ⟨h1, h2, h3, h4⟩ := h
    subst h1
    have o : ∀ {i : Nat}, i ≠ 61 → (mup ρ 61 l (ρ 58 7)) i = ρ i := fun h => mup_obj h
    obtain ⟨τ, hL, t1, t2, t3⟩ := ih (ρ 61 l) (mup ρ 61 l (ρ 58 7)) (chn.mv (fun i hi => by have := h3 i hi; exact mup_nk (by omega)) h4) (by rw [o (by decide)]; exact hn) (by rw [o (by decide)]; exact h22) (by rw [o (by decide)]; exact h21)
    refine ⟨τ, K_Mo_clauseEnds_170 (d := d + 1) ⟨by omega, by omega⟩ ?_, fun i hi => (t1 i hi).trans (o hi), fun x hx => ?_, fun x hx => ?_⟩
    · unfold B_Mo_clauseEnds_170
      rw [if_neg (by omega)]
      exact ⟨⟨by omega, by omega⟩, ⟨by omega, by omega⟩, hL⟩
    · rw [t2 x (fun w => hx (List.mem_cons_of_mem _ w))]
      exact mup_nk (fun w => hx (by rw [w]; exact List.mem_cons_self ..))
    · rcases List.mem_cons.mp hx with e | hx
      · rw [t2 x (fun w => by have := h3 x w; omega), e, mup_eq, hn]
      · exact t3 x hx
end CLB
