/-! The model's names: what is bound around each draft. -/
/-- how many names a tree binds -/
def tb : Tr → Int
  | .tag k (.nest _ (.append A (.append B C))) => match k with
    | 12 => tb A + 1
    | 13 => tb A + tb B + 1
    | 14 => tb A + tb B + 1
    | 17 => (bnd A).length + tb B + tb C
    | _ => tb A + tb B + tb C
  | _ => 0
/-- how far out a name is bound -/
def ix (z : Int) : List Int → Int
  | [] => 0
  | y :: G => if y = z then 0 else 1 + ix z G
def nmR (σ : Mem) : List Int → Prop
  | [] => True
  | z :: G => σ 76 (G.length : Int) = z ∧ nmR σ G
def nmE (σ : Mem) (G : List Int) : Prop := σ 58 30 = G.length ∧ nmR σ G
def isN (σ : Mem) : Tr → Int → List Int → Prop
  | .tag k (.nest z (.append A (.append B C))), a, G => match k with
    | 5 => σ 61 a = ix z G
    | 8 => isN σ A a G
    | 9 => isN σ A a G ∧ isN σ B (a + ln A) G
    | 10 => isN σ A a G ∧ isN σ B (a + ln A) G
    | 11 => isN σ A a G ∧ isN σ B (a + ln A) G
    | 12 => isN σ A (a + 1) (z :: G)
    | 13 => isN σ A a G ∧ isN σ B (a + ln A + 1) (z :: G)
    | 14 => isN σ A (a + 1) (z :: G) ∧ isN σ B (a + ln A + 2) (z :: G)
    | 15 => isN σ A a G ∧ isN σ B (a + ln A + 1) G ∧ isN σ C (a + ln A + ln B + 2) G
    | 16 => isN σ A a G ∧ isN σ B (a + ln A + 1) G
    | 17 => isN σ B (a + 1) ((bnd A).reverse ++ G) ∧ isN σ C (a + ln B + 3) G
    | 0 => True
    | 1 => True
    | 2 => True
    | 3 => True
    | 4 => True
    | _ => False
  | .nil, _, _ => True
  | _, _, _ => False
theorem tb_ge : ∀ {T : Tr}, 0 ≤ tb T := by
  intro T
  fun_induction tb T <;> omega
theorem isN.mv {σ σ' : Mem} : ∀ {T : Tr} {a : Int} {G : List Int}, (∀ x, a ≤ x → x < a + ln T → σ' 61 x = σ 61 x) → isN σ T a G → isN σ' T a G := by
  intro T a G
  fun_induction isN σ T a G with
  | case1 z A B C a G =>
    intro h c
    exact (h a (Int.le_refl _) (by show a < a + (1 : Int); omega)).trans c
  | case2 z A B C a G i1 =>
    intro h c
    simp only [ln] at h
    exact i1 (fun x h1 h2 => h x h1 (by omega)) c
  | case3 z A B C a G i1 i2 | case4 z A B C a G i1 i2 | case5 z A B C a G i1 i2 =>
    intro h c
    simp only [ln] at h
    have g1 := ln_ge (T := A)
    have g2 := ln_ge (T := B)
    exact ⟨i1 (fun x h1 h2 => h x h1 (by omega)) c.1, i2 (fun x h1 h2 => h x (by omega) (by omega)) c.2⟩
  | case6 z A B C a G i1 =>
    intro h c
    simp only [ln] at h
    exact i1 (fun x h1 h2 => h x (by omega) (by omega)) c
  | case7 z A B C a G i1 i2 | case8 z A B C a G i1 i2 =>
    intro h c
    simp only [ln] at h
    have g1 := ln_ge (T := A)
    have g2 := ln_ge (T := B)
    exact ⟨i1 (fun x h1 h2 => h x (by omega) (by omega)) c.1, i2 (fun x h1 h2 => h x (by omega) (by omega)) c.2⟩
  | case9 z A B C a G i1 i2 i3 =>
    intro h c
    simp only [ln] at h
    have g1 := ln_ge (T := A)
    have g2 := ln_ge (T := B)
    have g3 := ln_ge (T := C)
    exact ⟨i1 (fun x h1 h2 => h x (by omega) (by omega)) c.1, i2 (fun x h1 h2 => h x (by omega) (by omega)) c.2.1, i3 (fun x h1 h2 => h x (by omega) (by omega)) c.2.2⟩
  | case10 z A B C a G i1 i2 =>
    intro h c
    simp only [ln] at h
    have g1 := ln_ge (T := A)
    have g2 := ln_ge (T := B)
    exact ⟨i1 (fun x h1 h2 => h x (by omega) (by omega)) c.1, i2 (fun x h1 h2 => h x (by omega) (by omega)) c.2⟩
  | case11 z A B C a G i1 i2 =>
    intro h c
    simp only [ln] at h
    have g1 := ln_ge (T := C)
    have g2 := ln_ge (T := B)
    exact ⟨i1 (fun x h1 h2 => h x (by omega) (by omega)) c.1, i2 (fun x h1 h2 => h x (by omega) (by omega)) c.2⟩
  | case12 | case13 | case14 | case15 | case16 => intro _ _; trivial
  | case17 => intro _ c; exact c.elim
  | case18 => intro _ _; trivial
  | case19 => intro _ c; exact c.elim
section NM
variable {σ τ : Mem} {d : Nat} {p z : Int} {G : List Int}
/-- what names change -/
def frN (σ σ' : Mem) : Prop := (∀ i, i ≠ 58 → i ≠ 61 → i ≠ 76 → i ≠ 77 → i ≠ 78 → σ' i = σ i) ∧ ∀ k, k ≠ 30 → σ' 58 k = σ 58 k
theorem frN.rf : frN σ σ := ⟨fun _ _ _ _ _ _ => rfl, fun _ _ => rfl⟩
theorem frN.tr {σ2 : Mem} (a : frN σ τ) (b : frN τ σ2) : frN σ σ2 := ⟨fun i h1 h2 h3 h4 h5 => (b.1 i h1 h2 h3 h4 h5).trans (a.1 i h1 h2 h3 h4 h5), fun k h => (b.2 k h).trans (a.2 k h)⟩
/-- a name is bound -/
def bnM (σ : Mem) (z : Int) : Mem := mup (mup (mup (mup σ 76 (σ 58 30) z) 77 (σ 58 30) 0) 78 (σ 58 30) 0) 58 30 (σ 58 30 + 1)
theorem s_bind0 (hz : rg z) (h : 0 ≤ σ 58 30 ∧ σ 58 30 < 64) : Rn (d + 4) yMo_bind [.ref 58, vi z, vi 0] σ none (bnM σ z) :=
  M_Mo_bind hz (rgk rfl) ⟨h, h, h, ⟨by omega, by omega⟩, rfl, rfl⟩
theorem bnM_f : frN σ (bnM σ z) := by
  unfold bnM
  exact ⟨fun i h1 h2 h3 h4 h5 => by rw [mup_obj h1, mup_obj h5, mup_obj h4, mup_obj h3], fun k h => by rw [mup_nk h, mup_ne (by decide), mup_ne (by decide), mup_ne (by decide)]⟩
theorem bnM_61 : (bnM σ z) 61 = σ 61 := by
  unfold bnM
  rw [mup_obj (by decide), mup_obj (by decide), mup_obj (by decide), mup_obj (by decide)]
theorem nmR.mv {σ' : Mem} : ∀ {G : List Int}, (∀ x : Int, 0 ≤ x → x < G.length → σ' 76 x = σ 76 x) → nmR σ G → nmR σ' G
  | [], _, _ => trivial
  | z :: G, h, c => by
    have el : ((z :: G).length : Int) = G.length + 1 := by simp
    rw [el] at h
    exact ⟨(h _ (by omega) (by omega)).trans c.1, nmR.mv (fun x a b => h x a (by omega)) c.2⟩
theorem bnM_E (H : nmE σ G) : nmE (bnM σ z) (z :: G) := by
  unfold bnM
  have el : ((z :: G).length : Int) = G.length + 1 := by simp
  refine ⟨by rw [mup_eq, H.1, el], ?_, nmR.mv (fun x a b => ?_) H.2⟩
  · rw [mup_ne (by decide), mup_ne (by decide), mup_ne (by decide), ← H.1, mup_eq]
  · rw [mup_ne (by decide), mup_ne (by decide), mup_ne (by decide), mup_nk (by rw [H.1]; omega)]
/-- names are taken away -/
def unM (σ : Mem) (n : Int) : Mem := mup σ 58 30 (σ 58 30 - n)
theorem unM_0 : unM σ 0 = σ := by unfold unM; rw [Int.sub_zero, mup_id]
theorem unM_f {n : Int} : frN σ (unM σ n) := ⟨fun i h1 _ _ _ _ => mup_obj h1, fun _ h => mup_nk h⟩
theorem unM_61 {n : Int} : (unM σ n) 61 = σ 61 := mup_obj (by decide)
theorem unM_E {n : Int} {L : List Int} (H : nmE σ (L ++ G)) (hn : n = L.length) : nmE (unM σ n) G := by
  unfold unM
  have el : ((L ++ G).length : Int) = L.length + G.length := by simp
  refine ⟨by rw [mup_eq, H.1, el]; omega, ?_⟩
  have h : ∀ L : List Int, nmR σ (L ++ G) → nmR σ G := by
    intro L
    induction L with
    | nil => exact fun h => h
    | cons y L ih => exact fun h => ih h.2
  exact nmR.mv (fun x a b => by rw [mup_ne (by decide)]) (h L H.2)
/-- the names of a pattern are bound -/
theorem bp_l {w e : Int} (hw2 : 0 ≤ w ∧ w < 124) (he2 : e ≤ 80) : ∀ (T : Tr) (s : Int) (σ : Mem) (G : List Int), wfP T → isP σ T s → σ 62 w = e → 0 ≤ s → s + pn T ≤ e → nmE σ G → (G.length : Int) + (bnd T).length ≤ 60 → ∃ σ', frN σ σ' ∧ σ' 61 = σ 61 ∧ nmE σ' ((bnd T).reverse ++ G) ∧ ∀ o s', Lb (d + 4) yMo_bindPattern 7 [(0, .ref 58), (1, vi w), (2, vi (s + pn T))] [] σ' o s' → Lb (d + 4) yMo_bindPattern 7 [(0, .ref 58), (1, vi w), (2, vi s)] [] σ o s' := by
  have leaf : ∀ {σ : Mem} {s y z : Int}, sg σ s y z → σ 62 w = e → ¬(y = 1 ∧ 0 < z) → 0 ≤ s → s + 1 ≤ e → ∀ o s', Lb (d + 4) yMo_bindPattern 7 [(0, .ref 58), (1, vi w), (2, vi (s + 1))] [] σ o s' → Lb (d + 4) yMo_bindPattern 7 [(0, .ref 58), (1, vi w), (2, vi s)] [] σ o s' := by
    intro σ s y z hs he hn h0 h1 o s' hL
    refine K_Mo_bindPattern_7 (d := d + 1) ⟨by omega, by omega⟩ ⟨by omega, by omega⟩ ?_
    unfold B_Mo_bindPattern_7
    rw [he, hs.1, hs.2, if_neg (by omega)]
    refine ⟨hw2, ⟨by omega, by omega⟩, ?_⟩
    unfold B_Mo_bindPattern_47
    by_cases c1 : y = 1
    · rw [if_neg (fun h => h c1), if_pos (by omega)]
      exact ⟨⟨by omega, by omega⟩, ⟨by omega, by omega⟩, hL⟩
    · rw [if_pos c1]
      exact ⟨⟨by omega, by omega⟩, hL⟩
  intro T s σ G hwf hP he h0 h1 hE hl
  induction T using wfP.induct generalizing s σ G with
  | case1 z A B C => exact ⟨σ, frN.rf, rfl, by obtain ⟨-, rfl, rfl, rfl⟩ := hwf; show nmE σ ((bnd (nd 0 z nl nl nl)).reverse ++ G); rw [bnd_lf (by decide)]; exact hE, leaf hP he (fun h => by have := h.1; omega) h0 h1⟩
  | case2 z A B C => exact ⟨σ, frN.rf, rfl, by obtain ⟨-, rfl, rfl, rfl⟩ := hwf; show nmE σ ((bnd (nd 2 z nl nl nl)).reverse ++ G); rw [bnd_lf (by decide)]; exact hE, leaf hP he (fun h => by have := h.1; omega) h0 h1⟩
  | case3 z A B C => exact ⟨σ, frN.rf, rfl, by obtain ⟨-, rfl, rfl, rfl⟩ := hwf; show nmE σ ((bnd (nd 3 z nl nl nl)).reverse ++ G); rw [bnd_lf (by decide)]; exact hE, leaf hP he (fun h => by have := h.1; omega) h0 h1⟩
  | case4 z A B C =>
    obtain ⟨hz, rfl, rfl, rfl⟩ := hwf
    have eb : bnd (nd 6 z nl nl nl) = [z] := rfl
    change nmE σ G at hE
    change (G.length : Int) + (bnd (nd 6 z nl nl nl)).length ≤ 60 at hl
    rw [eb] at hl
    have el : ([z].length : Int) = 1 := rfl
    rw [el] at hl
    have h1 : s + 1 ≤ e := h1
    refine ⟨bnM σ z, bnM_f, bnM_61, bnM_E hE, fun o s' hL => ?_⟩
    refine K_Mo_bindPattern_7 (d := d + 1) ⟨by omega, by omega⟩ ⟨by omega, by omega⟩ ?_
    unfold B_Mo_bindPattern_7
    have hP : sg σ s 1 z := hP
    unfold ltZ at hz
    rw [he, hP.1, hP.2, if_neg (by omega), if_neg (fun h => h rfl), if_neg (by omega)]
    refine ⟨hw2, ⟨by omega, by omega⟩, ⟨by omega, by omega⟩, ⟨by omega, by omega⟩, _, s_bind0 (d := d) ⟨by omega, by omega⟩ (by rw [hE.1]; omega), ?_⟩
    exact ⟨⟨by omega, by omega⟩, hL⟩
  | case5 z A B C => exact ⟨σ, frN.rf, rfl, by obtain ⟨-, rfl, rfl, rfl⟩ := hwf; show nmE σ ((bnd (nd 7 z nl nl nl)).reverse ++ G); rw [bnd_lf (by decide)]; exact hE, leaf hP he (fun h => by have := h.2; omega) h0 h1⟩
  | case6 z A B C i1 i2 =>
    obtain ⟨-, w1, w2, -⟩ := hwf
    have eb : bnd (nd 10 z A B C) = bnd A ++ bnd B := by show (if (10 : Nat) = 6 then [z] else bnd A ++ bnd B) = _; rw [if_neg (by decide)]
    have ep : pn (nd 10 z A B C) = pn A + pn B + 1 := rfl
    change (G.length : Int) + (bnd (nd 10 z A B C)).length ≤ 60 at hl
    change s + pn (nd 10 z A B C) ≤ e at h1
    obtain ⟨c1, c2, c3⟩ := hP
    rw [eb, List.length_append] at hl
    rw [ep] at h1
    have g1 := pn_ge (T := A)
    have g2 := pn_ge (T := B)
    obtain ⟨σ1, f1, e1, n1, k1⟩ := i1 (s + 1) σ G w1 c2 he (by omega) (by omega) hE (by omega)
    have f66 : σ1 66 = σ 66 := f1.1 66 (by decide) (by decide) (by decide) (by decide) (by decide)
    have f67 : σ1 67 = σ 67 := f1.1 67 (by decide) (by decide) (by decide) (by decide) (by decide)
    have f62 : σ1 62 = σ 62 := f1.1 62 (by decide) (by decide) (by decide) (by decide) (by decide)
    obtain ⟨σ2, f2, e2, n2, k2⟩ := i2 (s + 1 + pn A) σ1 ((bnd A).reverse ++ G) w2 (c3.o f66 f67) (by rw [f62]; exact he) (by omega) (by omega) n1 (by rw [List.length_append, List.length_reverse]; omega)
    refine ⟨σ2, f1.tr f2, e2.trans e1, ?_, fun o s' hL => ?_⟩
    · show nmE σ2 ((bnd (nd 10 z A B C)).reverse ++ G)
      rw [eb, List.reverse_append, List.append_assoc]; exact n2
    · refine leaf c1 he (fun h => by have := h.1; omega) h0 (by omega) o s' (k1 o s' (k2 o s' ?_))
      have : s + 1 + pn A + pn B = s + pn (nd 10 z A B C) := by rw [ep]; omega
      rw [this]; exact hL
  | case7 => exfalso; revert hwf; unfold wfP; split <;> simp_all
  | case8 t hx =>
    exfalso; revert hwf; unfold wfP; split
    · exact (hx _ _ _ _ _ rfl).elim
    · exact id
theorem s_bindPattern {T : Tr} {w s : Int} (hw2 : 0 ≤ w ∧ w < 124) (hC : cell σ w 16 s (s + pn T)) (hs : 0 ≤ s) (he2 : s + pn T ≤ 80) (hwf : wfP T) (hP : isP σ T s) (hE : nmE σ G) (hl : (G.length : Int) + (bnd T).length ≤ 60) : ∃ σ', frN σ σ' ∧ σ' 61 = σ 61 ∧ nmE σ' ((bnd T).reverse ++ G) ∧ Rn (d + 5) yMo_bindPattern [.ref 58, vi w] σ none σ' := by
  have gp := pn_ge (T := T)
  obtain ⟨σ', f, e, n, k⟩ := bp_l (d := d) hw2 he2 T s σ G hwf hP hC.2.2 hs (Int.le_refl _) hE hl
  refine ⟨σ', f, e, n, M_Mo_bindPattern (d := d + 1) ⟨by omega, by omega⟩ ⟨hw2, ?_⟩⟩
  rw [hC.2.1]
  refine k _ _ (K_Mo_bindPattern_7 (d := d + 1) ⟨by omega, by omega⟩ ⟨by omega, by omega⟩ ?_)
  unfold B_Mo_bindPattern_7
  have e62 : σ' 62 w = s + pn T := by rw [f.1 62 (by decide) (by decide) (by decide) (by decide) (by decide)]; exact hC.2.2
  rw [e62, if_pos (Int.le_refl _)]
  exact ⟨hw2, rfl, rfl⟩
end NM
