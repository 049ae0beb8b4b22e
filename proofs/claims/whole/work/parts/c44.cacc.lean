/-! The class's checker: any expression; what is accepted. -/
section CAC
variable {σ σ' σ1 σ2 σ3 : Mem} {d : Nat} {h n x r t l : Int} {E : List (Int × Int)} {M : Int → Prop} {T A B C : Tr} {k : Nat} {z : Int}
theorem rwl_1 : ∀ {T : Tr}, wf T → isE T → 1 ≤ rwl T := by
  intro T
  have u0 : ∀ {l : Int} {T : Tr}, 0 ≤ up l T (rwl T) := fun {l T} => by have := (up_ge (l := l) (T := T) (r := rwl T)).1; have := rwl_0 (T := T); omega
  induction T using wf.induct with
  | case1 z A B C | case3 z A B C | case5 z A B C | case6 z A B C => intro ⟨_, h1, h2, h3⟩ _; subst h1 h2 h3; show (1 : Int) ≤ 1; decide
  | case2 z A B C => intro ⟨_, h1, h2, h3⟩ _; subst h1 h2 h3; show (1 : Int) ≤ 3; decide
  | case4 z A B C => intro ⟨_, h1, h2, h3⟩ _; subst h1 h2 h3; show (1 : Int) ≤ 2; decide
  | case7 z A B C iA =>
    intro ⟨_, _, wA, h2, h3⟩ _
    have := u0 (l := 6) (T := A)
    show 1 ≤ 1 + up 6 A (rwl A); omega
  | case8 z A B C iA iB =>
    intro _ _
    have := u0 (l := lf9 z) (T := A)
    have := u0 (l := rt9 z) (T := B)
    show 1 ≤ 1 + up (lf9 z) A (rwl A) + up (rt9 z) B (rwl B); omega
  | case9 z A B C iA iB =>
    intro _ _
    have := u0 (l := 2) (T := A)
    have := u0 (l := 1) (T := B)
    show 1 ≤ 1 + up 2 A (rwl A) + up 1 B (rwl B); omega
  | case10 z A B C iA iB =>
    intro ⟨_, eA, wA, _, wB, h3⟩ _
    have a := iA wA eA
    have := (up_ge (l := 5) (T := A) (r := rwl A)).1
    have := u0 (l := 6) (T := B)
    show 1 ≤ up 5 A (rwl A) + up 6 B (rwl B); omega
  | case11 z A B C iA => intro _ _; have := rwl_0 (T := A); show 1 ≤ 3 + rwl A; omega
  | case12 z A B C iA iB | case13 z A B C iA iB => intro _ _; have := rwl_0 (T := A); have := rwl_0 (T := B); show 1 ≤ 4 + rwl A + rwl B; omega
  | case14 z A B C iA iB iC => intro _ _; have := rwl_0 (T := A); have := rwl_0 (T := B); have := rwl_0 (T := C); show 1 ≤ 3 + rwl A + rwl B + rwl C; omega
  | case15 z A B C iA iB => intro _ _; have := rwl_0 (T := A); have := rwl_0 (T := B); show 1 ≤ 2 + rwl A + rwl B; omega
  | case16 z A B C iB iC => intro _ e; exact absurd e.1 (by decide)
  | case17 => intro hw; exfalso; revert hw; unfold wf; split <;> simp_all
  | case18 t hx =>
    intro hw; exfalso; revert hw; unfold wf; split
    · exact (hx _ _ _ _ _ rfl).elim
    · exact id
theorem pe_all : ∀ T : Tr, wf T → c5 T → (isE T → PE T) ∧ (isBr T → PB T) := by
  intro T
  induction T using wf.induct with
  | case1 z A B C => intro ⟨_, h1, h2, h3⟩ _; subst h1 h2 h3; exact ⟨fun _ => PE_base (j := 1) (v := 0) (by decide) (Or.inl ⟨rfl, rfl, rfl⟩), fun q => absurd q (by show ¬ (0 : Nat) = 17; decide)⟩
  | case2 z A B C => intro ⟨_, h1, h2, h3⟩ _; subst h1 h2 h3; exact ⟨fun _ => PE_base (j := 3) (v := 2) (by decide) (Or.inr (Or.inl ⟨rfl, rfl, rfl⟩)), fun q => absurd q (by show ¬ (1 : Nat) = 17; decide)⟩
  | case3 z A B C => intro ⟨_, h1, h2, h3⟩ _; subst h1 h2 h3; exact ⟨fun _ => PE_base (j := 2) (v := 1) (by decide) (Or.inr (Or.inr ⟨rfl, rfl, rfl⟩)), fun q => absurd q (by show ¬ (2 : Nat) = 17; decide)⟩
  | case4 z A B C => intro ⟨h0, h1, h2, h3⟩ _; subst h0 h1 h2 h3; exact ⟨fun _ => PE_emp, fun q => absurd q (by show ¬ (3 : Nat) = 17; decide)⟩
  | case5 z A B C => intro ⟨h0, h1, h2, h3⟩ _; subst h1 h2 h3; exact ⟨fun _ => PE_bi h0, fun q => absurd q (by show ¬ (4 : Nat) = 17; decide)⟩
  | case6 z A B C => intro ⟨h0, h1, h2, h3⟩ _; subst h1 h2 h3; exact ⟨fun _ => PE_name h0, fun q => absurd q (by show ¬ (5 : Nat) = 17; decide)⟩
  | case7 z A B C iA =>
    intro ⟨h0, eA, wA, h2, h3⟩ ⟨_, cA, _, _⟩; subst h0 h2 h3
    exact ⟨fun _ => PE_neg eA ((iA wA cA).1 eA), fun q => absurd q (by show ¬ (8 : Nat) = 17; decide)⟩
  | case8 z A B C iA iB =>
    intro ⟨h0, eA, wA, eB, wB, h3⟩ ⟨_, cA, cB, _⟩; subst h3
    exact ⟨fun _ => PE_op h0 eA eB ((iA wA cA).1 eA) ((iB wB cB).1 eB), fun q => absurd q (by show ¬ (9 : Nat) = 17; decide)⟩
  | case9 z A B C iA iB =>
    intro ⟨h0, eA, wA, eB, wB, h3⟩ ⟨_, cA, cB, _⟩; subst h0 h3
    exact ⟨fun _ => PE_cons eA eB ((iA wA cA).1 eA) ((iB wB cB).1 eB), fun q => absurd q (by show ¬ (10 : Nat) = 17; decide)⟩
  | case10 z A B C iA iB =>
    intro ⟨h0, eA, wA, eB, wB, h3⟩ ⟨_, cA, cB, _⟩; subst h0 h3
    exact ⟨fun _ => PE_app eA eB ⟨rwl_1 wA eA, rwl_1 wB eB⟩ ((iA wA cA).1 eA) ((iB wB cB).1 eB), fun q => absurd q (by show ¬ (11 : Nat) = 17; decide)⟩
  | case11 z A B C iA =>
    intro ⟨h0, eA, wA, h2, h3⟩ ⟨_, cA, _, _⟩; subst h2 h3
    exact ⟨fun _ => PE_fun h0 eA ((iA wA cA).1 eA), fun q => absurd q (by show ¬ (12 : Nat) = 17; decide)⟩
  | case12 z A B C iA iB =>
    intro ⟨h0, eA, wA, eB, wB, h3⟩ ⟨_, cA, cB, _⟩; subst h3
    exact ⟨fun _ => PE_let h0 eA eB ((iA wA cA).1 eA) ((iB wB cB).1 eB), fun q => absurd q (by show ¬ (13 : Nat) = 17; decide)⟩
  | case13 z A B C iA iB =>
    intro ⟨h0, eA, wA, eB, wB, h3⟩ ⟨_, cA, cB, _⟩; subst h3
    have eA' : isE A := by
      unfold isFn at eA
      split at eA
      · subst eA; exact ⟨by decide, by decide, by decide⟩
      · exact eA.elim
    exact ⟨fun _ => PE_rec h0 eA' eB ((iA wA cA).1 eA') ((iB wB cB).1 eB), fun q => absurd q (by show ¬ (14 : Nat) = 17; decide)⟩
  | case14 z A B C iA iB iC =>
    intro ⟨h0, eA, wA, eB, wB, eC, wC⟩ ⟨_, cA, cB, cC⟩; subst h0
    exact ⟨fun _ => PE_if eA eB eC ((iA wA cA).1 eA) ((iB wB cB).1 eB) ((iC wC cC).1 eC), fun q => absurd q (by show ¬ (15 : Nat) = 17; decide)⟩
  | case15 z A B C iA iB =>
    intro ⟨h0, eA, wA, eB, wB, h3⟩ ⟨c16, cA, cB, _⟩; subst h0 h3
    exact ⟨fun _ => PE_case eA (fun e => by rw [e] at eB; exact eB) (c16 rfl) ((iA wA cA).1 eA) ((iB wB cB).2 eB), fun q => absurd q (by show ¬ (16 : Nat) = 17; decide)⟩
  | case16 z A B C iB iC =>
    intro ⟨⟨_, hnd⟩, wA, eB, wB, hC⟩ ⟨_, _, cB, cC⟩
    exact ⟨fun q => absurd q.1 (by decide), fun _ => PB_17 wA eB hnd ((iB wB cB).1 eB) (hC.imp id (fun q => (iC q.2 cC).2 q.1))⟩
  | case17 => intro hw; exfalso; revert hw; unfold wf; split <;> simp_all
  | case18 t hx =>
    intro hw; exfalso; revert hw; unfold wf; split
    · exact (hx _ _ _ _ _ rfl).elim
    · exact id
theorem uc_le {s : Sto} : ∀ c : Nat, uc s c ≤ c
  | 0 => Nat.le_refl 0
  | c + 1 => by
    have := uc_le (s := s) c
    unfold uc
    split <;> omega
/-- three types without parts -/
theorem s_clear (hl : LG σ) : ∃ σ', Rn (d + 5) yTy_clear [.ref 38] σ none σ' ∧ FT σ σ' ∧ TI σ' ∧ σ' 38 5 = 3 := by
  have mk : ∀ {τ : Mem} {k : Int}, rg k → (0 ≤ τ 38 5 ∧ τ 38 5 < 3000) → Rn (d + 4) yTy_make [.ref 38, vi k, vi (-1), vi (-1)] τ (some (τ 38 5)) (mup (mup (mup (mup τ 38 5 (τ 38 5 + 1)) 40 (τ 38 5) k) 42 (τ 38 5) (-1)) 44 (τ 38 5) (-1)) := fun {τ k} hk c => by
    refine M_Ty_make hk (rgk rfl) (rgk rfl) ?_
    unfold B_Ty_make
    rw [if_pos c.2, rows_in (by omega) (by omega), rows_in (by omega) (by omega), rows_in (by omega) (by omega)]
    exact ⟨⟨by omega, by omega⟩, rfl, rfl⟩
  have R1 := mk (τ := mup σ 38 5 0) (k := 105) (rgk rfl) (by rw [mup_eq]; decide)
  rw [mup_eq, mup_mup] at R1
  have e1 : (mup (mup (mup (mup σ 38 5 (0 + 1)) 40 0 105) 42 0 (-1)) 44 0 (-1)) 38 5 = 1 := by simp [mup]
  have R2 := mk (τ := mup (mup (mup (mup σ 38 5 (0 + 1)) 40 0 105) 42 0 (-1)) 44 0 (-1)) (k := 98) (rgk rfl) (by rw [e1]; decide)
  rw [e1] at R2
  generalize hm1 : mup (mup (mup (mup σ 38 5 (0 + 1)) 40 0 105) 42 0 (-1)) 44 0 (-1) = m1 at R1 R2 e1
  have e2 : (mup (mup (mup (mup m1 38 5 (1 + 1)) 40 1 98) 42 1 (-1)) 44 1 (-1)) 38 5 = 2 := by simp [mup]
  have R3 := mk (τ := mup (mup (mup (mup m1 38 5 (1 + 1)) 40 1 98) 42 1 (-1)) 44 1 (-1)) (k := 114) (rgk rfl) (by rw [e2]; decide)
  rw [e2] at R3
  generalize hm2 : mup (mup (mup (mup m1 38 5 (1 + 1)) 40 1 98) 42 1 (-1)) 44 1 (-1) = m2 at R2 R3 e2
  generalize hm3 : mup (mup (mup (mup m2 38 5 (2 + 1)) 40 2 114) 42 2 (-1)) 44 2 (-1) = m3 at R3
  have o : ∀ i, i ≠ 38 → i ≠ 40 → i ≠ 42 → i ≠ 44 → m3 i = σ i := fun i h1 h2 h3 h4 => by
    rw [← hm3, mup_obj h4, mup_obj h3, mup_obj h2, mup_obj h1, ← hm2, mup_obj h4, mup_obj h3, mup_obj h2, mup_obj h1, ← hm1, mup_obj h4, mup_obj h3, mup_obj h2, mup_obj h1]
  have c3 : m3 38 5 = 3 := by rw [← hm3]; simp [mup]
  have k0 : m3 40 0 = 105 := by rw [← hm3, ← hm2, ← hm1]; simp [mup]
  have k1 : m3 40 1 = 98 := by rw [← hm3, ← hm2]; simp [mup]
  have k2 : m3 40 2 = 114 := by rw [← hm3]; simp [mup]
  have k38 : ∀ k, k ≠ 5 → m3 38 k = σ 38 k := fun k hk => by rw [← hm3, ← hm2, ← hm1]; simp [mup, hk]
  have lv : ∀ u, rg (m3 44 u) := fun u => by
    have s1 : ∀ {τ : Mem} {c k y : Int}, rg (τ 44 u) → rg ((mup (mup (mup (mup τ 38 5 y) 40 c k) 42 c (-1)) 44 c (-1)) 44 u) := fun {τ c k y} g => by
      by_cases q : u = c
      · rw [q, mup_eq]; exact rgk rfl
      · rw [mup_nk q, mup_ne (by decide), mup_ne (by decide), mup_ne (by decide)]; exact g
    rw [← hm3]
    refine s1 ?_
    rw [← hm2]
    refine s1 ?_
    rw [← hm1]
    exact s1 (hl u)
  have cs : ∀ n, 0 ≤ n → n < 3 → (cS m3 n).1 = n + 1 := fun n h0 h1 => by
    have : n = 0 ∨ n = 1 ∨ n = 2 := by omega
    rcases this with rfl | rfl | rfl
    · show kC (m3 40 0) = _; rw [k0]; rfl
    · show kC (m3 40 1) = _; rw [k1]; rfl
    · show kC (m3 40 2) = _; rw [k2]; rfl
  have nl3 : ∀ n, 0 ≤ n → n < 3 → ¬ lkd (cS m3) n := fun n h0 h1 q => by have := cs n h0 h1; have := q.1; omega
  refine ⟨m3, M_Ty_clear (d := d + 1) ⟨0, m1, R1, 1, m2, R2, 2, m3, R3, rfl, rfl⟩, ⟨o, k38⟩, ⟨⟨?_, ?_, ?_, ⟨k0, k1, k2⟩, ?_, ?_⟩, lv, fun u q => ?_⟩, c3⟩
  · rw [c3]
    intro n h0 h1
    have c := cs n h0 h1
    exact ⟨by omega, fun q => absurd q (nl3 n h0 h1), fun q => by omega, fun q => by omega⟩
  · rw [c3]; decide
  · rw [c3]
    exact ⟨0, fun _ => 0, fun n h0 h1 q => absurd q (nl3 n h0 h1), by have := uc_le (s := cS m3) 3; show ((0 : Nat) : Int) + (uc (cS m3) 3 : Nat) ≤ 3; omega⟩
  · rw [c3]
    intro n h0 h1
    have : n = 0 ∨ n = 1 ∨ n = 2 := by omega
    rcases this with rfl | rfl | rfl
    · rw [k0]; exact ⟨Or.inl rfl, fun q => absurd q (by decide), fun q => by omega⟩
    · rw [k1]; exact ⟨Or.inr (Or.inl rfl), fun q => absurd q (by decide), fun q => by omega⟩
    · rw [k2]; exact ⟨Or.inr (Or.inr (Or.inl rfl)), fun q => absurd q (by decide), fun q => by omega⟩
  · rw [c3]
    refine ⟨fun n => gK (n + 1), fun n h0 h1 => ?_⟩
    have c := cs n h0 h1
    exact ⟨fun q => absurd q (nl3 n h0 h1), fun _ => by rw [c], fun q => by omega, fun q => by omega⟩
  · have h0 := q.1.1
    have h1 := q.1.2
    rw [c3] at h1
    exfalso
    have c := cs u h0 h1
    have : (cS m3 u).1 = 0 := by show kC (m3 40 u) = 0; rw [q.2.1]; rfl
    omega
/-- no type isn't too long -/
theorem tooLong_no : Rn (d + 47) yTy_tooLong [.ref 38, vi (-1)] σ (some 0) σ := by
  have e : ∀ i, rowv 3000 σ i (-1) = -1 := fun i => by unfold rowv; rw [if_neg (by decide)]
  have R1 : Rn (d + 42) yTy_resolve [.ref 38, vi (-1)] σ (some (-1)) σ := by
    refine M_Ty_resolve (d := d + 38) (rgk rfl) (K_Ty_resolve_4 (d := d + 38) (rgk rfl) (rgk rfl) ?_)
    unfold B_Ty_resolve_4
    rw [if_neg (by decide), e, if_pos (by decide)]
    exact ⟨rfl, rfl⟩
  refine M_Ty_tooLong (d := d + 43) (rgk rfl) ⟨1, σ, M_Ty_length (d := d + 42) (rgk rfl) (rgk rfl) ?_, ?_⟩
  · unfold B_Ty_length
    rw [if_pos (by decide)]
    refine ⟨-1, σ, R1.deep (by omega), ?_⟩
    rw [e, if_neg (by decide), if_neg (by decide)]
    exact ⟨rfl, rfl⟩
  · rw [if_pos (by decide)]; exact ⟨rfl, rfl⟩
/-- every node's type is looked at -/
theorem acc_l {μ : Int → GT} (H : CI σ) (Mi : MinV (cS σ) (σ 38 5) μ) (hi : σ 49 6 = 0) (hc : σ 5 7 ≤ 128) (hr : ∀ y, 0 ≤ y → y < σ 5 7 → σ 19 y = -1 ∨ (0 ≤ σ 19 y ∧ σ 19 y < σ 38 5)) : ∀ (k : Nat) (x : Int), x + k = σ 5 7 → 0 ≤ x → (Lb (d + 48) yCk_accepts 37 [(0, .ref 49), (1, vi x)] [] σ (some 1) σ ∧ ∀ y, x ≤ y → y < σ 5 7 → σ 19 y = -1 ∨ gw (μ (σ 19 y)) ≤ 80) ∨ (Lb (d + 48) yCk_accepts 37 [(0, .ref 49), (1, vi x)] [] σ (some 0) (mup σ 49 6 1) ∧ ∃ y, (x ≤ y ∧ y < σ 5 7) ∧ σ 19 y ≠ -1 ∧ ¬ gw (μ (σ 19 y)) ≤ 80)
  | 0, x, hk, hx => by
    refine Or.inl ⟨K_Ck_accepts_37 (d := d + 45) ⟨by omega, by omega⟩ ?_, fun y a b => by omega⟩
    unfold B_Ck_accepts_37 B_Ck_accepts_80
    rw [if_pos (by omega), if_neg (fun q => q hi)]; exact ⟨rfl, rfl⟩
  | k + 1, x, hk, hx => by
    have e19 : rowv 128 σ 19 x = σ 19 x := row_at ⟨hx, by omega⟩ hc
    -- this node
    by_cases c : σ 19 x = -1 ∨ gw (μ (σ 19 x)) ≤ 80
    · have R : Rn (d + 47) yTy_tooLong [.ref 38, vi (σ 19 x)] σ (some 0) σ := by
        rcases hr x hx (by omega) with q | q
        · rw [q]; exact tooLong_no
        · have := s_tooLong (d := d) H Mi q.1 q.2
          rw [if_pos (by rcases c with c | c; omega; exact c)] at this; exact this
      have go : ∀ {b : Int} {σ' : Mem}, Lb (d + 48) yCk_accepts 37 [(0, .ref 49), (1, vi (x + 1))] [] σ (some b) σ' → Lb (d + 48) yCk_accepts 37 [(0, .ref 49), (1, vi x)] [] σ (some b) σ' := fun {b σ'} L => by
        refine K_Ck_accepts_37 (d := d + 45) ⟨by omega, by omega⟩ ?_
        unfold B_Ck_accepts_37
        rw [if_neg (by omega), if_neg (fun q => q hi), e19]
        refine ⟨0, σ, R.deep (by omega), Or.inl rfl, ⟨by omega, by omega⟩, ?_⟩
        rw [show mup σ 49 6 0 = σ from by rw [← hi]; exact mup_id]
        exact L
      rcases acc_l H Mi hi hc hr k (x + 1) (by omega) (by omega) with ⟨L, a⟩ | ⟨L, y, b, a⟩
      · refine Or.inl ⟨go L, fun y p q => ?_⟩
        by_cases e : y = x
        · rw [e]; exact c
        · exact a y (by omega) q
      · exact Or.inr ⟨go L, y, ⟨by omega, b.2⟩, a⟩
    · have c1 : σ 19 x ≠ -1 := fun q => c (Or.inl q)
      have c2 : ¬ gw (μ (σ 19 x)) ≤ 80 := fun q => c (Or.inr q)
      have q := (hr x hx (by omega)).resolve_left c1
      have R := s_tooLong (d := d) H Mi q.1 q.2
      rw [if_neg c2] at R
      refine Or.inr ⟨K_Ck_accepts_37 (d := d + 45) ⟨by omega, by omega⟩ ?_, x, ⟨Int.le_refl _, by omega⟩, c1, c2⟩
      unfold B_Ck_accepts_37
      rw [if_neg (by omega), if_neg (fun q => q hi), e19]
      refine ⟨1, σ, R.deep (by omega), Or.inr rfl, ⟨by omega, by omega⟩, K_Ck_accepts_37 (d := d + 45) ⟨by omega, by omega⟩ ?_⟩
      unfold B_Ck_accepts_37 B_Ck_accepts_80
      have e6 : (mup σ 49 6 1) 49 6 ≠ 0 := by rw [mup_eq]; decide
      by_cases w : x + 1 ≥ (mup σ 49 6 1) 5 7
      · rw [if_pos w, if_pos e6]; exact ⟨rfl, rfl⟩
      · rw [if_neg w, if_pos e6, if_pos e6]; exact ⟨rfl, rfl⟩
/-- what accepts answers, and the type that the tree has -/
theorem s_accepts (t : isT σ 5 0 (σ 5 7) T (σ 5 8)) (hc : σ 5 7 ≤ 128) (G : PQ σ) (hw : wf T) (h5 : c5 T) (he : isE T) (hcl : clo T (fun _ => false) = true) (hl : rwl T ≤ 60) (lg : LG σ) : ∃ b σ', Rn (d + 350) yCk_accepts [.ref 49] σ (some b) σ' ∧ frCk σ σ' ∧ ((b = 0 ∧ ∀ s, ¬ tyE T true [] s) ∨ (b = 1 ∧ TI σ' ∧ (0 ≤ σ' 19 (σ 5 8) ∧ σ' 19 (σ 5 8) < σ' 38 5) ∧ (∃ s, tyE T true [] s) ∧ (∀ s, tyE T false [] s ↔ ∃ ρ, VS (tS σ').1 (tS σ').2.1 ρ ∧ ρ (σ' 19 (σ 5 8)) = s) ∧ ∀ μ, MinV (cS σ') (σ' 38 5) μ → gw (μ (σ' 19 (σ 5 8))) ≤ 80)) := by
  obtain ⟨σ1, R1, F1, T1, c1⟩ := s_clear (d := d + 300) lg
  have n0 := isE_n he t
  have w1 := rwl_1 hw he
  have om : ∀ {i : Nat}, i ≠ 49 → (mup (mup (mup σ1 49 4 0) 49 5 0) 49 6 0) i = σ1 i := fun hi => ((mup_obj hi).trans (mup_obj hi)).trans (mup_obj hi)
  obtain ⟨T2, e2⟩ := T1.cg (σ' := mup (mup (mup σ1 49 4 0) 49 5 0) 49 6 0) (om (by decide)) (om (by decide)) (om (by decide)) (by rw [om (by decide)])
  have f2 : frCk σ (mup (mup (mup σ1 49 4 0) 49 5 0) 49 6 0) := ((F1.fk.tr (frCk.mu rfl)).tr (frCk.mu rfl)).tr (frCk.mu rfl)
  have i4 : (mup (mup (mup σ1 49 4 0) 49 5 0) 49 6 0) 49 4 = 0 := by rw [mup_nk (by decide), mup_nk (by decide), mup_eq]
  have i5 : (mup (mup (mup σ1 49 4 0) 49 5 0) 49 6 0) 49 5 = 0 := by rw [mup_nk (by decide), mup_eq]
  have i6 : (mup (mup (mup σ1 49 4 0) 49 5 0) 49 6 0) 49 6 = 0 := mup_eq
  have c2 : (mup (mup (mup σ1 49 4 0) 49 5 0) 49 6 0) 38 5 = 3 := by rw [om (by decide)]; exact c1
  have s8 : (mup (mup (mup σ1 49 4 0) 49 5 0) 49 6 0) 5 8 = σ 5 8 := by rw [f2.tre.1]
  have e19 : (mup (mup (mup σ1 49 4 0) 49 5 0) 49 6 0) 19 = σ 19 := (om (by decide)).trans F1.oo.2.2.2
  have R2 : ∀ {v b : Int} {m3 σ' : Mem}, Rn (d + 349) yCk_infer [.ref 49, vi (σ 5 8), vi 0] (mup (mup (mup σ1 49 4 0) 49 5 0) 49 6 0) (some v) m3 → Lb (d + 349) yCk_accepts 37 [(0, .ref 49), (1, vi 0)] [] m3 (some b) σ' → Rn (d + 350) yCk_accepts [.ref 49] σ (some b) σ' := fun {v b m3 σ'} Ri L => by
    refine M_Ck_accepts (d := d + 346) ?_
    unfold B_Ck_accepts
    exact ⟨σ1, R1.deep (by omega), v, m3, by rw [s8]; exact Ri, L⟩
  generalize (mup (mup (mup σ1 49 4 0) 49 5 0) 49 6 0) = τ at *
  have I : CkI τ [] (fun _ => False) 0 := ⟨T2, ⟨fun _ q => q.elim, fun _ q => q.elim, fun _ q => by cases q⟩, trivial, i4, i5, i6⟩
  obtain ⟨ρ0, V0⟩ : ∃ ρ, VS (tS τ).1 (tS τ).2.1 ρ := T2.1.2.2.2.2.2
  obtain ⟨r, σ3, R3, gr, O⟩ := (pe_all T hw h5).1 he 60 d (σ 5 8) 0 0 τ [] (fun _ => False) (by omega) (f2.is t) (by rw [f2.tre.1]; exact hc) (f2.pp G.1) I (by rw [show inE [] = fun _ => false from rfl]; exact hcl) ⟨by omega, by show ((([] : List (Int × Int)).length : Nat) : Int) + rwl T ≤ 64; rw [List.length_nil]; omega, by omega, by omega, by omega⟩
  have R3 : Rn (d + 349) yCk_infer [.ref 49, vi (σ 5 8), vi 0] τ (some r) σ3 := R3.deep (by omega)
  have gam : ∀ {ρ}, Gam (tS τ) ρ [] = [] := fun {ρ} => rfl
  rcases O with ⟨X, no⟩ | ⟨Gd, cb, R⟩
  · refine ⟨0, σ3, R2 R3 (K_Ck_accepts_37 (d := d + 346) (rgk rfl) ?_), f2.tr X.1, Or.inl ⟨rfl, fun s y => no ρ0 s V0 y⟩⟩
    unfold B_Ck_accepts_37 B_Ck_accepts_80
    by_cases w : (0 : Int) ≥ σ3 5 7
    · rw [if_pos w, if_pos X.2.1]; exact ⟨rfl, rfl⟩
    · rw [if_neg w, if_pos X.2.1, if_pos X.2.1]; exact ⟨rfl, rfl⟩
  · have f3 := f2.tr Gd.1
    have T3 := Gd.2.1
    obtain ⟨μ, Mi⟩ := min_ex T3.1
    have cnt : σ3 5 7 = σ 5 7 := by rw [f3.tre.1]
    have hP : ∀ y, iT σ T (σ 5 8) y → σ 7 y ≠ 17 → tyN τ σ3 T (σ 5 8) (σ3 19 y) := fun y a b => ⟨y, by rw [f2.it]; exact a, by rw [f2.1 7 rfl]; exact b, rfl⟩
    have old : ∀ y, 0 ≤ y → y < σ 5 7 → ¬ (iT σ T (σ 5 8) y ∧ σ 7 y ≠ 17) → σ3 19 y = -1 := fun y y0 y1 q => by
      rw [← G.2 y y0 y1]
      by_cases k17 : σ 7 y = 17
      · exact f3.2 y k17
      · rw [Gd.2.2.2.2.2.2 y (by rw [f2.it]; exact fun w => q ⟨w, k17⟩), e19]
    have hr : ∀ y, 0 ≤ y → y < σ3 5 7 → σ3 19 y = -1 ∨ (0 ≤ σ3 19 y ∧ σ3 19 y < σ3 38 5) := fun y y0 y1 => by
      by_cases q : iT σ T (σ 5 8) y ∧ σ 7 y ≠ 17
      · exact Or.inr (R.2.2.1 _ (hP y q.1 q.2))
      · exact Or.inl (old y y0 (by rw [← cnt]; exact y1) q)
    have k8 : σ 7 (σ 5 8) ≠ 17 := by
      unfold isT at t
      split at t
      · next k z a b c => have := he.1; have := t.2.1; have this : σ 7 (σ 5 8) = k := this; omega
      · exact he.elim
      · exact t.elim
    have root : iT σ T (σ 5 8) (σ 5 8) := by
      unfold isT at t
      split at t
      · exact Or.inl rfl
      · exact he.elim
      · exact t.elim
    have iff : ∀ s, tyE T false [] s ↔ ∃ ρ, VS (tS σ3).1 (tS σ3).2.1 ρ ∧ ρ r = s := fun s => by
      constructor
      · intro y
        obtain ⟨ρ', V', -, e, -⟩ := R.2.2.2.2 false ρ0 s V0 y
        exact ⟨ρ', V', e⟩
      · intro ⟨ρ, V, e⟩
        rw [← e]; exact (R.2.2.2.1 ρ V).1
    have er : σ3 19 (σ 5 8) = r := cb.1
    obtain ⟨L0, st0, S0, -⟩ := T3.1.2.2.1
    rcases acc_l (d := d + 301) T3.1 Mi Gd.2.2.2.2.2.1 (by omega) hr (σ3 5 7).toNat 0 (by omega) (Int.le_refl _) with ⟨L, a⟩ | ⟨L, y, yr, y1, y2⟩
    · have all : ∀ p, tyN τ σ3 T (σ 5 8) p → gw (μ p) ≤ 80 := fun p ⟨y, a1, a2, a3⟩ => by
        rw [f2.it] at a1
        have yr := (iT_r t a1).1
        have := hr y yr.1 (by omega)
        rcases a y yr.1 (by omega) with q | q
        · have := R.2.2.1 p ⟨y, by rw [f2.it]; exact a1, a2, a3⟩
          omega
        · rw [← a3]; exact q
      refine ⟨1, σ3, R2 R3 L, f3, Or.inr ⟨rfl, T3, by rw [er]; exact R.2.1.1, ⟨μ r, (R.2.2.2.1 μ Mi.1).2 all⟩, by rw [er]; exact iff, fun μ' Mi' => ?_⟩⟩
      rw [er]
      have a1 := all r ⟨_, by rw [f2.it]; exact root, by rw [f2.1 7 rfl]; exact k8, er⟩
      have a2 := wid_le T3.1.1 Mi'.1 Mi.1 S0 Mi'.2 r R.2.1.1.1 R.2.1.1.2
      omega
    · refine ⟨0, _, R2 R3 L, f3.tr (frCk.mu (i := 49) (k := 6) (z := 1) rfl), Or.inl ⟨rfl, fun s y0 => ?_⟩⟩
      obtain ⟨ρ', V', -, -, w⟩ := R.2.2.2.2 true ρ0 s V0 y0
      have q : iT σ T (σ 5 8) y ∧ σ 7 y ≠ 17 := Classical.byContradiction (fun q => y1 (old y yr.1 (by omega) q))
      have a1 := w rfl _ (hP y q.1 q.2)
      have a3 := (hr y yr.1 (by omega)).resolve_left y1
      have a2 := wid_le T3.1.1 Mi.1 V' S0 Mi.2 _ a3.1 a3.2
      omega
end CAC
