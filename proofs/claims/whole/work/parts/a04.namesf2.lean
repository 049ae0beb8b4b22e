/-! The model's names: the method. -/
theorem bnd_rpl : ∀ {T : Tr}, wfP T → ((bnd T).length : Int) ≤ rpl T := by
  intro T
  induction T using wfP.induct with
  | case1 z A B C => intro ⟨_, h1, h2, h3⟩; subst h1 h2 h3; show ((bnd (nd 0 z nl nl nl)).length : Int) ≤ 1; rw [bnd_lf (by decide)]; decide
  | case2 z A B C => intro ⟨_, h1, h2, h3⟩; subst h1 h2 h3; show ((bnd (nd 2 z nl nl nl)).length : Int) ≤ 1; rw [bnd_lf (by decide)]; decide
  | case3 z A B C => intro ⟨_, h1, h2, h3⟩; subst h1 h2 h3; show ((bnd (nd 3 z nl nl nl)).length : Int) ≤ 2; rw [bnd_lf (by decide)]; decide
  | case4 z A B C => intro ⟨_, h1, h2, h3⟩; subst h1 h2 h3; exact Int.le_refl (1 : Int)
  | case5 z A B C => intro ⟨_, h1, h2, h3⟩; subst h1 h2 h3; show ((bnd (nd 7 z nl nl nl)).length : Int) ≤ 1; rw [bnd_lf (by decide)]; decide
  | case6 z A B C i1 i2 =>
    intro ⟨_, h1, h2, _⟩
    have a := i1 h1
    have b := i2 h2
    have e : bnd (nd 10 z A B C) = bnd A ++ bnd B := by show (if (10 : Nat) = 6 then [z] else bnd A ++ bnd B) = _; rw [if_neg (by decide)]
    show ((bnd (nd 10 z A B C)).length : Int) ≤ (if isCo A then rpl A + 2 else rpl A) + 1 + rpl B
    rw [e, List.length_append]
    split <;> omega
  | case7 => intro hw; exfalso; revert hw; unfold wfP; split <;> simp_all
  | case8 t hx =>
    intro hw; exfalso; revert hw; unfold wfP; split
    · exact (hx _ _ _ _ _ rfl).elim
    · exact id
theorem tb_rwl : ∀ {T : Tr}, wf T → tb T ≤ rwl T := by
  intro T
  induction T using wf.induct with
  | case1 z A B C | case3 z A B C | case5 z A B C | case6 z A B C => intro ⟨_, h1, h2, h3⟩; subst h1 h2 h3; show (0 : Int) + 0 + 0 ≤ 1; decide
  | case2 z A B C => intro ⟨_, h1, h2, h3⟩; subst h1 h2 h3; show (0 : Int) + 0 + 0 ≤ 3; decide
  | case4 z A B C => intro ⟨_, h1, h2, h3⟩; subst h1 h2 h3; show (0 : Int) + 0 + 0 ≤ 2; decide
  | case7 z A B C iA =>
    intro ⟨_, _, wA, h2, h3⟩; subst h2 h3
    have a := iA wA
    have u := up_ge (l := 6) (T := A) (r := rwl A)
    show tb A + 0 + 0 ≤ 1 + up 6 A (rwl A); omega
  | case8 z A B C iA iB =>
    intro ⟨_, _, wA, _, wB, h3⟩; subst h3
    have a := iA wA
    have b := iB wB
    have u := up_ge (l := lf9 z) (T := A) (r := rwl A)
    have v := up_ge (l := rt9 z) (T := B) (r := rwl B)
    show tb A + tb B + 0 ≤ 1 + up (lf9 z) A (rwl A) + up (rt9 z) B (rwl B); omega
  | case9 z A B C iA iB =>
    intro ⟨_, _, wA, _, wB, h3⟩; subst h3
    have a := iA wA
    have b := iB wB
    have u := up_ge (l := 2) (T := A) (r := rwl A)
    have v := up_ge (l := 1) (T := B) (r := rwl B)
    show tb A + tb B + 0 ≤ 1 + up 2 A (rwl A) + up 1 B (rwl B); omega
  | case10 z A B C iA iB =>
    intro ⟨_, _, wA, _, wB, h3⟩; subst h3
    have a := iA wA
    have b := iB wB
    have u := up_ge (l := 5) (T := A) (r := rwl A)
    have v := up_ge (l := 6) (T := B) (r := rwl B)
    show tb A + tb B + 0 ≤ up 5 A (rwl A) + up 6 B (rwl B); omega
  | case11 z A B C iA =>
    intro ⟨_, _, wA, h2, h3⟩; subst h2 h3
    have a := iA wA
    show tb A + 1 ≤ 3 + rwl A; omega
  | case12 z A B C iA iB | case13 z A B C iA iB =>
    intro ⟨_, _, wA, _, wB, h3⟩; subst h3
    have a := iA wA
    have b := iB wB
    show tb A + tb B + 1 ≤ 4 + rwl A + rwl B; omega
  | case14 z A B C iA iB iC =>
    intro ⟨_, _, wA, _, wB, _, wC⟩
    have a := iA wA
    have b := iB wB
    have c := iC wC
    show tb A + tb B + tb C ≤ 3 + rwl A + rwl B + rwl C; omega
  | case15 z A B C iA iB =>
    intro ⟨_, _, wA, _, wB, h3⟩; subst h3
    have a := iA wA
    have b := iB wB
    show tb A + tb B + 0 ≤ 2 + rwl A + rwl B; omega
  | case16 z A B C iB iC =>
    intro ⟨_, wA, _, wB, wC⟩
    have a := bnd_rpl wA
    have b := iB wB
    show ((bnd A).length : Int) + tb B + tb C ≤ rpl A + 2 + rwl B + rwl C
    rcases wC with rfl | ⟨-, wC⟩
    · show ((bnd A).length : Int) + tb B + 0 ≤ rpl A + 2 + rwl B + 0; omega
    · have c := iC wC; omega
  | case17 => intro hw; exfalso; revert hw; unfold wf; split <;> simp_all
  | case18 t hx =>
    intro hw; exfalso; revert hw; unfold wf; split
    · exact (hx _ _ _ _ _ rfl).elim
    · exact id
section NFS
variable {σ : Mem}
/-- every name is found, and its draft says how far out it is bound; or one isn't bound -/
theorem s_namesFound {T : Tr} (hw : wf T) (hC : isC σ T 0 0) (h7 : σ 58 7 = ln T ∧ ln T ≤ 124) (h14 : sn T ≤ 80) (hl : rwl T ≤ 60) : ∃ v σ', Rn 7 yMo_namesFound [.ref 58] σ (some v) σ' ∧ frN σ σ' ∧ ((v = 1 ∧ clo T (fun _ => false) = true ∧ isC σ' T 0 0 ∧ isN σ' T 0 []) ∨ (v = 0 ∧ clo T (fun _ => false) = false)) := by
  have ht := tb_rwl hw
  have em : mb [] = fun _ => false := by funext c; unfold mb; simp
  have f0 : frN σ (mup σ 58 30 0) := ⟨fun i h _ _ _ _ => mup_obj h, fun k h => mup_nk h⟩
  have e7 : (mup σ 58 30 0) 58 7 = σ 58 7 := mup_nk (by decide)
  have C0 : isC (mup σ 58 30 0) T 0 0 := isC.mv (fun x _ _ => by unfold Da; rw [mup_obj (by decide), mup_obj (by decide), mup_obj (by decide), mup_obj (by decide)]; exact ⟨rfl, fun _ => rfl, rfl, rfl⟩) (fun x _ _ => by rw [mup_obj (by decide), mup_obj (by decide)]; exact ⟨rfl, rfl⟩) hC
  have M : ∀ {o s'}, nfL 0 (mup σ 58 30 0) o s' → Rn 7 yMo_namesFound [.ref 58] σ o s' := fun {o s'} h => M_Mo_namesFound (d := 3) h
  rcases nf_l T 0 0 [] (mup σ 58 30 0) hw C0 (Int.le_refl _) (by rw [e7]; omega) (by rw [e7]; omega) (Int.le_refl _) (by omega) (by show (0 : Int) + tb T ≤ 60; omega) ⟨mup_eq, trivial⟩ with ⟨c, σ', t, n, m⟩ | ⟨c, s', h, f⟩
  · rw [em] at c
    refine ⟨1, σ', M (t.2.2 _ _ (K_Mo_namesFound_7 (d := 3) ?_ ?_)), f0.tr t.1, Or.inl ⟨rfl, c, t.isC C0, m⟩⟩
    · have g := ln_ge (T := T)
      exact ⟨by omega, by omega⟩
    · unfold B_Mo_namesFound_7
      rw [if_pos (by rw [t.s7, e7]; omega)]
      exact ⟨rfl, rfl⟩
  · rw [em] at c
    exact ⟨0, s', M h, f0.tr f, Or.inr ⟨rfl, c⟩⟩
end NFS
