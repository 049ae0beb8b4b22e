/-! The law answers 1, given D1 and D2. -/
theorem frH_z : (∀ k, k < 26 → hAt frH 37 k = .int 0) := by
  have : ((List.range 26).all (fun k => decide (hAt frH 37 k = .int 0))) = true := by decide +kernel
  exact fun k hk => of_decide_eq_true (List.all_eq_true.mp this k (List.mem_range.mpr hk))
theorem frH_j : ∀ q ∈ shJl, ∃ x, hAt frH q.1 q.2 = .int x := by
  have : (shJl.all (fun q => isI (hAt frH q.1 q.2))) = true := by decide +kernel
  exact fun q hq => isI_spec (List.all_eq_true.mp this q hq)
theorem frH_f : hAt frH 1 8 = .int 0 ∧ hAt frH 2 1 = .int 0 ∧ hAt frH 58 2 = .int 0 ∧ hAt frH 58 49 = .int 0 ∧ hAt frH 1 9 = .null := ⟨frH_c.1.2.2.2.1, frH_c.2.1.2.2, frH_m.2.2.2.2.1, frH_m.2.2.2.2.2.1, frH_c.1.2.2.2.2⟩
section BCLA
variable {L : Nat} {xs : Nat → Int32} {H : mHp}
theorem law_begin {F0 : mHp} (e0 : F0 = frH) {r : mRes × mHp} (K : Go 400 true 229 (28, frL, [], swp (106, L, fun j => .int (xs j)) F0) r) : Go 400 true 229 (0, [(0, .ref 0)], [], lawH L xs) r := by
  have h := stN_swp (c := (106, L, fun j => .int (xs j))) (swp_ex rfl (F := 99940 + 60) (396 + 4)) (le3.ex (396 + 4)) rfl 16 (S := (0, [(0, .ref 0)], [], frH0)) ⟨rfl, Nat.one_pos⟩ (frK_g e0).2.2
  have h1 : stN (mEx (99940 + 60) (396 + 4)) 229 16 (0, [(0, .ref 0)], [], lawH L xs) = some (28, frL, [], swp (106, L, fun j => .int (xs j)) F0) := by
    rw [← frH_swp]
    exact h.1
  exact stN_Go h1 K
theorem frH_ty {F0 : mHp} (e0 : F0 = frH) : tyH F0 := stN_hp tyP_R (F := 99940 + 60) (d := 396 + 4) 16 (frK_g e0).2.2 lawH_ty
theorem frH_zr {F0 : mHp} (e0 : F0 = frH) : zrH F0 := by
  refine stN_hp zrP_R (F := 99940 + 60) (d := 396 + 4) 16 (frK_g e0).2.2 ?_
  intro i hi ht
  have hi : i < 1 := hi
  have : i = 0 := by omega
  subst this
  exact absurd ht (by decide)
theorem pure_of (D1 : roomT) (D2 : roomB) : lawPure := by
  intro L xs hL
  obtain ⟨F0, e0⟩ : ∃ F0, F0 = frH := ⟨_, rfl⟩
  obtain ⟨H, eH⟩ : ∃ H, H = swp (106, L, fun j => .int (xs j)) F0 := ⟨_, rfl⟩
  have S0 : Sh F0 := by rw [e0]; exact shChk_ok frH_sh
  obtain ⟨⟨n1, n2, n3⟩, -, -⟩ := frK_g e0
  have T0 := frH_ty e0
  have Z0 := frH_zr e0
  have g37 : ∀ k, k < 26 → hAt F0 37 k = .int 0 := by rw [e0]; exact frH_z
  have gJ : ∀ q ∈ shJl, ∃ x, hAt F0 q.1 q.2 = .int x := by rw [e0]; exact frH_j
  have gF : hAt F0 1 8 = .int 0 ∧ hAt F0 2 1 = .int 0 ∧ hAt F0 58 2 = .int 0 ∧ hAt F0 58 49 = .int 0 ∧ hAt F0 1 9 = .null := by rw [e0]; exact frH_f
  have gC : hAt F0 54 7 = .int 0 ∧ hAt F0 54 8 = .int 0 ∧ hAt F0 54 9 = .int 0 ∧ hAt F0 54 10 = .int 0 := by rw [e0]; exact ⟨frH_c.2.2.2.2.1, frH_c.2.2.2.2.2.1, frH_c.2.2.2.2.2.2.1, frH_c.2.2.2.2.2.2.2⟩
  have gM : hAt F0 58 65 = .int 0 ∧ hAt F0 58 66 = .int 0 ∧ hAt F0 58 67 = .int 0 ∧ hAt F0 58 68 = .int 0 := by rw [e0]; exact ⟨frH_m.2.2.2.2.2.2.1, frH_m.2.2.2.2.2.2.2.1, frH_m.2.2.2.2.2.2.2.2.1, frH_m.2.2.2.2.2.2.2.2.2⟩
  have at0 : ∀ i k, i ≠ 0 → hAt H i k = hAt F0 i k := fun i k hi => by rw [eH]; exact swp_get hi
  have tg0 : ∀ i, hTag H i = hTag F0 i := fun i => by rw [eH]; exact swp_tag rfl n3 i
  have ln0 : ∀ i, i ≠ 0 → hLen H i = hLen F0 i := fun i hi => by rw [eH]; exact swp_len hi
  have h1 : H.1 = F0.1 := by rw [eH]; rfl
  have h2 : H.2.1 = F0.2.1 := by rw [eH]; rfl
  have S : Sh H := ⟨by rw [h1]; exact S0.1, fun i hi => ⟨(tg0 i).trans (S0.t i hi), (ln0 i (by have := (shI_lt hi).1; omega)).trans (S0.l i hi)⟩, fun q hq => by
    have q0 : q.1 ≠ 0 := by
      have : (shR.all (fun q => decide (q.1 ≠ 0))) = true := by decide +kernel
      exact of_decide_eq_true (List.all_eq_true.mp this q hq)
    rw [at0 _ _ q0]; exact S0.2.2 q hq⟩
  have T : tyH H := fun i hi k => by
    rw [tg0]
    by_cases q : i = 0
    · subst q
      rw [n3.1]; rfl
    · rw [at0 i k q]; exact T0 i (by rw [← h1]; exact hi) k
  have J : ∀ q ∈ shJl, ∃ x, hAt H q.1 q.2 = .int x := fun q hq => by
    have q0 : q.1 ≠ 0 := by
      have : (shJl.all (fun q => decide (q.1 ≠ 0))) = true := by decide +kernel
      exact of_decide_eq_true (List.all_eq_true.mp this q hq)
    rw [at0 _ _ q0]; exact gJ q hq
  obtain ⟨P, M⟩ := put_self S T J
  have z : ∀ (i k : Nat), i ≠ 0 → hAt F0 i k = .int 0 → stM0 H i k = 0 := fun i k hi e => by
    unfold stM0
    split
    · rw [Int.toNat_natCast, at0 i k hi, e]; rfl
    · rfl
  have z37 : ∀ k, stM0 H 37 k = 0 := fun k => by
    unfold stM0
    split
    · next q =>
      rw [at0 _ _ (by decide)]
      by_cases b : k.toNat < 26
      · rw [g37 _ b]; rfl
      · rw [Z0 37 (by have := S0.1; omega) (S0.t 37 rfl) k.toNat (by rw [show hLen F0 37 = 26 from S0.l 37 rfl]; omega)]; rfl
    · rfl
  obtain ⟨f1, f2, f3, f4, f5⟩ := gF
  obtain ⟨f7, f8, f9, f10⟩ := gC
  obtain ⟨g65, g66, g67, g68⟩ := gM
  have z18 : stM0 H 1 8 = 0 := z 1 8 (by decide) f1
  have z21 : stM0 H 2 1 = 0 := z 2 1 (by decide) f2
  have z582 : stM0 H 58 2 = 0 := z 58 2 (by decide) f3
  have z5849 : stM0 H 58 49 = 0 := z 58 49 (by decide) f4
  have c7 : stM0 H 54 7 = 0 := z 54 7 (by decide) f7
  have c8 : stM0 H 54 8 = 0 := z 54 8 (by decide) f8
  have c9 : stM0 H 54 9 = 0 := z 54 9 (by decide) f9
  have c10 : stM0 H 54 10 = 0 := z 54 10 (by decide) f10
  have m65 : stM0 H 58 65 = 0 := z 58 65 (by decide) g65
  have m66 : stM0 H 58 66 = 0 := z 58 66 (by decide) g66
  have m67 : stM0 H 58 67 = 0 := z 58 67 (by decide) g67
  have m68 : stM0 H 58 68 = 0 := z 58 68 (by decide) g68
  have sc : scL L xs H := by
    refine ⟨⟨(tg0 0).trans n3.1, by rw [eH]; rfl, hL⟩, fun j => by rw [eH]; rfl⟩
  have I : lpI L xs H (stM0 H) 0 (.inr (.inr 0)) := ⟨sc, S, LnE.emp z21 z582 z37, ⟨by rw [z18, z5849], by rw [z18]; exact ⟨by decide, by decide⟩, fun k h0 h1 => by rw [z18] at h1; omega⟩, M, ⟨by decide, by decide⟩, Or.inl ⟨rfl, ⟨c7, m65⟩, by rw [at0 1 9 (by decide)]; exact f5, ⟨by rw [c7, m65], by rw [c8, m66], by rw [c9, m67], by rw [c10, m68]⟩, c10⟩⟩
  have hp1 : H.1 ≤ 1000 := by rw [h1]; exact n1
  have hp2 : H.2.1 ≤ 100000 := by rw [h2]; exact n2
  obtain ⟨h', ⟨b1, b2⟩, G⟩ := law_loop (d := 48) D1 D2 513 0 H (stM0 H) 0 (.inr (.inr 0)) I (Int.le_refl _) (by omega) (by decide) (by show (H.1 : Int) + (0 : Nat) + 258 * (1000 - 0) + 130 * (513 : Nat) ≤ 400000; omega) (by show (H.2.1 : Int) + 6 * ((0 : Nat) + 258 * (1000 - 0)) + 780 * (513 : Nat) ≤ 2600000; omega)
  rw [P, eH] at G
  have G : Go 400 true 229 (28, frL, [], swp (106, L, fun j => .int (xs j)) F0) (.inl (some (.int 1)), h') := G
  obtain ⟨F, hF⟩ := go_F (law_begin e0 G)
  exact ⟨F, h', hF, by omega, by omega⟩
end BCLA
