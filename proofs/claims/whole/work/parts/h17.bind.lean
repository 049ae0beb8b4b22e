/-! Y comes down to this: a function that makes lists is bound. -/
section BND
variable {w : Tr → Int} {S T : Tr}
theorem sw_two (hw : ∀ N, 0 ≤ w N) {k0 : Nat} {z0 : Int} {X0 Y0 Z0 : Tr} (h17 : k0 = 17) : ∀ {T : Tr}, str (nd k0 z0 X0 Y0 Z0) T → bo S T → w (nd k0 z0 X0 Y0 Z0) + sumW w S ≤ sumW w T := by
  intro T
  fun_induction str (nd k0 z0 X0 Y0 Z0) T with
  | case1 k z A B C i1 i2 i3 =>
    intro h b
    have e : sumW w (nd k z A B C) = w (nd k z A B C) + ((if k = 17 then 0 else sumW w A) + (sumW w B + sumW w C)) := rfl
    have g0 := hw (nd k z A B C)
    have g1 := sw_ge hw (T := A)
    have g2 := sw_ge hw (T := B)
    have g3 := sw_ge hw (T := C)
    have sb : ∀ {X : Tr}, bo S X → sumW w S ≤ sumW w X := fun {X} h => by
      obtain ⟨x, y, u, q⟩ := sw_bo hw h
      have := hw (nd 12 x S y u)
      omega
    have me : ∀ {X : Tr}, str (nd k0 z0 X0 Y0 Z0) X → w (nd k0 z0 X0 Y0 Z0) ≤ sumW w X := fun {X} q => by
      have e : sumW w (nd k0 z0 X0 Y0 Z0) = w (nd k0 z0 X0 Y0 Z0) + ((if k0 = 17 then 0 else sumW w X0) + (sumW w Y0 + sumW w Z0)) := rfl
      have := sw_ge hw (T := X0)
      have := sw_ge hw (T := Y0)
      have := sw_ge hw (T := Z0)
      have g := sw_str hw q
      rw [e] at g
      split at g <;> omega
    show w (nd k0 z0 X0 Y0 Z0) + sumW w S ≤ sumW w (nd k z A B C)
    rcases h with h | ⟨hk, h⟩
    · cases h
      rw [e]
      rcases b with ⟨x, -⟩ | ⟨q, b⟩ | b | b
      · omega
      · exact absurd h17 q
      · have := sb b
        split <;> omega
      · have := sb b
        split <;> omega
    · rw [e]
      rcases b with ⟨x, -⟩ | ⟨q, b⟩ | b | b
      · exact absurd x hk
      · have b1 := sb b
        rw [if_neg q]
        rcases h with ⟨-, h⟩ | h | h
        · have := i1 h b; omega
        · have := me h; omega
        · have := me h; omega
      · have b1 := sb b
        rcases h with ⟨q, h⟩ | h | h
        · have := me h
          rw [if_neg q]; omega
        · have := i2 h b
          split <;> omega
        · have := me h
          split <;> omega
      · have b1 := sb b
        rcases h with ⟨q, h⟩ | h | h
        · have := me h
          rw [if_neg q]; omega
        · have := me h
          split <;> omega
        · have := i3 h b
          split <;> omega
  | case2 t hx =>
    intro h b
    unfold bo at b
    split at b
    · exact (hx _ _ _ _ _ rfl).elim
    · exact b.elim
/-- the first step that isn't as RunZ asks -/
theorem first_v : ∀ (m : Nat) (st : AS) (n g : Int), Run T m st n g → (∃ e, RunZ w T m st e) ∨ ∃ m0 s0 n0 g0 e0 s1 c, Run T m0 s0 n0 g0 ∧ RunZ w T m0 s0 e0 ∧ spA s0 = some (.inl (s1, c)) ∧ ¬ (c ≤ 16 ∧ bzN w s0)
  | 0, st, n, g, h => by
    obtain ⟨rfl, rfl, rfl⟩ := h
    exact Or.inl ⟨0, rfl, rfl⟩
  | m + 1, st, n, g, h => by
    obtain ⟨s0, n0, g0, h0, h⟩ := h
    rcases first_v m s0 n0 g0 h0 with ⟨e, r⟩ | x
    · rcases h with ⟨h, rfl, rfl⟩ | ⟨b, h, rfl, rfl⟩
      · exact Or.inl ⟨e, s0, e, r, Or.inl ⟨h, rfl⟩⟩
      · by_cases q : b ≤ 16 ∧ bzN w s0
        · exact Or.inl ⟨_, s0, e, r, Or.inr ⟨b, q, h, rfl⟩⟩
        · exact Or.inr ⟨m, s0, n0, g0, e, st, b, h0, r, h, q⟩
    · exact Or.inr x
/-- a big branch that is taken: where it stands, what it costs -/
theorem big_at {w w' : Wl} {ρ ρ' : En} {vs vs' : List Va} {fs fs' : List (Wl × En)} {c : Nat} (hw : wf T) (J : frI T w fs) (h : spA (w, ρ, vs, fs) = some (.inl ((w', ρ', vs', fs'), c))) (hc : 17 ≤ c) : ∃ A0, (fs = [] → A0 = T) ∧ (fs ≠ [] → bo A0 T) ∧ ∃ z P E C, str (nd 17 z P E C) A0 ∧ 36 ≤ p17 (nd 17 z P E C) := by
  obtain ⟨z, A, B, C, w1, v, vs1, E, br, rfl, rfl, hb, rfl⟩ := sp_big h hc
  obtain ⟨z2, P, C2, rfl, hfit⟩ := br_fit hb
  have pr : ∀ {A0 : Tr}, wf A0 → str (nd 17 z2 P E C2) A0 → 36 ≤ p17 (nd 17 z2 P E C2) := fun {A0} wA h2 => by
    have w2 : wf (nd 17 z2 P E C2) := by
      rcases wf_str h2 (Or.inl wA) with q | q
      · exact q
      · cases q
    have w2' : (z2 = (bnd P).length ∧ (bnd P).Nodup) ∧ wfP P ∧ isE E ∧ wf E ∧ (C2 = nl ∨ (isBr C2 ∧ wf C2)) := w2
    have hc : 17 ≤ z2.toNat := hc
    have := (rpl_bn w2'.2.1).1
    show 36 ≤ rpl P + 3
    omega
  cases fs with
  | nil =>
    have h1 : str (nd 16 z A B C) T := (strW_cons.mp J).1
    obtain ⟨-, h2⟩ := br_str hb ((str_nd (by decide) h1).2.1 _ str_me)
    exact ⟨T, fun _ => rfl, fun e => absurd rfl e, z2, P, E, C2, h2, pr hw h2⟩
  | cons f gs =>
    obtain ⟨⟨A0, hA, hW⟩, -⟩ := J
    have h1 : str (nd 16 z A B C) A0 := (strW_cons.mp hW).1
    obtain ⟨-, h2⟩ := br_str hb ((str_nd (by decide) h1).2.1 _ str_me)
    exact ⟨A0, (fun e => by cases e), fun _ => hA, z2, P, E, C2, h2, pr (wf_bo hA (Or.inl hw)) h2⟩
theorem sw_17p {z : Int} {A B C : Tr} : p17 (nd 17 z A B C) ≤ sumW p17 (nd 17 z A B C) := by
  have e := sw_17 (w := p17) (z := z) (A := A) (B := B) (C := C)
  have := sw_ge p17_ge (T := B)
  have := sw_ge p17_ge (T := C)
  omega
/-- a big branch that is taken in a function was prepared: a function that makes lists was bound before -/
theorem y_bind {σ σ' : Mem} (b : bLd σ σ' T) {m : Nat} {st st' : AS} {n g : Int} {c : Nat} (r : Run T m st n g) (h : spA st = some (.inl (st', c))) (hf : st.2.2.2 ≠ []) (hc : 17 ≤ c) : ∃ m0 s0 n0 g0 e0 s1 c0, Run T m0 s0 n0 g0 ∧ RunZ (kI 10) T m0 s0 e0 ∧ spA s0 = some (.inl (s1, c0)) ∧ c0 ≤ 16 ∧ ¬ bzN (kI 10) s0 := by
  obtain ⟨⟨he, hw, -, hl⟩, -⟩ := id b
  rcases first_v (w := kI 10) m st n g r with ⟨e, rz⟩ | ⟨m0, s0, n0, g0, e0, s1, c0, r0, rz, h0, hn⟩
  · exact (tk_none b r rz h hf hc).elim
  · by_cases q : c0 ≤ 16
    · exact ⟨m0, s0, n0, g0, e0, s1, c0, r0, rz, h0, q, fun x => hn ⟨q, x⟩⟩
    · exfalso
      by_cases f0 : s0.2.2.2 = []
      · -- two big branches are too dear
        obtain ⟨-, J0, -⟩ := fr_run hw m0 s0 n0 g0 r0
        obtain ⟨-, J, -⟩ := fr_run hw m st n g r
        obtain ⟨w0, ρ0, vs0, fs0⟩ := s0
        obtain ⟨w1, ρ1, vs1, fs1⟩ := s1
        obtain ⟨w2, ρ2, vs2, fs2⟩ := st
        obtain ⟨w3, ρ3, vs3, fs3⟩ := st'
        obtain ⟨A0, a1, -, z, P, E, C, t1, t2⟩ := big_at hw J0 h0 (by omega)
        obtain ⟨A1, -, a2, z', P', E', C', u1, u2⟩ := big_at hw J h hc
        have hb := a2 hf
        have a1 := a1 f0
        subst a1
        have k := sw_two p17_ge rfl t1 hb
        have k2 := sw_str p17_ge u1
        have k3 := sw_17p (z := z') (A := P') (B := E') (C := C')
        have o := own_5 (T := A0)
        have := sw_ge (kI_ge (j := 10)) (T := A0)
        have := sw_ge (kI_ge (j := 11)) (T := A0)
        have := sw_ge (kI_ge (j := 12)) (T := A0)
        have := sw_ge (kI_ge (j := 16)) (T := A0)
        have ce := (cen_eq hw).1 he
        omega
      · exact tk_none b r0 rz h0 f0 (by omega)
end BND
