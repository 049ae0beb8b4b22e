/-! The model's typesFound: every tree; what it answers. -/
section MFD
variable {σ σ' τ m : Mem} {T : Tr} {S : TS}
theorem isFn_E {A : Tr} (eA : isFn A) : isE A := by
  unfold isFn at eA
  split at eA
  · subst eA; exact ⟨by decide, by decide, by decide⟩
  · exact eA.elim
theorem br_1 {B : Tr} (eB : isBr B) (wB : wf B) : 1 ≤ rwl B := by
  unfold wf at wB
  split at wB
  · next k z A D C =>
    have e : k = 17 := eB
    subst e
    have h1 := rwl_0 (T := D)
    have h2 := rwl_0 (T := C)
    have h3 := pn_rpl wB.2.1
    have h4 := pn_ge (T := A)
    show 1 ≤ rpl A + 2 + rwl D + rwl C
    omega
  · exact wB.elim
theorem pm_all : ∀ T : Tr, wf T → (isE T → PMT T) ∧ (isBr T → PMB T) := by
  intro T
  induction T using wf.induct with
  | case1 z A B C =>
    intro ⟨_, h1, h2, h3⟩; subst h1 h2 h3
    exact ⟨fun _ => PM_lit (c := 0) (by decide) (fun σ a s c => by have c : cell σ a 0 z 0 := c; exact c.1) (fun w G s => ⟨fun ⟨a, b⟩ => ⟨a (by decide), b⟩, fun ⟨a, b⟩ => ⟨fun _ => a, b⟩⟩) rfl (by show (1 : Int) ≤ 1; decide) (fun _ _ _ => ⟨rfl, rfl⟩), fun q => absurd q (by show ¬ (0 : Nat) = 17; decide)⟩
  | case2 z A B C =>
    intro ⟨_, h1, h2, h3⟩; subst h1 h2 h3
    exact ⟨fun _ => PM_lit (c := 2) (by decide) (fun σ a s c => by have c : cell σ a 2 z 0 := c; exact c.1) (fun w G s => ⟨fun ⟨a, b⟩ => ⟨a (by decide), b⟩, fun ⟨a, b⟩ => ⟨fun _ => a, b⟩⟩) rfl (by show (1 : Int) ≤ 3; decide) (fun _ _ _ => ⟨rfl, rfl⟩), fun q => absurd q (by show ¬ (1 : Nat) = 17; decide)⟩
  | case3 z A B C =>
    intro ⟨_, h1, h2, h3⟩; subst h1 h2 h3
    exact ⟨fun _ => PM_lit (c := 1) (by decide) (fun σ a s c => by have c : cell σ a 1 z 0 := c; exact c.1) (fun w G s => ⟨fun ⟨a, b⟩ => ⟨a (by decide), b⟩, fun ⟨a, b⟩ => ⟨fun _ => a, b⟩⟩) rfl (by show (1 : Int) ≤ 1; decide) (fun _ _ _ => ⟨rfl, rfl⟩), fun q => absurd q (by show ¬ (2 : Nat) = 17; decide)⟩
  | case4 z A B C => intro ⟨h0, h1, h2, h3⟩; subst h0 h1 h2 h3; exact ⟨fun _ => PM_emp, fun q => absurd q (by show ¬ (3 : Nat) = 17; decide)⟩
  | case5 z A B C => intro ⟨h0, h1, h2, h3⟩; subst h1 h2 h3; exact ⟨fun _ => PM_bi, fun q => absurd q (by show ¬ (4 : Nat) = 17; decide)⟩
  | case6 z A B C => intro ⟨h0, h1, h2, h3⟩; subst h1 h2 h3; exact ⟨fun _ => PM_name, fun q => absurd q (by show ¬ (5 : Nat) = 17; decide)⟩
  | case7 z A B C iA =>
    intro ⟨h0, eA, wA, h2, h3⟩; subst h0 h2 h3
    exact ⟨fun _ => PM_neg (rwl_1 wA eA) ((iA wA).1 eA), fun q => absurd q (by show ¬ (8 : Nat) = 17; decide)⟩
  | case8 z A B C iA iB =>
    intro ⟨h0, eA, wA, eB, wB, h3⟩; subst h3
    exact ⟨fun _ => PM_op h0 (rwl_1 wA eA) (rwl_1 wB eB) ((iA wA).1 eA) ((iB wB).1 eB), fun q => absurd q (by show ¬ (9 : Nat) = 17; decide)⟩
  | case9 z A B C iA iB =>
    intro ⟨h0, eA, wA, eB, wB, h3⟩; subst h0 h3
    exact ⟨fun _ => PM_cons eB (rwl_1 wA eA) (rwl_1 wB eB) ((iA wA).1 eA) ((iB wB).1 eB), fun q => absurd q (by show ¬ (10 : Nat) = 17; decide)⟩
  | case10 z A B C iA iB =>
    intro ⟨h0, eA, wA, eB, wB, h3⟩; subst h0 h3
    exact ⟨fun _ => PM_app eA (rwl_1 wA eA) (rwl_1 wB eB) ((iA wA).1 eA) ((iB wB).1 eB), fun q => absurd q (by show ¬ (11 : Nat) = 17; decide)⟩
  | case11 z A B C iA =>
    intro ⟨h0, eA, wA, h2, h3⟩; subst h2 h3
    exact ⟨fun _ => PM_fun h0 (rwl_1 wA eA) ((iA wA).1 eA), fun q => absurd q (by show ¬ (12 : Nat) = 17; decide)⟩
  | case12 z A B C iA iB =>
    intro ⟨h0, eA, wA, eB, wB, h3⟩; subst h3
    exact ⟨fun _ => PM_let h0 (rwl_1 wA eA) (rwl_1 wB eB) ((iA wA).1 eA) ((iB wB).1 eB), fun q => absurd q (by show ¬ (13 : Nat) = 17; decide)⟩
  | case13 z A B C iA iB =>
    intro ⟨h0, eA, wA, eB, wB, h3⟩; subst h3
    have eA' := isFn_E eA
    exact ⟨fun _ => PM_rec h0 eA' (rwl_1 wA eA') (rwl_1 wB eB) ((iA wA).1 eA') ((iB wB).1 eB), fun q => absurd q (by show ¬ (14 : Nat) = 17; decide)⟩
  | case14 z A B C iA iB iC =>
    intro ⟨h0, eA, wA, eB, wB, eC, wC⟩; subst h0
    exact ⟨fun _ => PM_if eB eC (rwl_1 wA eA) (rwl_1 wB eB) (rwl_1 wC eC) ((iA wA).1 eA) ((iB wB).1 eB) ((iC wC).1 eC), fun q => absurd q (by show ¬ (15 : Nat) = 17; decide)⟩
  | case15 z A B C iA iB =>
    intro ⟨h0, eA, wA, eB, wB, h3⟩; subst h0 h3
    exact ⟨fun _ => PM_case (rwl_1 wA eA) (br_1 eB wB) ((iA wA).1 eA) ((iB wB).2 eB), fun q => absurd q (by show ¬ (16 : Nat) = 17; decide)⟩
  | case16 z A B C iB iC =>
    intro ⟨⟨h0, hnd⟩, wA, eB, wB, hC⟩; subst h0
    exact ⟨fun q => absurd q.1 (by decide), fun _ => PMB_17 wA hnd eB (rwl_1 wB eB) ((iB wB).1 eB) (hC.imp id (fun q => ⟨q.1, (iC q.2).2 q.1⟩))⟩
  | case17 => intro hw; exfalso; revert hw; unfold wf; split <;> simp_all
  | case18 t hx =>
    intro hw; exfalso; revert hw; unfold wf; split
    · exact (hx _ _ _ _ _ rfl).elim
    · exact id
/-- the store that a walk begins with -/
def bsS (S : TS) : Prop := SO S ∧ S.2.1 = 3 ∧ (S.1 0).1 = 1 ∧ (S.1 1).1 = 2 ∧ (S.1 2).1 = 3
theorem s_typesFound (hC : isC σ T 0 0) (hN : isN σ T 0 []) (hw : wf T) (he : isE T) (hcl : clo T (fun _ => false) = true) (hl : rwl T ≤ 60) (h7 : σ 58 7 = ln T ∧ ln T ≤ 124) (h14 : sn T ≤ 80) (rm : ∀ S0, bsS S0 → rmC T 0 0 S0 [] []) : ∃ v σ', Rn 21 yMo_typesFound [.ref 58] σ (some v) σ' ∧ fT σ σ' ∧ ((v = 0 ∧ ∀ s, ¬ tyE T true [] s) ∨ (v = 1 ∧ MT σ' ∧ (0 ≤ σ' 83 0 ∧ σ' 83 0 < σ' 58 35) ∧ (∃ s, tyE T true [] s) ∧ (∀ s, tyE T false [] s ↔ ∃ ρ, VS (mS σ').1 (mS σ').2.1 ρ ∧ ρ (σ' 83 0) = s) ∧ shN (mS σ') (σ' 83 0))) := by
  have w1 := rwl_1 hw he
  have gl := ln_ge (T := T)
  have gs := sn_ge (T := T)
  -- three types without parts
  have e0 : (mup σ 58 35 0) 58 35 = 0 := mup_eq
  have R1 := r_make (d := 16) (σ := mup σ 58 35 0) (k := 1) (a := 0) (b := 0) (by omega) (by omega) (rgk rfl) (rgk rfl) (rgk rfl)
  have c1 : mkM (mup σ 58 35 0) 1 0 0 58 35 = 1 := by rw [mkM_c, e0]; rfl
  have R2 := r_make (d := 16) (σ := mkM (mup σ 58 35 0) 1 0 0) (k := 2) (a := 0) (b := 0) (by omega) (by omega) (rgk rfl) (rgk rfl) (rgk rfl)
  have c2 : mkM (mkM (mup σ 58 35 0) 1 0 0) 2 0 0 58 35 = 2 := by rw [mkM_c, c1]; rfl
  have R3 := r_make (d := 16) (σ := mkM (mkM (mup σ 58 35 0) 1 0 0) 2 0 0) (k := 3) (a := 0) (b := 0) (by omega) (by omega) (rgk rfl) (rgk rfl) (rgk rfl)
  have c3 : mkM (mkM (mkM (mup σ 58 35 0) 1 0 0) 2 0 0) 3 0 0 58 35 = 3 := by rw [mkM_c, c2]; rfl
  have n79 : ∀ n, mkM (mkM (mkM (mup σ 58 35 0) 1 0 0) 2 0 0) 3 0 0 79 n = if n = 2 then 3 else if n = 1 then 2 else if n = 0 then 1 else σ 79 n := fun n => by
    rw [mkM_79, c2, mkM_79, c1, mkM_79, e0, mup_obj (by decide)]
  have n82 : ∀ n, mkM (mkM (mkM (mup σ 58 35 0) 1 0 0) 2 0 0) 3 0 0 82 n = if n = 2 then -1 else if n = 1 then -1 else if n = 0 then -1 else σ 82 n := fun n => by
    rw [mkM_82, c2, mkM_82, c1, mkM_82, e0, mup_obj (by decide)]
  have f3 : fT σ (mkM (mkM (mkM (mup σ 58 35 0) 1 0 0) 2 0 0) 3 0 0) := ((fT.m8 rfl).tr mkM.fk.fT).tr ((mkM.fk.tr mkM.fk).fT)
  generalize mkM (mkM (mkM (mup σ 58 35 0) 1 0 0) 2 0 0) 3 0 0 = m3 at *
  have fin : ∀ o s', tfL 0 (mup (mup (mup (mup (mup m3 58 30 0) 58 37 0) 58 41 0) 58 43 0) 58 44 0) o s' → Rn 21 yMo_typesFound [.ref 58] σ o s' := fun o s' h => M_Mo_typesFound (d := 17) ⟨_, _, R1, _, _, R2, _, _, R3, h⟩
  have ob : ∀ i, i ≠ 58 → (mup (mup (mup (mup (mup m3 58 30 0) 58 37 0) 58 41 0) 58 43 0) 58 44 0) i = m3 i := fun i h => by rw [mup_obj h, mup_obj h, mup_obj h, mup_obj h, mup_obj h]
  have k30 : (mup (mup (mup (mup (mup m3 58 30 0) 58 37 0) 58 41 0) 58 43 0) 58 44 0) 58 30 = 0 := by rw [mup_nk (by decide), mup_nk (by decide), mup_nk (by decide), mup_nk (by decide), mup_eq]
  have k37 : (mup (mup (mup (mup (mup m3 58 30 0) 58 37 0) 58 41 0) 58 43 0) 58 44 0) 58 37 = 0 := by rw [mup_nk (by decide), mup_nk (by decide), mup_nk (by decide), mup_eq]
  have k41 : (mup (mup (mup (mup (mup m3 58 30 0) 58 37 0) 58 41 0) 58 43 0) 58 44 0) 58 41 = 0 := by rw [mup_nk (by decide), mup_nk (by decide), mup_eq]
  have k43 : (mup (mup (mup (mup (mup m3 58 30 0) 58 37 0) 58 41 0) 58 43 0) 58 44 0) 58 43 = 0 := by rw [mup_nk (by decide), mup_eq]
  have k44 : (mup (mup (mup (mup (mup m3 58 30 0) 58 37 0) 58 41 0) 58 43 0) 58 44 0) 58 44 = 0 := mup_eq
  have k35 : (mup (mup (mup (mup (mup m3 58 30 0) 58 37 0) 58 41 0) 58 43 0) 58 44 0) 58 35 = 3 := by rw [mup_nk (by decide), mup_nk (by decide), mup_nk (by decide), mup_nk (by decide), mup_nk (by decide)]; exact c3
  have ft : fT m3 (mup (mup (mup (mup (mup m3 58 30 0) 58 37 0) 58 41 0) 58 43 0) 58 44 0) := ((((fT.m8 rfl).tr (fT.m8 rfl)).tr (fT.m8 rfl)).tr (fT.m8 rfl)).tr (fT.m8 rfl)
  generalize mup (mup (mup (mup (mup m3 58 30 0) 58 37 0) 58 41 0) 58 43 0) 58 44 0 = τ at *
  have fτ : fT σ τ := f3.tr ft
  have v79 : ∀ n, 0 ≤ n → n < 3 → τ 79 n = n + 1 := fun n h0 h1 => by
    rw [ob 79 (by decide), n79]
    have : n = 0 ∨ n = 1 ∨ n = 2 := by omega
    rcases this with e | e | e
    · rw [e]; rfl
    · rw [e]; rfl
    · rw [e]; rfl
  have cs : ∀ n, 0 ≤ n → n < 3 → ((mS τ).1 n).1 = n + 1 := v79
  have nl3 : ∀ n, 0 ≤ n → n < 3 → ¬ lkd (mS τ).1 n := fun n h0 h1 q => by have := cs n h0 h1; have := q.1; omega
  have c35 : (mS τ).2.1 = 3 := k35
  have Wτ : SO (mS τ) := by
    refine ⟨fun n h0 h1 => ?_, ⟨0, fun _ => 0, fun n h0 h1 q => absurd q (nl3 n h0 (by omega))⟩, fun u o => ?_⟩
    · have c := cs n h0 (by omega)
      exact ⟨by omega, fun q => absurd q (nl3 n h0 (by omega)), fun q => by omega, fun q => by omega⟩
    · show (if τ 81 u = 1 then (1000 : Int) else 0) ≤ 1000
      split <;> decide
  have Hτ : MT τ := by
    refine ⟨Wτ, by omega, ⟨v79 0 (by decide) (by decide), v79 1 (by decide) (by decide), v79 2 (by decide) (by decide)⟩, fun n h0 h1 => by omega, fun n h0 h1 => ?_, fun n h0 h1 => ?_, fun n => gK (n + 1), fun n h0 h1 => ?_⟩
    · have c := v79 n h0 (by omega)
      exact ⟨fun q => by omega, fun q => by omega⟩
    · rw [ob 82 (by decide), n82]
      have : n = 0 ∨ n = 1 ∨ n = 2 := by omega
      rcases this with e | e | e
      · rw [e]; rfl
      · rw [e]; rfl
      · rw [e]; rfl
    · have c := cs n h0 (by omega)
      exact ⟨fun q => absurd q (nl3 n h0 (by omega)), fun _ => by rw [c], fun q => by omega, fun q => by omega⟩
  have tτ : TH τ [] [] := ⟨Hτ, ⟨by rw [k30]; rfl, trivial⟩, ⟨fun _ q => q.elim, fun _ q => q.elim, fun _ q => by cases q⟩, k44, fun k k0 k1 => by omega, fun k k0 k1 => by omega⟩
  have gam : ∀ {ρ}, Gam (mS τ) ρ [] = [] := fun {ρ} => rfl
  obtain ⟨ρ0, V0⟩ := Hτ.2.2.2.2.2.2
  rcases (pm_all T hw).1 he 0 0 τ [] [] (fτ.ic hC) (fτ.isn hN) hcl ⟨by omega, by rw [fτ.s7]; omega, by rw [fτ.s7]; omega⟩ ⟨by omega, by omega⟩ tτ ⟨by omega, by omega, by omega, by omega⟩ (rm _ ⟨Wτ, c35, cs 0 (by decide) (by decide), cs 1 (by decide) (by decide), cs 2 (by decide) (by decide)⟩) with ⟨σ', r, D, k⟩ | ⟨⟨s', l, f'⟩, no⟩
  · obtain ⟨f', t', b', ⟨d30, d37, d41, d43⟩, top, px, TT, RTT⟩ := D
    have end1 : tfL (0 + ln T) σ' (some 1) σ' := by
      refine K_Mo_typesFound_57 (d := 17) ⟨by omega, by omega⟩ ?_
      unfold B_Mo_typesFound_57
      rw [if_pos (by rw [f'.s7, fτ.s7]; omega)]
      unfold B_Mo_typesFound_135
      rw [if_neg (by rw [t'.2.2.2.1]; decide)]
      exact ⟨rfl, rfl⟩
    rw [k37] at top
    obtain ⟨μ, Mi⟩ := ms_min t'.1
    have sr : shN (mS σ') r := by
      obtain ⟨i, i0, i1, e⟩ := px
      rw [e]; exact t'.2.2.2.2.2 i (by omega) i1
    refine ⟨1, σ', fin _ _ (k _ _ end1), fτ.tr f', Or.inr ⟨rfl, t'.1, by rw [top]; exact TT.2.1.1, ⟨μ r, (TT.2.2.2.1 μ Mi.1).2 (fun p hp => ?_)⟩, fun s => ?_, by rw [top]; exact sr⟩⟩
    · obtain ⟨i, i0, i1, e⟩ := hp
      rw [e]; exact t'.2.2.2.2.2 i (by omega) i1 μ Mi
    · rw [top]
      constructor
      · intro y
        obtain ⟨ρ', V', -, e, -⟩ := TT.2.2.2.2 false ρ0 s V0 y
        exact ⟨ρ', V', e⟩
      · intro ⟨ρ, V, e⟩
        rw [← e]; exact (TT.2.2.2.1 ρ V).1
  · refine ⟨0, s', fin _ _ l, fτ.tr f', Or.inl ⟨rfl, fun s y => no ρ0 s V0 (fun q hq => ?_) y⟩⟩
    rcases hq with ⟨k, hk, -⟩ | h
    · omega
    · exact h.elim
end MFD
