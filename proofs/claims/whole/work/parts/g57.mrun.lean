/-! The model's run: its loop. -/
/-- where a run stands: what the model holds -/
def mEnd (T : Tr) (σ0 : Mem) (h : mHp) (σ : Mem) (f s' : Int) : WkE → Prop
  | .inl S' => (mRel σ0 h σ s' S' ∧ σ 58 65 = 1 ∧ σ 58 66 = f) ∧ wkI T S' ∧ (∃ m, Run T m (abS S') s' (σ 58 57)) ∧ S'.1 = 2
  | .inr (.inl v) => ((∃ y, hAt h 89 0 = vlg y ∧ hAt h 58 69 = vlg y ∧ RMv h σ (pfM σ0) (mOf σ) v false y) ∧ mBo (mOf σ) ∧ pgM σ0 σ) ∧ σ 58 65 = 2 ∧ σ 58 66 = f ∧ σ 58 70 = 0
  | .inr (.inr c) => σ 58 65 = 3 ∧ σ 58 66 = c
section MRUN
variable {σ0 : Mem} {d : Nat} {nn : Int} {T : Tr} {o : Int × Int × Int} {e : WkE}
theorem Run.mv {S S' : WkS} {m : Nat} {n g : Int} (v : wkV S) (h : wkM S = some S') (r : Run T m (abS S) n g) : ∃ m, Run T m (abS S') n g := by
  rcases ss_mv v.1 h with e | e
  · rw [e]; exact ⟨m, r⟩
  · exact ⟨m + 1, _, _, _, r, Or.inl ⟨e, rfl, rfl⟩⟩
theorem m_run (M0 : RM σ0) (p0 : 0 ≤ σ0 58 11) (SF : sfR T) (rb : rmB T) (hn : 0 ≤ nn ∧ nn ≤ 100) : ∀ (F : Nat) (S : WkS) (k s a : Int) (h : mHp) (σ : Mem), goS F nn k s a S o e → wkI T S → (∃ m, Run T m (abS S) s (σ 58 57)) → mRel σ0 h σ s S → σ 58 65 = 1 → σ 58 67 = s → σ 58 68 = a → (0 ≤ s ∧ s ≤ 500) → (0 ≤ a ∧ a ≤ 1000) → (0 ≤ k ∧ k ≤ nn) → ∃ h' σ', Lh (d + 7) yMo_run 27 [(0, .ref 58), (1, vi nn), (2, vi k)] [] h σ (.inl (some (vi o.1))) h' σ' ∧ frRm h h' σ σ' ∧ (σ' 58 0 = σ 58 0 ∧ σ' 58 67 = o.2.1 ∧ σ' 58 68 = o.2.2) ∧ mEnd T σ0 h' σ' (σ 58 66) o.2.1 e := by
  intro F
  induction F with
  | zero => intro S k s a h σ G; exact G.elim
  | succ F ih =>
    intro S k s a h σ G I hr R e65 e67 e68 hs ha hk
    have gn : rg nn := by unfold rg; omega
    have gk : rg k := by unfold rg; omega
    have gk1 : rg (k + 1) := by unfold rg; omega
    by_cases h2 : S.1 = 2
    · unfold goS at G
      rw [if_pos h2] at G
      obtain ⟨m, hr⟩ := hr
      have due : isSt (σ 63 (σ 58 64)) ∧ (0 ≤ σ 58 64 ∧ σ 58 64 < σ 58 11) ∧ σ 58 11 ≤ 124 := by
        obtain ⟨mo, N, cx, ρ, vs, fs⟩ := S
        have h2 : mo = 2 := h2
        subst h2
        obtain ⟨we, ww, w8, w12⟩ : isE N ∧ wf N ∧ 8 ≤ (match N with | .tag k _ => k | _ => 0) ∧ (match N with | .tag k _ => k | _ => 0) ≠ 12 := by
          rcases I.1.1.1 with e | e | e
          · cases e.1
          · cases e
          · exact e.2
        obtain ⟨kk, z, A, B, C, rfl, hkk⟩ := isE_nd we ww
        have w8 : 8 ≤ kk := w8
        have w12 : kk ≠ 12 := w12
        exact R.due (by omega)
      obtain ⟨is, pp, p2⟩ := due
      by_cases q1 : nn ≤ k
      · rw [if_pos q1] at G
        obtain ⟨rfl, rfl⟩ := G
        exact ⟨h, σ, L_stop gn gk e65 (by omega) is pp p2, frRm.rf, ⟨rfl, e67, e68⟩, ⟨R, e65, rfl⟩, I, ⟨m, hr⟩, h2⟩
      rw [if_neg q1] at G
      by_cases q2 : 500 ≤ s ∨ 1000 ≤ a
      · rw [if_pos q2] at G
        obtain ⟨rfl, rfl⟩ := G
        have F4 := r_mfail (d := d + 5) (h := h) (σ := σ) (c := 4) (rgk rfl)
        refine ⟨h, mup (mup σ 58 65 3) 58 66 4, L_due gn gk e65 (by omega) is pp p2 e67 e68 hs ha (Or.inl ⟨by omega, _, _, F4, L_end gn gk ((mup_nk (by decide)).trans mup_eq) (rgk rfl) (by decide)⟩), (frRm.m8 (by omega)).tr (frRm.m8 (by omega)), ⟨?_, ?_, ?_⟩, (mup_nk (by decide)).trans mup_eq, mup_eq⟩
        · rw [mup_nk (by decide), mup_nk (by decide)]
        · rw [mup_nk (by decide), mup_nk (by decide)]; exact e67
        · rw [mup_nk (by decide), mup_nk (by decide)]; exact e68
      rw [if_neg q2] at G
      have R1 : mRel σ0 h (mup (mup σ 58 67 (s + 1)) 58 68 (a + 1)) s S := (R.ct (Or.inl rfl)).ct (Or.inr rfl)
      have f0 : frRm h h σ (mup (mup σ 58 67 (s + 1)) 58 68 (a + 1)) := (frRm.m8 (by omega)).tr (frRm.m8 (by omega))
      have u : ∀ k : Int, k ≠ 67 → k ≠ 68 → (mup (mup σ 58 67 (s + 1)) 58 68 (a + 1)) 58 k = σ 58 k := fun k a b => by rw [mup_nk b, mup_nk a]
      have u67 : (mup (mup σ 58 67 (s + 1)) 58 68 (a + 1)) 58 67 = s + 1 := (mup_nk (by decide)).trans mup_eq
      have u68 : (mup (mup σ 58 67 (s + 1)) 58 68 (a + 1)) 58 68 = a + 1 := mup_eq
      have u57 := u 57 (by decide) (by decide)
      cases hm : wkS S with
      | none => rw [hm] at G; exact G.elim
      | some os =>
        rw [hm] at G
        obtain ⟨⟨h1, σ1, n, h', σ', X, N, nz, w⟩, -⟩ := ms_all (d := d) SF rb R1 I (by rw [u57]; exact hr) h2 ⟨hs.1, by omega⟩ hm
        have nz : n = 0 ∨ σ1 58 65 = 1 := by rw [u 65 (by decide) (by decide), e65] at nz; exact nz
        have pre : ∀ {r : mRes} {h3 : mHp} {σ3 : Mem}, Lh (d + 7) yMo_run 27 [(0, .ref 58), (1, vi nn), (2, vi (k + 1))] [] h' σ' r h3 σ3 → Lh (d + 7) yMo_run 27 [(0, .ref 58), (1, vi nn), (2, vi k)] [] h σ r h3 σ3 := fun L => L_due gn gk e65 (by omega) is pp p2 e67 e68 hs ha (Or.inr ⟨⟨by omega, by omega⟩, h1, σ1, X, gk1, L_nsN gn gk1 nz N L⟩)
        cases os with
        | inr c =>
          obtain ⟨rfl, rfl⟩ := G
          obtain ⟨f, w65, w66⟩ := w
          exact ⟨h', σ', pre (L_end gn gk1 w65 (rgk rfl) (by decide)), f0.tr f.rm, ⟨(f.2.2.2.2 0 (by decide) (by decide) (by decide) (by decide) (by decide) (by decide) (by decide) (by decide) (by decide)).trans (u 0 (by decide) (by decide)), (f.2.2.2.2 67 (by decide) (by decide) (by decide) (by decide) (by decide) (by decide) (by decide) (by decide) (by decide)).trans u67, (f.2.2.2.2 68 (by decide) (by decide) (by decide) (by decide) (by decide) (by decide) (by decide) (by decide) (by decide)).trans u68⟩, w65, w66⟩
        | inl S' =>
          obtain ⟨f, w⟩ := w
          have v0 := (f.2.2.2.2 0 (by decide) (by decide) (by decide) (by decide) (by decide) (by decide) (by decide) (by decide) (by decide)).trans (u 0 (by decide) (by decide))
          have v67 := (f.2.2.2.2 67 (by decide) (by decide) (by decide) (by decide) (by decide) (by decide) (by decide) (by decide) (by decide)).trans u67
          have v68 := (f.2.2.2.2 68 (by decide) (by decide) (by decide) (by decide) (by decide) (by decide) (by decide) (by decide) (by decide)).trans u68
          have G : if 200 < S'.2.2.2.2.1.length then o = (k + 1, s + 1, a + 1) ∧ e = .inr (.inr 5) else goS F nn (k + 1) (s + 1) (a + 1) S' o e := G
          by_cases hl : 200 < S'.2.2.2.2.1.length
          · rw [if_pos hl] at G
            obtain ⟨rfl, rfl⟩ := G
            obtain ⟨w65, w66⟩ : σ' 58 65 = 3 ∧ σ' 58 66 = 5 := by
              rcases w with w | w
              · exact w.2
              · exact absurd hl (by omega)
            exact ⟨h', σ', pre (L_end gn gk1 w65 (rgk rfl) (by decide)), f0.tr f.rm, ⟨v0, v67, v68⟩, w65, w66⟩
          · rw [if_neg hl] at G
            obtain ⟨-, R2, w57, w65, w66⟩ : S'.2.2.2.2.1.length ≤ 200 ∧ mRel σ0 h' σ' (s + 1) S' ∧ σ' 58 57 = (mup (mup σ 58 67 (s + 1)) 58 68 (a + 1)) 58 57 + (wkB S : Nat) ∧ σ' 58 65 = (mup (mup σ 58 67 (s + 1)) 58 68 (a + 1)) 58 65 ∧ σ' 58 66 = (mup (mup σ 58 67 (s + 1)) 58 68 (a + 1)) 58 66 := by
              rcases w with w | w
              · exact absurd w.1 hl
              · exact w
            have hr2 : ∃ m, Run T m (abS S') (s + 1) (σ' 58 57) := ⟨m + 1, _, _, _, hr, Or.inr ⟨wkB S, wk_spB hm, rfl, by rw [w57, u57]⟩⟩
            obtain ⟨h3, σ3, L, f3, ⟨x0, x67, x68⟩, E⟩ := ih S' (k + 1) (s + 1) (a + 1) h' σ' G (I.sp hm) hr2 R2 (w65.trans ((u 65 (by decide) (by decide)).trans e65)) v67 v68 (by omega) (by omega) (by omega)
            rw [w66, u 66 (by decide) (by decide)] at E
            exact ⟨h3, σ3, pre L, (f0.tr f.rm).tr f3, ⟨x0.trans v0, x67, x68⟩, E⟩
    · rcases I.nx h2 with ⟨ρ', vs', rfl⟩ | ⟨S', hm⟩
      · -- worked out
        obtain ⟨m, hr⟩ := hr
        have one : ∃ v, vs' = [v] := by
          rcases SF hr with ⟨v, e⟩ | e
          · cases e; exact ⟨v, rfl⟩
          · exact e
        obtain ⟨v, rfl⟩ := one
        unfold goS at G
        rw [if_neg h2] at G
        obtain ⟨rfl, rfl⟩ : o = (k, s, a) ∧ e = .inr (.inl v) := G
        obtain ⟨hl, q, e51, ps, vt⟩ := R
        unfold psM at ps
        rw [if_neg (by decide), if_pos rfl] at ps
        have ps : σ 58 64 = σ0 58 11 := ps
        rw [if_neg (by decide), if_pos rfl] at vt
        obtain ⟨⟨y, ey, ry⟩, -⟩ := vt
        have ey : hAt h 89 0 = vlg y := ey
        have ry : RMv h σ (pfM σ0) (mOf σ) v false y := ry
        obtain ⟨⟨pg, p124⟩, ⟨bo, -⟩, -⟩ := q
        have e11 : σ 58 11 = σ0 58 11 := pg.2
        have rf : ∀ x : Int, x ≤ x := fun x => Int.le_refl x
        have h11 : 0 ≤ σ 58 11 := by omega
        refine ⟨_, _, L_fin gn gk e65 (ps.trans e11.symm) ⟨h11, by omega⟩ ey, frRm.s69.tr ((frRm.m8 (by omega)).tr (frRm.m8 (by omega))), ⟨?_, ?_, ?_⟩, ⟨⟨y, (at_ne (by decide) _).trans ey, at_eq, ?_⟩, ?_, ?_⟩, ?_, ?_, mup_eq⟩
        · rw [mup_nk (by decide), mup_nk (by decide)]
        · rw [mup_nk (by decide), mup_nk (by decide)]; exact e67
        · rw [mup_nk (by decide), mup_nk (by decide)]; exact e68
        · have me : mOf (mup (mup σ 58 65 2) 58 70 0) = mOf σ := by
            unfold mOf
            rw [mup_nk (by decide), mup_nk (by decide), mup_nk (by decide), mup_nk (by decide), mup_nk (by decide), mup_nk (by decide)]
          rw [me]
          exact ry.mv ⟨fun _ _ _ => ⟨at_ne (by decide) _, at_ne (by decide) _⟩, fun _ _ _ => at_ne (by decide) _, fun _ _ _ => ⟨at_ne (by decide) _, by rw [mup_ne (by decide), mup_ne (by decide)]⟩⟩ (rf _) (rf _) (rf _)
        · have me : mOf (mup (mup σ 58 65 2) 58 70 0) = mOf σ := by
            unfold mOf
            rw [mup_nk (by decide), mup_nk (by decide), mup_nk (by decide), mup_nk (by decide), mup_nk (by decide), mup_nk (by decide)]
          rw [me]; exact bo
        · exact ⟨fun i hi => by rw [mup_obj (by omega), mup_obj (by omega)]; exact pg.1 i hi, by rw [mup_nk (by decide), mup_nk (by decide)]; exact pg.2⟩
        · rw [mup_nk (by decide), mup_eq]
        · rw [mup_nk (by decide), mup_nk (by decide)]
      · obtain ⟨n, h', σ', N, f, w⟩ := mm_all (d := d) M0 R I hs.2 hm
        have v0 := f.2.2.2.2 0 (by decide) (by decide) (by decide) (by decide) (by decide) (by decide) (by decide) (by decide) (by decide)
        have v67 := (f.2.2.2.2 67 (by decide) (by decide) (by decide) (by decide) (by decide) (by decide) (by decide) (by decide) (by decide)).trans e67
        have v68 := (f.2.2.2.2 68 (by decide) (by decide) (by decide) (by decide) (by decide) (by decide) (by decide) (by decide) (by decide)).trans e68
        have G : if 200 < S'.2.2.2.2.1.length then o = (k, s, a) ∧ e = .inr (.inr 5) else goS F nn k s a S' o e := by
          unfold goS at G
          rw [if_neg h2] at G
          split at G
          · cases hm
          · rw [hm] at G; exact G
        by_cases hl : 200 < S'.2.2.2.2.1.length
        · rw [if_pos hl] at G
          obtain ⟨rfl, rfl⟩ := G
          obtain ⟨w65, w66⟩ : σ' 58 65 = 3 ∧ σ' 58 66 = 5 := by
            rcases w with w | w
            · exact w.2
            · exact absurd hl (by omega)
          exact ⟨h', σ', L_nsN gn gk (Or.inr e65) N (L_end gn gk w65 (rgk rfl) (by decide)), f.rm, ⟨v0, v67, v68⟩, w65, w66⟩
        · rw [if_neg hl] at G
          obtain ⟨-, R2, w57, w65, w66⟩ : S'.2.2.2.2.1.length ≤ 200 ∧ mRel σ0 h' σ' s S' ∧ σ' 58 57 = σ 58 57 + 0 ∧ σ' 58 65 = σ 58 65 ∧ σ' 58 66 = σ 58 66 := by
            rcases w with w | w
            · exact absurd w.1 hl
            · exact w
          obtain ⟨m, hr⟩ := hr
          have hr2 : ∃ m, Run T m (abS S') s (σ' 58 57) := by
            rw [w57, Int.add_zero]; exact hr.mv I.1 hm
          obtain ⟨h3, σ3, L, f3, ⟨x0, x67, x68⟩, E⟩ := ih S' k s a h' σ' G (I.mv hm) hr2 R2 (w65.trans e65) v67 v68 hs ha hk
          rw [w66] at E
          exact ⟨h3, σ3, L_nsN gn gk (Or.inr e65) N L, f.rm.tr f3, ⟨x0.trans v0, x67, x68⟩, E⟩
end MRUN
