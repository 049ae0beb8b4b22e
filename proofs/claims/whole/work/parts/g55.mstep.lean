/-! The model's run: any step. -/
/-- names that may be bound for a while -/
def stMx : WkS → Nat
  | (2, .tag k (.nest _ (.append _ (.append B _))), _) => if k = 16 then brMx B else 0
  | _ => 0
/-- never too many bindings -/
def rmB (T : Tr) : Prop := ∀ (m : Nat) (S : WkS) (n g : Int), wkI T S → Run T m (abS S) n g → n ≤ 500 → g ≤ 4299 ∧ (n < 500 → g + (stMx S : Int) ≤ 4299)
section MSTP
variable {h h' h1 : mHp} {σ0 σ σ' σ1 : Mem} {d m : Nat} {p z s b y k u e r : Int} {A B C T : Tr} {ρ ρ' : En} {cx : Cx} {fs : List (Cx × En)} {vs : List Va} {v x : Va} {S S' : WkS}
/-- where a step is due, its instruction is next -/
theorem mRel.due {k : Nat} (R : mRel σ0 h σ s (2, nd k z A B C, cx, ρ, vs, fs)) (hk : k = 8 ∨ k = 9 ∨ k = 10 ∨ k = 11 ∨ k = 13 ∨ k = 14 ∨ k = 15 ∨ k = 16) : isSt (σ 63 (σ 58 64)) ∧ (0 ≤ σ 58 64 ∧ σ 58 64 < σ 58 11) ∧ σ 58 11 ≤ 124 := by
  obtain ⟨-, ⟨⟨pg, p124⟩, -⟩, -, ps, -⟩ := R
  unfold psM at ps
  rw [if_neg (by decide), if_neg (by decide)] at ps
  obtain ⟨a, ⟨⟨t, ic, -⟩, -, p0, p1⟩, pe, -⟩ := ps
  have a1 := ln_ge (T := A)
  have a2 := ln_ge (T := B)
  have a3 := ln_ge (T := C)
  have go : ∀ {i : Int}, isSt i → σ0 63 (a + stM k (ln A) (ln B)) = i → a + stM k (ln A) (ln B) < σ0 58 11 → 0 ≤ a + stM k (ln A) (ln B) → isSt (σ 63 (σ 58 64)) ∧ (0 ≤ σ 58 64 ∧ σ 58 64 < σ 58 11) ∧ σ 58 11 ≤ 124 := fun hi e hl h0 => by
    rw [pg.2, pe, pg.1 63 (by omega), e]
    exact ⟨hi, ⟨h0, hl⟩, p124⟩
  rcases hk with rfl | rfl | rfl | rfl | rfl | rfl | rfl | rfl
  · have p1 : a + (ln A + 1) ≤ σ0 58 11 := p1
    have e : a + stM 8 (ln A) (ln B) = a + ln A := rfl
    exact go (i := 9) (by unfold isSt; omega) (by rw [e]; exact ic.2.1) (by omega) (by omega)
  · have p1 : a + (ln A + ln B + 1) ≤ σ0 58 11 := p1
    have e : a + stM 9 (ln A) (ln B) = a + (ln A + ln B) := rfl
    exact go (i := 9) (by unfold isSt; omega) (by rw [e, ← Int.add_assoc]; exact ic.2.2.1) (by omega) (by omega)
  · have p1 : a + (ln A + ln B + 1) ≤ σ0 58 11 := p1
    have e : a + stM 10 (ln A) (ln B) = a + (ln A + ln B) := rfl
    exact go (i := 9) (by unfold isSt; omega) (by rw [e, ← Int.add_assoc]; exact ic.2.2.1) (by omega) (by omega)
  · have p1 : a + (ln A + ln B + 1) ≤ σ0 58 11 := p1
    have e : a + stM 11 (ln A) (ln B) = a + (ln A + ln B) := rfl
    exact go (i := 8) (by unfold isSt; omega) (by rw [e, ← Int.add_assoc]; exact ic.2.2.1) (by omega) (by omega)
  · have p1 : a + (ln A + ln B + 2) ≤ σ0 58 11 := p1
    have e : a + stM 13 (ln A) (ln B) = a + ln A := rfl
    exact go (i := 10) (by unfold isSt; omega) (by rw [e]; exact ic.2.1.1) (by omega) (by omega)
  · have p1 : a + (ln A + ln B + 3) ≤ σ0 58 11 := p1
    have e : a + stM 14 (ln A) (ln B) = a + (1 + ln A) := rfl
    have c : σ0 63 (a + ln A + 1) = 11 := ic.2.2.1.1
    exact go (i := 11) (by unfold isSt; omega) (by rw [e, show a + (1 + ln A) = a + ln A + 1 by omega]; exact c) (by omega) (by omega)
  · have p1 : a + (ln A + ln B + ln C + 3) ≤ σ0 58 11 := p1
    have e : a + stM 15 (ln A) (ln B) = a + ln A := rfl
    exact go (i := 13) (by unfold isSt; omega) (by rw [e]; exact ic.2.1.1) (by omega) (by omega)
  · have p1 : a + (ln A + ln B + 2) ≤ σ0 58 11 := p1
    have e : a + stM 16 (ln A) (ln B) = a + ln A := rfl
    exact go (i := 15) (by unfold isSt; omega) (by rw [e]; exact ic.2.1.1) (by omega) (by omega)
theorem ms_all (SF : sfR T) (rb : rmB T) (R : mRel σ0 h σ s S) (I : wkI T S) (hr : Run T m (abS S) s (σ 58 57)) (h2 : S.1 = 2) (hs : 0 ≤ s ∧ s + 1 ≤ 500) {o : WkS ⊕ Int} (hm : wkS S = some o) : (∃ h1 σ1 n h' σ', Rh (d + 7) yMo_execute [.ref 58] h σ (.inl none) h1 σ1 ∧ exN d n h1 σ1 h' σ' ∧ (n = 0 ∨ σ1 58 65 = σ 58 65) ∧ mOutS σ0 h σ (s + 1) (wkB S : Nat) h' σ' o) ∧ isSt (σ 63 (σ 58 64)) ∧ (0 ≤ σ 58 64 ∧ σ 58 64 < σ 58 11) ∧ σ 58 11 ≤ 124 := by
  have nx : ∀ {S'}, o = .inl S' → σ 58 57 + (wkB S : Nat) ≤ 4299 := fun {S'} e => by
    subst e
    exact (rb (m + 1) S' (s + 1) _ (I.sp hm) ⟨_, _, _, hr, Or.inr ⟨wkB S, wk_spB hm, rfl, rfl⟩⟩ (by omega)).1
  have cs := (rb m S s _ I hr (by omega)).2 (by omega)
  obtain ⟨mo, N, cx, ρ, vs, fs⟩ := S
  have h2 : mo = 2 := h2
  subst h2
  obtain ⟨W, ag, CC, -, -⟩ := I
  have h14 : hd14 cx = none := by
    have := CC.2.2
    rw [if_neg (by decide), if_neg (by decide)] at this
    exact this.1.2
  obtain ⟨we, ww, w8, w12⟩ : isE N ∧ wf N ∧ 8 ≤ (match N with | .tag k _ => k | _ => 0) ∧ (match N with | .tag k _ => k | _ => 0) ≠ 12 := by
    rcases W.1.1 with e | e | e
    · cases e.1
    · cases e
    · exact e.2
  have ok : OkA FP.Core.DFin (abS (2, N, cx, ρ, vs, fs)) := by
    rcases SF hr with ⟨v, e⟩ | e
    · cases e
    · exact e
  obtain ⟨k, z, A, B, C, rfl, hk⟩ := isE_nd we ww
  have w8 : 8 ≤ k := w8
  have w12 : k ≠ 12 := w12
  have ok : stOK FP.Core.DFin k z B vs := ok
  have hk : k = 8 ∨ k = 9 ∨ k = 10 ∨ k = 11 ∨ k = 13 ∨ k = 14 ∨ k = 15 ∨ k = 16 := by omega
  refine ⟨?_, R.due hk⟩
  have one : ∀ {b : Int} {o : WkS ⊕ Int}, (∃ h' σ', Rh (d + 7) yMo_execute [.ref 58] h σ (.inl none) h' σ' ∧ mOutS σ0 h σ (s + 1) b h' σ' o) → ∃ h1 σ1 n h' σ', Rh (d + 7) yMo_execute [.ref 58] h σ (.inl none) h1 σ1 ∧ exN d n h1 σ1 h' σ' ∧ (n = 0 ∨ σ1 58 65 = σ 58 65) ∧ mOutS σ0 h σ (s + 1) b h' σ' o := fun ⟨h', σ', X, w⟩ => ⟨h', σ', 0, h', σ', X, ⟨rfl, rfl⟩, Or.inl rfl, w⟩
  rcases hk with rfl | rfl | rfl | rfl | rfl | rfl | rfl | rfl
  · obtain ⟨v, vs', rfl, kv⟩ := ok
    cases hm
    exact one (ms_neg R h14 kv hs.2)
  · have eb : wkB (2, nd 9 z A B C, cx, ρ, vs, fs) = 0 := rfl
    rw [eb]
    exact one (ms_op R W h14 ok hs.2 hm)
  · obtain ⟨x, y, vs', rfl, -⟩ := ok
    cases hm
    exact one (ms_cons R h14 hs.2)
  · refine one (ms_app R W h14 ok hs.2 ?_ hm)
    cases o with
    | inl S' => exact nx rfl
    | inr c =>
      exfalso
      obtain ⟨f, x, vs', rfl, hf, hx⟩ := ok
      rcases fv_cs hf with ⟨y, rfl, hy⟩ | ⟨y, bd, Rr, ρ2, rfl⟩ | ⟨gn, y, bd, Rr, ρ2, rfl⟩
      · cases hm
      · cases hm
      · cases hm
  · obtain ⟨v, vs', rfl⟩ := ok
    cases hm
    exact one (ms_let R (nx rfl))
  · obtain ⟨lm, ρ2, vs', rfl⟩ := ok
    cases hm
    exact one (ms_rec R (nx rfl))
  · obtain ⟨v, vs', rfl, kv⟩ := ok
    have e : wkS (2, nd 15 z A B C, cx, ρ, v :: vs', fs) = some (.inl (if toI v = 1 then (0, B, (2, nd 15 z A B C) :: cx, ρ, vs', fs) else (0, C, (3, nd 15 z A B C) :: cx, ρ, vs', fs))) := by
      unfold wkS
      simp only [nd]
      split <;> rfl
    rw [e] at hm
    cases hm
    exact one (ms_if R kv)
  · obtain ⟨v, vs', rfl, kv⟩ := ok
    have e : wkS (2, nd 16 z A B C, cx, ρ, v :: vs', fs) = some (brO cx vs' fs (brF B v ρ)) := by
      unfold wkS
      simp only [nd]
      cases brF B v ρ <;> rfl
    have eb : wkB (2, nd 16 z A B C, cx, ρ, v :: vs', fs) = brNm (brF B v ρ) := by
      show (match brF B v ρ with | some (_, br, _) => numB br | none => 0) = _
      cases brF B v ρ <;> rfl
    rw [e] at hm
    cases hm
    rw [eb]
    have cs : σ 58 57 + ((brMx B : Nat) : Int) ≤ 4299 := cs
    obtain ⟨h1, σ1, n, h', σ', X, N, e65, w⟩ := ms_case R W h14 kv cs
    exact ⟨h1, σ1, n, h', σ', X, N, Or.inr e65, w⟩
end MSTP
