/-! The potential holds: where no function's path binds much, a program binds at most 17 half names a step. -/
section CPA
def QA (A : Tr) : Prop := ndk A 0 ≤ 15
/-- what a move keeps -/
def Jv (T : Tr) (st : AS) (n g : Int) : Prop := allS QA st ∧ wN st.1 + fN st.2.2.2 ≤ 17 * n + ndk T 0 - 2 * g
theorem allL_lf {k : Nat} {z : Int} {T : Tr} {ρ : En} (hT : allL QA T) (hρ : allL QA ρ) : allL QA (lfV k z T ρ) := by
  unfold lfV
  split
  · exact ⟨(fun h => by cases h), trivial⟩
  split
  · exact ⟨(fun h => by cases h), trivial⟩
  split
  · exact ⟨(fun h => by cases h), trivial⟩
  split
  · exact ⟨(fun h => by cases h), trivial⟩
  split
  · exact ⟨(fun h => by cases h), trivial⟩
  split
  · exact allL_lkp hρ
  · exact ⟨(fun h => by cases h), hT, hρ⟩
theorem opV_v {z : Int} {a b v : Va} (h : opV z a b = .inl v) : ∃ (k : Nat) (x : Int), k ≤ 2 ∧ v = .tag k (.nest x .nil) := by
  unfold opV at h
  split at h
  · cases h; exact ⟨1, _, by decide, rfl⟩
  split at h
  · split at h
    · cases h
    split at h
    · cases h
    · cases h; exact ⟨2, _, by decide, rfl⟩
  split at h
  · cases h; exact ⟨1, _, by decide, rfl⟩
  split at h
  · cases h; exact ⟨1, _, by decide, rfl⟩
  split at h
  · cases h; exact ⟨0, _, by decide, rfl⟩
  split at h
  · cases h; exact ⟨0, _, by decide, rfl⟩
  split at h
  · cases h; exact ⟨0, _, by decide, rfl⟩
  split at h
  · cases h
  · cases h; exact ⟨0, _, by decide, rfl⟩
theorem allL_at {Q : Tr → Prop} {k : Nat} {x : Int} (h : k ≤ 2) : allL Q (.tag k (.nest x .nil)) := ⟨fun e => absurd e (by omega), trivial⟩
theorem mv_J {T : Tr} {st st' : AS} {n g : Int} (h : mvA st = some st') (J : Jv T st n g) : Jv T st' n g := by
  obtain ⟨⟨a1, a2, a3, a4⟩, p⟩ := J
  unfold mvA at h
  split at h
  · next k z A B C w ρ vs fs =>
    have hT : allL QA (nd k z A B C) := a1 _ (List.mem_cons_self ..)
    obtain ⟨-, hA, hB, hC⟩ := allL_nd hT
    have hw : ∀ i ∈ w, allL QA i.2 := fun i hi => a1 i (List.mem_cons_of_mem _ hi)
    have p : ndk (nd k z A B C) (wN w) + fN fs ≤ 17 * n + ndk T 0 - 2 * g := p
    split at h
    · next hk =>
      cases h
      refine ⟨⟨hw, a2, fun v hv => ?_, a4⟩, ?_⟩
      · rcases List.mem_cons.mp hv with e | e
        · rw [e]; exact allL_lf hT a2
        · exact a3 v e
      · show wN w + fN fs ≤ _
        have e : ndk (nd k z A B C) (wN w) = wN w := by
          rcases hk with hk | hk
          · match k, hk with
            | 0, _ => rfl
            | 1, _ => rfl
            | 2, _ => rfl
            | 3, _ => rfl
            | 4, _ => rfl
            | 5, _ => rfl
          · subst hk; rfl
        rw [e] at p; exact p
    · split at h
      · next hk =>
        cases h
        refine ⟨⟨fun i hi => ?_, a2, a3, a4⟩, ?_⟩
        · rcases List.mem_cons.mp hi with e | hi
          · rw [e]; exact hA
          rcases List.mem_cons.mp hi with e | hi
          · rw [e]; exact hB
          rcases List.mem_cons.mp hi with e | hi
          · rw [e]; exact hT
          · exact hw i hi
        · rcases hk with rfl | rfl | rfl
          · exact p
          · exact p
          · exact p
      · split at h
        · next hk =>
          cases h
          refine ⟨⟨fun i hi => ?_, a2, a3, a4⟩, ?_⟩
          · rcases List.mem_cons.mp hi with e | hi
            · rw [e]; exact hA
            rcases List.mem_cons.mp hi with e | hi
            · rw [e]; exact hT
            · exact hw i hi
          · rcases hk with rfl | rfl | rfl | rfl | rfl
            · exact p
            · exact p
            · exact p
            · exact p
            · exact p
        · cases h
  · next t w ρ vs fs =>
    cases h
    exact ⟨⟨fun i hi => a1 i (List.mem_cons_of_mem _ hi), allL_drp a2, a3, a4⟩, p⟩
  · next ρ vs w ρ' fs =>
    cases h
    obtain ⟨b1, b2⟩ := a4 _ (List.mem_cons_self ..)
    have p : 0 + (wN w + fN fs) ≤ 17 * n + ndk T 0 - 2 * g := p
    exact ⟨⟨b1, b2, a3, fun f hf => a4 f (List.mem_cons_of_mem _ hf)⟩, by show wN w + fN fs ≤ _; omega⟩
  · cases h
theorem sp_J {T : Tr} {st st' : AS} {n g : Int} {b : Nat} (h : spA st = some (.inl (st', b))) (J : Jv T st n g) : Jv T st' (n + 1) (g + b) := by
  obtain ⟨⟨a1, a2, a3, a4⟩, p⟩ := J
  unfold spA at h
  split at h
  · next k z A B C w ρ vs fs =>
    have hT : allL QA (nd k z A B C) := a1 _ (List.mem_cons_self ..)
    obtain ⟨-, hA, hB, hC⟩ := allL_nd hT
    have hw : ∀ i ∈ w, allL QA i.2 := fun i hi => a1 i (List.mem_cons_of_mem _ hi)
    have p : ptI (1, nd k z A B C) (wN w) + fN fs ≤ 17 * n + ndk T 0 - 2 * g := p
    have gw := wN_ge (w := w)
    have gf := fN_ge (fs := fs)
    split at h
    · cases h
      refine ⟨⟨hw, a2, fun v hv => ?_, a4⟩, ?_⟩
      · rcases List.mem_cons.mp hv with e | e
        · rw [e]; exact ⟨(fun h => by cases h), trivial⟩
        · exact a3 v (List.mem_cons_of_mem _ e)
      · have p : max 0 (wN w - 17) + fN fs ≤ 17 * n + ndk T 0 - 2 * g := p
        show wN w + fN fs ≤ 17 * (n + 1) + ndk T 0 - 2 * (g + (0 : Nat))
        omega
    · next y x vs' _ =>
      have p : max 0 (wN w - 17) + fN fs ≤ 17 * n + ndk T 0 - 2 * g := p
      split at h
      · next v hv =>
        cases h
        obtain ⟨j, q, hj, rfl⟩ := opV_v hv
        refine ⟨⟨hw, a2, fun v hv => ?_, a4⟩, ?_⟩
        · rcases List.mem_cons.mp hv with e | e
          · rw [e]; exact allL_at hj
          · exact a3 v (List.mem_cons_of_mem _ (List.mem_cons_of_mem _ e))
        · show wN w + fN fs ≤ 17 * (n + 1) + ndk T 0 - 2 * (g + (0 : Nat))
          omega
      · cases h
    · next y x vs' _ =>
      cases h
      have p : max 0 (wN w - 17) + fN fs ≤ 17 * n + ndk T 0 - 2 * g := p
      refine ⟨⟨hw, a2, fun v hv => ?_, a4⟩, ?_⟩
      · rcases List.mem_cons.mp hv with e | e
        · rw [e]; exact ⟨a3 x (List.mem_cons_of_mem _ (List.mem_cons_self ..)), a3 y (List.mem_cons_self ..)⟩
        · exact a3 v (List.mem_cons_of_mem _ (List.mem_cons_of_mem _ e))
      · show wN w + fN fs ≤ 17 * (n + 1) + ndk T 0 - 2 * (g + (0 : Nat))
        omega
    · next x f vs' _ =>
      have p : wN w + fN fs ≤ 17 * n + ndk T 0 - 2 * g := p
      have hx : allL QA x := a3 x (List.mem_cons_self ..)
      have hf : allL QA f := a3 f (List.mem_cons_of_mem _ (List.mem_cons_self ..))
      have hv' : ∀ v ∈ vs', allL QA v := fun v e => a3 v (List.mem_cons_of_mem _ (List.mem_cons_of_mem _ e))
      have fr : ∀ q ∈ (w, ρ) :: fs, (∀ i ∈ q.1, allL QA i.2) ∧ allL QA q.2 := fun q hq => by
        rcases List.mem_cons.mp hq with e | e
        · rw [e]; exact ⟨hw, a2⟩
        · exact a4 q e
      split at h
      · cases h
        refine ⟨⟨hw, a2, fun v hv => ?_, a4⟩, ?_⟩
        · rcases List.mem_cons.mp hv with e | e
          · rw [e]
            split
            · exact allL_at (by decide)
            · exact allL_at (by decide)
          · exact hv' v e
        · show wN w + fN fs ≤ 17 * (n + 1) + ndk T 0 - 2 * (g + (0 : Nat))
          omega
      · next u y bb r ρ' =>
        cases h
        obtain ⟨-, ⟨hq, hb, -⟩, hρ⟩ := hf
        have hq : QA bb := hq rfl _ _ _ rfl
        refine ⟨⟨fun i hi => ?_, ⟨hx, hρ⟩, hv', fr⟩, ?_⟩
        · rcases List.mem_cons.mp hi with e | e
          · rw [e]; exact hb
          · cases e
        · show ndk bb 0 + (wN w + fN fs) ≤ 17 * (n + 1) + ndk T 0 - 2 * (g + (1 : Nat))
          unfold QA at hq
          omega
      · next u gn y bb r ρ' =>
        cases h
        have hf0 := hf
        obtain ⟨-, ⟨hq, hb, -⟩, hρ⟩ := hf
        have hq : QA bb := hq rfl _ _ _ rfl
        refine ⟨⟨fun i hi => ?_, ⟨hx, hf0, hρ⟩, hv', fr⟩, ?_⟩
        · rcases List.mem_cons.mp hi with e | e
          · rw [e]; exact hb
          · cases e
        · show ndk bb 0 + (wN w + fN fs) ≤ 17 * (n + 1) + ndk T 0 - 2 * (g + (1 : Nat))
          unfold QA at hq
          omega
      · cases h
    · next v vs' _ =>
      cases h
      have p : max 0 (ndk B (wN w) - 15) + fN fs ≤ 17 * n + ndk T 0 - 2 * g := p
      refine ⟨⟨fun i hi => ?_, ⟨a3 v (List.mem_cons_self ..), a2⟩, fun v e => a3 v (List.mem_cons_of_mem _ e), a4⟩, ?_⟩
      · rcases List.mem_cons.mp hi with e | hi
        · rw [e]; exact hB
        rcases List.mem_cons.mp hi with e | hi
        · rw [e]; exact hT
        · exact hw i hi
      · show ndk B (wN w) + fN fs ≤ 17 * (n + 1) + ndk T 0 - 2 * (g + (1 : Nat))
        omega
    · next v vs' _ =>
      have p : max 0 (ndk B (wN w) - 15) + fN fs ≤ 17 * n + ndk T 0 - 2 * g := p
      have hv : allL QA v := a3 v (List.mem_cons_self ..)
      split at h
      · next u lam ρ' =>
        cases h
        refine ⟨⟨fun i hi => ?_, ⟨⟨(fun h => by cases h), hv.2⟩, a2⟩, fun v e => a3 v (List.mem_cons_of_mem _ e), a4⟩, ?_⟩
        · rcases List.mem_cons.mp hi with e | hi
          · rw [e]; exact hB
          rcases List.mem_cons.mp hi with e | hi
          · rw [e]; exact hT
          · exact hw i hi
        · show ndk B (wN w) + fN fs ≤ 17 * (n + 1) + ndk T 0 - 2 * (g + (1 : Nat))
          omega
      · cases h
    · next v vs' _ =>
      cases h
      have p : max 0 (max (ndk B (wN w)) (ndk C (wN w)) - 17) + fN fs ≤ 17 * n + ndk T 0 - 2 * g := p
      refine ⟨⟨fun i hi => ?_, a2, fun v e => a3 v (List.mem_cons_of_mem _ e), a4⟩, ?_⟩
      · rcases List.mem_cons.mp hi with e | hi
        · rw [e]
          show allL QA (if toI v = 1 then B else C)
          split
          · exact hB
          · exact hC
        · exact hw i hi
      · show ndk (if toI v = 1 then B else C) (wN w) + fN fs ≤ 17 * (n + 1) + ndk T 0 - 2 * (g + (0 : Nat))
        split <;> omega
    · next v vs' _ =>
      have p : ndk B (wN w) + fN fs ≤ 17 * n + ndk T 0 - 2 * g := p
      split at h
      · next E br ρ' he =>
        cases h
        obtain ⟨r1, r2, r3, r4⟩ := br_sp (k := wN w) he hB (a3 v (List.mem_cons_self ..)) a2
        refine ⟨⟨fun i hi => ?_, r3, fun v e => a3 v (List.mem_cons_of_mem _ e), a4⟩, ?_⟩
        · rcases List.mem_cons.mp hi with e | hi
          · rw [e]; exact r1
          rcases List.mem_cons.mp hi with e | hi
          · rw [e]; exact r2
          · exact hw i hi
        · show ndk E (wN w) + fN fs ≤ 17 * (n + 1) + ndk T 0 - 2 * (g + (numB br : Nat))
          omega
      · cases h
    · cases h
  · cases h
/-- where no function's path binds much -/
theorem capA {T : Tr} (hT : allL QA T) : ∀ (k : Nat) (st : AS) (n g : Int), Run T k st n g → Jv T st n g
  | 0, st, n, g, h => by
    obtain ⟨rfl, rfl, rfl⟩ := h
    refine ⟨⟨fun i hi => ?_, trivial, (fun v hv => by cases hv), (fun f hf => by cases hf)⟩, ?_⟩
    · rcases List.mem_cons.mp hi with e | e
      · rw [e]; exact hT
      · cases e
    · show ndk T 0 + 0 ≤ 17 * 0 + ndk T 0 - 2 * 0
      omega
  | k + 1, st, n, g, h => by
    obtain ⟨s0, n0, g0, h0, h⟩ := h
    have J := capA hT k s0 n0 g0 h0
    rcases h with ⟨h, rfl, rfl⟩ | ⟨b, h, rfl, rfl⟩
    · exact mv_J h J
    · exact sp_J h J
end CPA
