/-! D2: a step; where no function's path binds much but by branches that are never taken. -/
def QB (A : Tr) : Prop := ndq A 0 ≤ 15
section PTS
variable {Q : Tr → Prop}
theorem sp_S {st st' : AS} {b : Nat} (h : spA st = some (.inl (st', b))) (J : allS Q st) : allS Q st' := by
  obtain ⟨a1, a2, a3, a4⟩ := J
  unfold spA at h
  split at h
  · next k z A B C w ρ vs fs =>
    have hT : allL Q (nd k z A B C) := a1 _ (List.mem_cons_self ..)
    obtain ⟨-, hA, hB, hC⟩ := allL_nd hT
    have hw : ∀ i ∈ w, allL Q i.2 := fun i hi => a1 i (List.mem_cons_of_mem _ hi)
    split at h
    · cases h
      refine ⟨hw, a2, fun v hv => ?_, a4⟩
      rcases List.mem_cons.mp hv with e | e
      · rw [e]; exact ⟨(fun h => by cases h), trivial⟩
      · exact a3 v (List.mem_cons_of_mem _ e)
    · next y x vs' =>
      split at h
      · next v hv =>
        cases h
        obtain ⟨j, q, hj, rfl⟩ := opV_v hv
        refine ⟨hw, a2, fun v hv => ?_, a4⟩
        rcases List.mem_cons.mp hv with e | e
        · rw [e]; exact allL_at hj
        · exact a3 v (List.mem_cons_of_mem _ (List.mem_cons_of_mem _ e))
      · cases h
    · next y x vs' =>
      cases h
      refine ⟨hw, a2, fun v hv => ?_, a4⟩
      rcases List.mem_cons.mp hv with e | e
      · rw [e]; exact ⟨a3 x (List.mem_cons_of_mem _ (List.mem_cons_self ..)), a3 y (List.mem_cons_self ..)⟩
      · exact a3 v (List.mem_cons_of_mem _ (List.mem_cons_of_mem _ e))
    · next x f vs' =>
      have hx : allL Q x := a3 x (List.mem_cons_self ..)
      have hf : allL Q f := a3 f (List.mem_cons_of_mem _ (List.mem_cons_self ..))
      have hv' : ∀ v ∈ vs', allL Q v := fun v e => a3 v (List.mem_cons_of_mem _ (List.mem_cons_of_mem _ e))
      have fr : ∀ q ∈ (w, ρ) :: fs, (∀ i ∈ q.1, allL Q i.2) ∧ allL Q q.2 := fun q hq => by
        rcases List.mem_cons.mp hq with e | e
        · rw [e]; exact ⟨hw, a2⟩
        · exact a4 q e
      split at h
      · cases h
        refine ⟨hw, a2, fun v hv => ?_, a4⟩
        rcases List.mem_cons.mp hv with e | e
        · rw [e]
          split
          · exact allL_at (by decide)
          · exact allL_at (by decide)
        · exact hv' v e
      · next u y bb r ρ' =>
        cases h
        obtain ⟨-, ⟨-, hb, -⟩, hρ⟩ := hf
        refine ⟨fun i hi => ?_, ⟨hx, hρ⟩, hv', fr⟩
        rcases List.mem_cons.mp hi with e | e
        · rw [e]; exact hb
        · cases e
      · next u gn y bb r ρ' =>
        cases h
        have hf0 := hf
        obtain ⟨-, ⟨-, hb, -⟩, hρ⟩ := hf
        refine ⟨fun i hi => ?_, ⟨hx, hf0, hρ⟩, hv', fr⟩
        rcases List.mem_cons.mp hi with e | e
        · rw [e]; exact hb
        · cases e
      · cases h
    · next v vs' =>
      cases h
      refine ⟨fun i hi => ?_, ⟨a3 v (List.mem_cons_self ..), a2⟩, fun v e => a3 v (List.mem_cons_of_mem _ e), a4⟩
      rcases List.mem_cons.mp hi with e | hi
      · rw [e]; exact hB
      rcases List.mem_cons.mp hi with e | hi
      · rw [e]; exact hT
      · exact hw i hi
    · next v vs' =>
      have hv : allL Q v := a3 v (List.mem_cons_self ..)
      split at h
      · next u lam ρ' =>
        cases h
        refine ⟨fun i hi => ?_, ⟨⟨(fun h => by cases h), hv.2⟩, a2⟩, fun v e => a3 v (List.mem_cons_of_mem _ e), a4⟩
        rcases List.mem_cons.mp hi with e | hi
        · rw [e]; exact hB
        rcases List.mem_cons.mp hi with e | hi
        · rw [e]; exact hT
        · exact hw i hi
      · cases h
    · next v vs' =>
      cases h
      refine ⟨fun i hi => ?_, a2, fun v e => a3 v (List.mem_cons_of_mem _ e), a4⟩
      rcases List.mem_cons.mp hi with e | hi
      · rw [e]
        show allL Q (if toI v = 1 then B else C)
        split
        · exact hB
        · exact hC
      · exact hw i hi
    · next v vs' =>
      split at h
      · next E br ρ' he =>
        cases h
        obtain ⟨r1, r2, r3⟩ := br_S he hB (a3 v (List.mem_cons_self ..)) a2
        refine ⟨fun i hi => ?_, r3, fun v e => a3 v (List.mem_cons_of_mem _ e), a4⟩
        rcases List.mem_cons.mp hi with e | hi
        · rw [e]; exact r1
        rcases List.mem_cons.mp hi with e | hi
        · rw [e]; exact r2
        · exact hw i hi
      · cases h
    · cases h
  · cases h
theorem sp_P {w w' : Wl} {ρ ρ' : En} {vs vs' : List Va} {fs fs' : List (Wl × En)} {b : Nat} (h : spA (w, ρ, vs, fs) = some (.inl ((w', ρ', vs', fs'), b))) (J : allS QB (w, ρ, vs, fs)) (hb : fs ≠ [] → b ≤ 16) : pot w' fs' + 2 * (b : Int) ≤ pot w fs + 17 := by
  have up : ∀ {u u' : Wl}, wN u' + 2 * (b : Int) ≤ wN u + 17 → (b ≤ 16 → wQ u' + 2 * (b : Int) ≤ wQ u + 17) → pot u' fs + 2 * (b : Int) ≤ pot u fs + 17 := fun {u u'} p q => by
    cases fs with
    | nil => exact p
    | cons f gs =>
      have := q (hb (by intro e; cases e))
      show wQ u' + pot f.1 gs + 2 * (b : Int) ≤ wQ u + pot f.1 gs + 17
      omega
  obtain ⟨a1, a2, a3, a4⟩ := J
  unfold spA at h
  split at h
  · next k z A B C w1 ρ1 vs1 fs1 e0 =>
    cases e0
    have g1 := wN_ge (w := w1)
    have g2 := wQ_ge (w := w1)
    split at h
    · cases h
      refine up ?_ (fun _ => ?_)
      · show wN w' + 2 * ((0 : Nat) : Int) ≤ max 0 (wN w' - 17) + 17; omega
      · show wQ w' + 2 * ((0 : Nat) : Int) ≤ max 0 (wQ w' - 17) + 17; omega
    · split at h
      · cases h
        refine up ?_ (fun _ => ?_)
        · show wN w' + 2 * ((0 : Nat) : Int) ≤ max 0 (wN w' - 17) + 17; omega
        · show wQ w' + 2 * ((0 : Nat) : Int) ≤ max 0 (wQ w' - 17) + 17; omega
      · cases h
    · cases h
      refine up ?_ (fun _ => ?_)
      · show wN w' + 2 * ((0 : Nat) : Int) ≤ max 0 (wN w' - 17) + 17; omega
      · show wQ w' + 2 * ((0 : Nat) : Int) ≤ max 0 (wQ w' - 17) + 17; omega
    · next x f vs2 =>
      have hf : allL QB f := a3 f (List.mem_cons_of_mem _ (List.mem_cons_self ..))
      have call : ∀ {bb : Tr}, ndq bb 0 ≤ 15 → pot [(0, bb)] ((w1, ρ) :: fs) + 2 * ((1 : Nat) : Int) ≤ pot ((1, nd 11 z A B C) :: w1) fs + 17 := fun {bb} hq => by
        have e : pot ((1, nd 11 z A B C) :: w1) fs = pot w1 fs := by
          cases fs with
          | nil => rfl
          | cons f gs => rfl
        rw [e]
        show ndq bb 0 + pot w1 fs + 2 * ((1 : Nat) : Int) ≤ pot w1 fs + 17
        omega
      split at h
      · cases h
        refine up ?_ (fun _ => ?_)
        · show wN w' + 2 * ((0 : Nat) : Int) ≤ wN w' + 17; omega
        · show wQ w' + 2 * ((0 : Nat) : Int) ≤ wQ w' + 17; omega
      · next u y bb r ρ2 =>
        cases h
        obtain ⟨-, ⟨hq, -⟩, -⟩ := hf
        exact call (hq rfl _ _ _ rfl)
      · next u gn y bb r ρ2 =>
        cases h
        obtain ⟨-, ⟨hq, -⟩, -⟩ := hf
        exact call (hq rfl _ _ _ rfl)
      · cases h
    · cases h
      refine up ?_ (fun _ => ?_)
      · show ndk B (wN w1) + 2 * ((1 : Nat) : Int) ≤ max 0 (ndk B (wN w1) - 15) + 17; omega
      · show ndq B (wQ w1) + 2 * ((1 : Nat) : Int) ≤ max 0 (ndq B (wQ w1) - 15) + 17; omega
    · split at h
      · cases h
        refine up ?_ (fun _ => ?_)
        · show ndk B (wN w1) + 2 * ((1 : Nat) : Int) ≤ max 0 (ndk B (wN w1) - 15) + 17; omega
        · show ndq B (wQ w1) + 2 * ((1 : Nat) : Int) ≤ max 0 (ndq B (wQ w1) - 15) + 17; omega
      · cases h
    · next v vs2 =>
      cases h
      refine up ?_ (fun _ => ?_)
      · show ndk (if toI v = 1 then B else C) (wN w1) + 2 * ((0 : Nat) : Int) ≤ max 0 (max (ndk B (wN w1)) (ndk C (wN w1)) - 17) + 17
        split <;> omega
      · show ndq (if toI v = 1 then B else C) (wQ w1) + 2 * ((0 : Nat) : Int) ≤ max 0 (max (ndq B (wQ w1)) (ndq C (wQ w1)) - 17) + 17
        split <;> omega
    · next v vs2 =>
      split at h
      · next E br ρ2 he =>
        cases h
        have hT : allL QB (nd 16 z A B C) := a1 _ (List.mem_cons_self ..)
        obtain ⟨-, -, hB, -⟩ := allL_nd hT
        obtain ⟨-, -, -, r4⟩ := br_sp (k := wN w1) he hB (a3 v (List.mem_cons_self ..)) a2
        refine up ?_ (fun q => ?_)
        · show ndk E (wN w1) + 2 * (numB br : Int) ≤ ndk B (wN w1) + 17; omega
        · have r5 := br_q (k := wQ w1) he q
          show ndq E (wQ w1) + 2 * (numB br : Int) ≤ ndq B (wQ w1) + 17; omega
      · cases h
    · cases h
  · cases h
/-- where branches of 17 names and more are never taken in functions -/
theorem capB {T : Tr} (hT : allL QB T) (nb : nbF T) : ∀ (k : Nat) (st : AS) (n g : Int), Run T k st n g → allS QB st ∧ pot st.1 st.2.2.2 + 2 * g ≤ 17 * n + ndk T 0
  | 0, st, n, g, h => by
    obtain ⟨rfl, rfl, rfl⟩ := h
    refine ⟨⟨fun i hi => ?_, trivial, (fun v hv => by cases hv), (fun f hf => by cases hf)⟩, ?_⟩
    · rcases List.mem_cons.mp hi with e | e
      · rw [e]; exact hT
      · cases e
    · show ndk T 0 + 2 * 0 ≤ 17 * 0 + ndk T 0
      omega
  | k + 1, st, n, g, h => by
    obtain ⟨s0, n0, g0, h0, h⟩ := h
    obtain ⟨J, p⟩ := capB hT nb k s0 n0 g0 h0
    obtain ⟨w, ρ, vs, fs⟩ := s0
    obtain ⟨w', ρ', vs', fs'⟩ := st
    have p : pot w fs + 2 * g0 ≤ 17 * n0 + ndk T 0 := p
    show allS QB (w', ρ', vs', fs') ∧ pot w' fs' + 2 * g ≤ 17 * n + ndk T 0
    rcases h with ⟨h, rfl, rfl⟩ | ⟨b, h, rfl, rfl⟩
    · have := mv_P h
      exact ⟨mv_S h J, by omega⟩
    · have := sp_P h J (fun q => nb h0 h q)
      exact ⟨sp_S h J, by omega⟩
end PTS
