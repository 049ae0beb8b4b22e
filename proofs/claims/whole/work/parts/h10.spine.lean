/-! No list is longer than there were CONS steps. -/
def kI (j : Nat) : Tr → Int
  | .tag k _ => if k = j then 1 else 0
  | _ => 0
/-- how long a list is -/
def spn : Va → Nat
  | .append _ b => 1 + spn b
  | _ => 0
/-- the longest list in a value, or in what is bound; a list within a list counts one more -/
def mxl : Std.Format → Nat
  | .append a b => max (1 + mxl a) (max (mxl b) (1 + spn b))
  | .nest _ (.append v ρ) => max (mxl v) (mxl ρ)
  | .tag 5 (.append _ ρ) => mxl ρ
  | .tag 6 (.nest _ (.append _ ρ)) => mxl ρ
  | _ => 0
def mxS (c : Int) (st : AS) : Prop := (mxl st.2.1 : Int) ≤ c ∧ (∀ v ∈ st.2.2.1, (mxl v : Int) ≤ c) ∧ ∀ f ∈ st.2.2.2, (mxl f.2 : Int) ≤ c
section SPN
variable {f : Tr → Int} {T : Tr}
theorem kI_ge {j : Nat} : ∀ N, 0 ≤ kI j N := by
  intro N
  unfold kI
  split
  · split <;> decide
  · decide
theorem spn_le : ∀ {v : Va}, spn v ≤ mxl v := by
  intro v
  unfold spn
  split
  · unfold mxl; omega
  · omega
theorem mxl_lkp {z : Int} : ∀ {ρ : En}, mxl (lkp z ρ) ≤ mxl ρ := by
  intro ρ
  fun_induction lkp z ρ with
  | case1 => show _ ≤ max _ _; omega
  | case2 => rename_i ih; show _ ≤ max _ _; omega
  | case3 => exact Nat.zero_le _
theorem mxl_drp : ∀ {n : Nat} {ρ : En}, mxl (drp n ρ) ≤ mxl ρ := by
  intro n ρ
  fun_induction drp n ρ with
  | case1 => omega
  | case2 => rename_i ih; show _ ≤ max _ _; omega
  | case3 => omega
theorem mxl_fit : ∀ {P : Tr} {v : Va} {ρ ρ' : En}, fitE P v ρ = some ρ' → mxl ρ' ≤ max (mxl v) (mxl ρ) := by
  intro P v ρ
  fun_induction fitE P v ρ with
  | case1 | case3 | case5 => intro ρ' h; cases h; omega
  | case2 | case4 | case6 => intro ρ' h; cases h
  | case7 => intro ρ' h; cases h; exact Nat.le_refl _
  | case8 => intro ρ' h; cases h; omega
  | case9 =>
    rename_i h1 i1 i2
    intro ρ' h
    have x := i1 h1
    have y := i2 h
    show _ ≤ max (max _ (max _ _)) _
    omega
  | case10 => intro ρ' h; cases h
  | case11 => intro ρ' h; cases h
  | case12 => intro ρ' h; cases h
  | case13 => intro ρ' h; cases h
theorem mxl_br : ∀ {B : Tr} {v : Va} {ρ : En} {E br : Tr} {ρ' : En}, brF B v ρ = some (E, br, ρ') → mxl ρ' ≤ max (mxl v) (mxl ρ) := by
  intro B v ρ
  fun_induction brF B v ρ with
  | case1 z P E C v ρ ρ1 h => intro E' br ρ' e; cases e; exact mxl_fit h
  | case2 z P E C v ρ h ih => intro E' br ρ' e; exact ih e
  | case3 => intro E' br ρ' e; cases e
theorem mxl_lf {k : Nat} {z : Int} {t : Tr} {ρ : En} : mxl (lfV k z t ρ) ≤ mxl ρ := by
  unfold lfV
  split
  · exact Nat.zero_le _
  split
  · exact Nat.zero_le _
  split
  · exact Nat.zero_le _
  split
  · exact Nat.zero_le _
  split
  · exact Nat.zero_le _
  split
  · exact mxl_lkp
  · exact Nat.le_refl _
theorem sl_mv {c : Int} {st st' : AS} (h : mvA st = some st') (J : mxS c st) : mxS c st' := by
  obtain ⟨j1, j2, j3⟩ := J
  unfold mvA at h
  split at h
  · next k z A B C w1 ρ1 vs1 fs1 =>
    split at h
    · cases h
      refine ⟨j1, fun v hv => ?_, j3⟩
      rcases List.mem_cons.mp hv with e | e
      · rw [e]
        have := mxl_lf (k := k) (z := z) (t := nd k z A B C) (ρ := ρ1)
        have : (mxl ρ1 : Int) ≤ c := j1
        omega
      · exact j2 v e
    · split at h
      · cases h; exact ⟨j1, j2, j3⟩
      · split at h
        · cases h; exact ⟨j1, j2, j3⟩
        · cases h
  · next t w1 ρ1 vs1 fs1 =>
    cases h
    have := mxl_drp (n := numB t) (ρ := ρ1)
    have : (mxl ρ1 : Int) ≤ c := j1
    exact ⟨by show (mxl (drp (numB t) ρ1) : Int) ≤ c; omega, j2, j3⟩
  · next ρ1 vs1 w1 ρ2 fs1 =>
    cases h
    exact ⟨j3 _ (List.mem_cons_self ..), j2, fun g hg => j3 g (List.mem_cons_of_mem _ hg)⟩
  · cases h
theorem sl_sp {c : Int} (hc : 0 ≤ c) {st st' : AS} {b : Nat} (h : spA st = some (.inl (st', b))) (J : mxS c st) : mxS (c + kI 10 (hdN st)) st' := by
  have hk := kI_ge (j := 10) (hdN st)
  obtain ⟨j1, j2, j3⟩ := J
  have j1' : (mxl st.2.1 : Int) ≤ c + kI 10 (hdN st) := by omega
  have j2' : ∀ v ∈ st.2.2.1, (mxl v : Int) ≤ c + kI 10 (hdN st) := fun v hv => by have := j2 v hv; omega
  have j3' : ∀ f ∈ st.2.2.2, (mxl f.2 : Int) ≤ c + kI 10 (hdN st) := fun v hv => by have := j3 v hv; omega
  unfold spA at h
  split at h
  · next k z A B C w1 ρ1 vs1 fs1 =>
    have z0 : ∀ {u : Va} {l : List Va}, mxl u = 0 → (∀ v ∈ l, (mxl v : Int) ≤ c + kI 10 (nd k z A B C)) → ∀ v ∈ u :: l, (mxl v : Int) ≤ c + kI 10 (nd k z A B C) := fun {u l} h1 h2 v hv => by
      rcases List.mem_cons.mp hv with e | e
      · rw [e, h1]
        have : 0 ≤ kI 10 (nd k z A B C) := kI_ge _
        omega
      · exact h2 v e
    split at h
    · cases h
      exact ⟨j1', z0 rfl (fun v hv => j2' v (List.mem_cons_of_mem _ hv)), j3'⟩
    · split at h
      · next v hv =>
        cases h
        obtain ⟨j, q, hj, rfl⟩ := opV_v hv
        refine ⟨j1', z0 ?_ (fun v hv => j2' v (List.mem_cons_of_mem _ (List.mem_cons_of_mem _ hv))), j3'⟩
        match j, hj with
        | 0, _ => rfl
        | 1, _ => rfl
        | 2, _ => rfl
      · cases h
    · next y x vs' =>
      cases h
      refine ⟨j1', fun v hv => ?_, j3'⟩
      rcases List.mem_cons.mp hv with e | e
      · rw [e]
        have a1 := j2 x (List.mem_cons_of_mem _ (List.mem_cons_self ..))
        have a2 := j2 y (List.mem_cons_self ..)
        have a3 := spn_le (v := y)
        show ((max (1 + mxl x) (max (mxl y) (1 + spn y)) : Nat) : Int) ≤ c + (if 10 = 10 then 1 else 0)
        rw [if_pos rfl]
        omega
      · exact j2' v (List.mem_cons_of_mem _ (List.mem_cons_of_mem _ e))
    · next x g vs' =>
      have hx := j2' x (List.mem_cons_self ..)
      have hg := j2' g (List.mem_cons_of_mem _ (List.mem_cons_self ..))
      have hv' : ∀ v ∈ vs', (mxl v : Int) ≤ c + kI 10 (nd 11 z A B C) := fun v e => j2' v (List.mem_cons_of_mem _ (List.mem_cons_of_mem _ e))
      have fr : ∀ q ∈ (w1, ρ1) :: fs1, (mxl q.2 : Int) ≤ c + kI 10 (nd 11 z A B C) := fun q hq => by
        rcases List.mem_cons.mp hq with e | e
        · rw [e]; exact j1'
        · exact j3' q e
      split at h
      · cases h
        refine ⟨j1', z0 ?_ hv', j3'⟩
        split <;> rfl
      · next u y bb r ρ2 =>
        cases h
        refine ⟨?_, hv', fr⟩
        have hg : (mxl ρ2 : Int) ≤ c + kI 10 (nd 11 z A B C) := hg
        have hx : (mxl x : Int) ≤ c + kI 10 (nd 11 z A B C) := hx
        show ((max (mxl x) (mxl ρ2) : Nat) : Int) ≤ c + kI 10 (nd 11 z A B C)
        omega
      · next u gn y bb r ρ2 =>
        cases h
        refine ⟨?_, hv', fr⟩
        have hg : (mxl ρ2 : Int) ≤ c + kI 10 (nd 11 z A B C) := hg
        have hx : (mxl x : Int) ≤ c + kI 10 (nd 11 z A B C) := hx
        show ((max (mxl x) (max (mxl ρ2) (mxl ρ2)) : Nat) : Int) ≤ c + kI 10 (nd 11 z A B C)
        omega
      · cases h
    · next v vs' =>
      cases h
      have hv := j2' v (List.mem_cons_self ..)
      have hr : (mxl ρ1 : Int) ≤ c + kI 10 (nd 13 z A B C) := j1'
      have hv : (mxl v : Int) ≤ c + kI 10 (nd 13 z A B C) := hv
      refine ⟨?_, fun v e => j2' v (List.mem_cons_of_mem _ e), j3'⟩
      show ((max (mxl v) (mxl ρ1) : Nat) : Int) ≤ c + kI 10 (nd 13 z A B C)
      omega
    · next v vs' =>
      have hv := j2' v (List.mem_cons_self ..)
      split at h
      · next u lam ρ2 =>
        cases h
        have hr : (mxl ρ1 : Int) ≤ c + kI 10 (nd 14 z A B C) := j1'
        have hv : (mxl ρ2 : Int) ≤ c + kI 10 (nd 14 z A B C) := hv
        refine ⟨?_, fun v e => j2' v (List.mem_cons_of_mem _ e), j3'⟩
        show ((max (mxl ρ2) (mxl ρ1) : Nat) : Int) ≤ c + kI 10 (nd 14 z A B C)
        omega
      · cases h
    · next v vs' =>
      cases h
      exact ⟨j1', fun v e => j2' v (List.mem_cons_of_mem _ e), j3'⟩
    · next v vs' =>
      split at h
      · next E br ρ2 he =>
        cases h
        have hv := j2' v (List.mem_cons_self ..)
        have hv : (mxl v : Int) ≤ c + kI 10 (nd 16 z A B C) := hv
        have hr : (mxl ρ1 : Int) ≤ c + kI 10 (nd 16 z A B C) := j1'
        have := mxl_br he
        refine ⟨?_, fun v e => j2' v (List.mem_cons_of_mem _ e), j3'⟩
        show (mxl ρ2 : Int) ≤ c + kI 10 (nd 16 z A B C)
        omega
      · cases h
    · cases h
  · cases h
/-- no list is longer than there were CONS steps -/
theorem sl_run : ∀ (m : Nat) (st : AS) (e a : Int), RunW (kI 10) f T m st e a → 0 ≤ e ∧ mxS e st
  | 0, st, e, a, h => by
    obtain ⟨rfl, rfl, rfl⟩ := h
    exact ⟨Int.le_refl _, Int.le_refl _, (fun v hv => by cases hv), (fun f hf => by cases hf)⟩
  | m + 1, st, e, a, h => by
    obtain ⟨s0, e0, a0, h0, h⟩ := h
    obtain ⟨h1, J⟩ := sl_run m s0 e0 a0 h0
    rcases h with ⟨h, rfl, rfl⟩ | ⟨b, h, rfl, rfl⟩
    · exact ⟨h1, sl_mv h J⟩
    · have := kI_ge (j := 10) (hdN s0)
      exact ⟨by omega, sl_sp h1 h J⟩
end SPN
