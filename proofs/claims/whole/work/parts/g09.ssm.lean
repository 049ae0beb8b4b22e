/-! Working out with places: how much is left, and that a run ends. -/
def lqC : Nat × Tr → Nat
  | (j, .tag _ (.nest _ (.append _ (.append B C)))) => if j = 1 then 5 * (szT B + szT C) + 4 else 2
  | _ => 2
def mL : Cx → Nat
  | [] => 1
  | q :: cx => lqC q + mL cx
def stQ : Tr → Nat
  | .tag k (.nest _ (.append _ (.append B C))) => if k ≤ 11 then 1 else 5 * (szT B + szT C) + 3
  | _ => 1
def mFs : List (Cx × En) → Nat
  | [] => 0
  | f :: fs => mL f.1 + mFs fs
def wkZ (S : WkS) : Nat := (if S.1 = 0 then 5 * szT S.2.1 else if S.1 = 1 then 0 else stQ S.2.1) + mL S.2.2.1 + mFs S.2.2.2.2.2
section MSZ
theorem br_sz : ∀ {B : Tr} {v : Va} {ρ : En} {E br : Tr} {ρ' : En}, brF B v ρ = some (E, br, ρ') → szT E + 1 ≤ szT B := by
  intro B v ρ
  fun_induction brF B v ρ with
  | case1 z P E C v ρ ρ1 h => intro E' br ρ' e; cases e; show szT E + 1 ≤ szT P + szT E + szT C + 1; omega
  | case2 z P E C v ρ h ih => intro E' br ρ' e; have := ih e; show szT E' + 1 ≤ szT P + szT E + szT C + 1; omega
  | case3 => intro E' br ρ' e; cases e
theorem m_mv {S S' : WkS} (h : wkM S = some S') : wkZ S' + 1 ≤ wkZ S := by
  unfold wkM at h
  split at h
  · next k z A B C cx ρ vs fs =>
    have e : wkZ (0, nd k z A B C, cx, ρ, vs, fs) = 5 * (szT A + szT B + szT C + 1) + mL cx + mFs fs := rfl
    show wkZ S' + 1 ≤ wkZ (0, nd k z A B C, cx, ρ, vs, fs)
    rw [e]
    split at h
    · cases h; show 0 + mL cx + mFs fs + 1 ≤ _; omega
    · cases h; show 5 * szT A + ((if 1 = 1 then 5 * (szT B + szT C) + 4 else 2) + mL cx) + mFs fs + 1 ≤ _; rw [if_pos rfl]; omega
  · next T j k z A B C cx ρ vs fs =>
    have e : wkZ (1, T, (j, nd k z A B C) :: cx, ρ, vs, fs) = 0 + ((if j = 1 then 5 * (szT B + szT C) + 4 else 2) + mL cx) + mFs fs := rfl
    show wkZ S' + 1 ≤ wkZ (1, T, (j, nd k z A B C) :: cx, ρ, vs, fs)
    rw [e]
    have st : wkZ (2, nd k z A B C, cx, ρ, vs, fs) = (if k ≤ 11 then 1 else 5 * (szT B + szT C) + 3) + mL cx + mFs fs := rfl
    split at h
    · next q =>
      rw [if_pos q]
      split at h
      · cases h; show 5 * szT B + ((if 2 = 1 then 5 * (szT B + szT C) + 4 else 2) + mL cx) + mFs fs + 1 ≤ _; rw [if_neg (by decide)]; omega
      · cases h; rw [st]; split <;> omega
    · next q =>
      rw [if_neg q]
      split at h
      · cases h; rw [st, if_pos (by omega)]; omega
      · split at h
        · cases h; show 0 + mL cx + mFs fs + 1 ≤ _; omega
        · cases h; show 0 + mL cx + mFs fs + 1 ≤ _; omega
  · next T ρ vs cx ρ' fs => cases h; show 0 + mL cx + mFs fs + 1 ≤ 0 + 1 + (mL cx + mFs fs); omega
  · cases h
theorem m_sp {S S' : WkS} (w : wkV S) (h : wkS S = some (.inl S')) : wkZ S' ≤ wkZ S + 640 := by
  obtain ⟨⟨w1, ⟨wz, w2⟩, w3⟩, r1, r2, r3⟩ := w
  unfold wkS at h
  split at h
  · next k z A B C cx ρ vs fs =>
    have e : wkZ (2, nd k z A B C, cx, ρ, vs, fs) = (if k ≤ 11 then 1 else 5 * (szT B + szT C) + 3) + mL cx + mFs fs := rfl
    show wkZ S' ≤ wkZ (2, nd k z A B C, cx, ρ, vs, fs) + 640
    rw [e]
    have pl : ∀ v vs, wkZ (1, nl, cx, ρ, v :: vs, fs) = 0 + mL cx + mFs fs := fun _ _ => rfl
    split at h
    · cases h; rw [pl]; omega
    · split at h
      · cases h; rw [pl]; omega
      · cases h
    · cases h; rw [pl]; omega
    · next x f vs' =>
      have hf := r2 f (List.mem_cons_of_mem _ List.mem_cons_self)
      split at h
      · cases h; rw [pl]; omega
      · next y b R ρ' =>
        cases h
        have hz : szT b ≤ 128 := Nat.le_trans (fn_sz hf.2.1.1) hf.2.1.2
        show 5 * szT b + 1 + (mL cx + mFs fs) ≤ _
        rw [if_pos (by decide)]
        omega
      · next g y b R ρ' =>
        cases h
        have hz : szT b ≤ 128 := Nat.le_trans (fn_sz hf.2.1.1) hf.2.1.2
        show 5 * szT b + 1 + (mL cx + mFs fs) ≤ _
        rw [if_pos (by decide)]
        omega
      · cases h
    · cases h; show 5 * szT B + ((if 2 = 1 then 5 * (szT B + szT C) + 4 else 2) + mL cx) + mFs fs ≤ _; rw [if_neg (by decide), if_neg (by decide)]; omega
    · split at h
      · cases h; show 5 * szT B + ((if 2 = 1 then 5 * (szT B + szT C) + 4 else 2) + mL cx) + mFs fs ≤ _; rw [if_neg (by decide), if_neg (by decide)]; omega
      · cases h
    · split at h
      · cases h; show 5 * szT B + ((if 2 = 1 then 5 * (szT B + szT C) + 4 else 2) + mL cx) + mFs fs ≤ _; rw [if_neg (by decide), if_neg (by decide)]; omega
      · cases h; show 5 * szT C + ((if 3 = 1 then 5 * (szT B + szT C) + 4 else 2) + mL cx) + mFs fs ≤ _; rw [if_neg (by decide), if_neg (by decide)]; omega
    · split at h
      · next E br ρ' hb =>
        cases h
        have := br_sz hb
        obtain ⟨z', P, CC, rfl⟩ := br_17 hb
        show 5 * szT E + ((if 2 = 1 then 5 * (szT E + szT CC) + 4 else 2) + mL cx) + mFs fs ≤ _
        rw [if_neg (by decide), if_neg (by decide)]; omega
      · cases h
    · cases h
  · cases h
end MSZ
