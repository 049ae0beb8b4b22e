/-! The class's checker: names, demands. -/
/-- the names that are open, the last one first: name and node -/
def envC (σ : Mem) : List (Int × Int) → Prop
  | [] => True
  | (z, n) :: E => σ 51 E.length = z ∧ σ 53 E.length = n ∧ envC σ E
def lkE (z : Int) : List (Int × Int) → Int
  | [] => -1
  | (y, n) :: E => if y = z then n else lkE z E
section CEN
variable {σ σ' : Mem} {d : Nat} {h : Int}
theorem envC.mv (hh : ∀ i : Int, σ' 51 i = σ 51 i ∧ σ' 53 i = σ 53 i) : ∀ {E : List (Int × Int)}, envC σ E → envC σ' E
  | [], _ => trivial
  | (z, n) :: E, ⟨a, b, c⟩ => ⟨(hh _).1.trans a, (hh _).2.trans b, envC.mv hh c⟩
theorem envC.lo {k : Int} (hh : ∀ i : Int, i < k → σ' 51 i = σ 51 i ∧ σ' 53 i = σ 53 i) : ∀ {E : List (Int × Int)}, (E.length : Int) ≤ k → envC σ E → envC σ' E
  | [], _, _ => trivial
  | (z, n) :: E, hk, ⟨a, b, c⟩ => by
    have : (((z, n) :: E).length : Int) = E.length + 1 := by rw [List.length_cons]; omega
    exact ⟨(hh _ (by omega)).1.trans a, (hh _ (by omega)).2.trans b, envC.lo hh (by omega) c⟩
theorem tn_l {z : Int} (hz : rg z) : ∀ E : List (Int × Int), envC σ E → E.length ≤ 64 → Lb (d + 3) yCk_typeOfName 7 [(0, .ref 49), (1, vi z), (2, vi (E.length - 1))] [] σ (some (lkE z E)) σ
  | [], _, _ => by
    refine K_Ck_typeOfName_7 hz ⟨by decide, by decide⟩ ?_
    unfold B_Ck_typeOfName_7
    rw [if_pos (by decide)]
    exact ⟨rfl, rfl⟩
  | (y, n) :: E, ⟨a, b, c⟩, hl => by
    have el : (((y, n) :: E).length : Int) = E.length + 1 := by rw [List.length_cons]; omega
    have hl : E.length + 1 ≤ 64 := hl
    have e1 : (((y, n) :: E).length : Int) - 1 = E.length := by omega
    rw [e1]
    have r1 : ∀ i, rowv 64 σ i (E.length : Int) = σ i E.length := fun i => if_pos ⟨by omega, by omega⟩
    refine K_Ck_typeOfName_7 hz ⟨by omega, by omega⟩ ?_
    unfold B_Ck_typeOfName_7 lkE
    rw [if_neg (by omega), r1, r1, a, b]
    by_cases q : y = z
    · rw [if_neg (fun w => w q), if_pos q]; exact ⟨rfl, rfl⟩
    · rw [if_pos q, if_neg q]
      exact ⟨⟨by omega, by omega⟩, tn_l hz E c (by omega)⟩
theorem s_typeOfName {z : Int} (hz : rg z) {E : List (Int × Int)} (hE : envC σ E) (h4 : σ 49 4 = E.length) (hl : E.length ≤ 64) : Rn (d + 4) yCk_typeOfName [.ref 49, vi z] σ (some (lkE z E)) σ := by
  refine M_Ck_typeOfName hz ?_
  unfold B_Ck_typeOfName
  rw [h4]
  exact ⟨⟨by omega, by omega⟩, tn_l hz E hE hl⟩
theorem s_enter {z n : Int} (hz : rg z) (hn : rg n) {E : List (Int × Int)} (hE : envC σ E) (h4 : σ 49 4 = E.length) (hl : E.length < 64) : ∃ σ', Rn (d + 4) yCk_enter [.ref 49, vi z, vi n] σ none σ' ∧ envC σ' ((z, n) :: E) ∧ σ' 49 4 = E.length + 1 ∧ (∀ k, k ≠ 4 → σ' 49 k = σ 49 k) ∧ (∀ i, i ≠ 49 → i ≠ 51 → i ≠ 53 → σ' i = σ i) ∧ ∀ i : Int, i < E.length → σ' 51 i = σ 51 i ∧ σ' 53 i = σ 53 i := by
  have R : Rn (d + 4) yCk_enter [.ref 49, vi z, vi n] σ none (mup (mup (mup σ 51 E.length z) 53 E.length n) 49 4 (E.length + 1)) := by
    refine M_Ck_enter hz hn ?_
    unfold B_Ck_enter
    rw [h4, rows_in (by omega) (by omega), rows_in (by omega) (by omega)]
    exact ⟨⟨by omega, by omega⟩, rfl, rfl⟩
  have lo : ∀ i : Int, i ≠ E.length → (mup (mup (mup σ 51 E.length z) 53 E.length n) 49 4 (E.length + 1)) 51 i = σ 51 i ∧ (mup (mup (mup σ 51 E.length z) 53 E.length n) 49 4 (E.length + 1)) 53 i = σ 53 i := fun i q => by
    refine ⟨?_, ?_⟩
    · rw [mup_obj (by decide), mup_obj (by decide), mup_nk q]
    · rw [mup_obj (by decide), mup_nk q, mup_obj (by decide)]
  refine ⟨_, R, ⟨?_, ?_, envC.lo (k := E.length) (fun i q => lo i (by omega)) (by omega) hE⟩, mup_eq, fun k q => ?_, fun i p q r => ?_, fun i q => lo i (by omega)⟩
  · rw [mup_obj (by decide), mup_obj (by decide), mup_eq]
  · rw [mup_obj (by decide), mup_eq]
  · rw [mup_nk q, mup_obj (by decide), mup_obj (by decide)]
  · rw [mup_obj p, mup_obj r, mup_obj q]
theorem FT.ck (f : FT σ σ') : σ' 49 = σ 49 ∧ σ' 51 = σ 51 ∧ σ' 53 = σ 53 := ⟨f.1 49 (by decide) (by decide) (by decide) (by decide), f.1 51 (by decide) (by decide) (by decide) (by decide), f.1 53 (by decide) (by decide) (by decide) (by decide)⟩
/-- two types are demanded to be one -/
theorem s_demand (T : TI σ) (hi : σ 49 6 = 0) {n m : Int} (hn : 0 ≤ n ∧ n < σ 38 5) (hm : 0 ≤ m ∧ m < σ 38 5) : ∃ σ', Rn (d + 93) yCk_demand [.ref 49, vi n, vi m] σ none σ' ∧ ((FT σ σ' ∧ TI σ' ∧ TSt (tS σ) (tS σ') (fun x => x = n ∨ x = m) h ∧ σ' 38 5 = σ 38 5 ∧ ∀ ρ, VS (tS σ').1 (tS σ').2.1 ρ ↔ (VS (tS σ).1 (tS σ).2.1 ρ ∧ ρ n = ρ m)) ∨ ((∃ σ1, FT σ σ1 ∧ σ1 38 5 = σ 38 5 ∧ σ' = mup σ1 49 6 1) ∧ ∀ ρ, VS (tS σ).1 (tS σ).2.1 ρ → ρ n = ρ m → ¬ gw (ρ n) ≤ 80)) := by
  have c := T.1.2.1
  obtain ⟨b, σ1, R, F, u⟩ := c_unify (d := d) (h := h) T hn hm
  have mk : ∀ {σ' : Mem}, _ → Rn (d + 93) yCk_demand [.ref 49, vi n, vi m] σ none σ' := fun {σ'} z => M_Ck_demand (d := d + 89) (s' := σ') (o := none) ⟨by omega, by omega⟩ ⟨by omega, by omega⟩ z
  unfold B_Ck_demand at mk
  rcases u with ⟨rfl, u1, u2, u3, u4⟩ | ⟨rfl, u5, u1⟩
  · refine ⟨σ1, mk ?_, Or.inl ⟨F, u1, u2, u3, u4⟩⟩
    rw [if_neg (fun q => q hi)]
    refine ⟨1, σ1, R, ?_⟩
    rw [if_pos (by decide)]; exact ⟨rfl, rfl⟩
  · refine ⟨mup σ1 49 6 1, mk ?_, Or.inr ⟨⟨σ1, F, u5, rfl⟩, u1⟩⟩
    rw [if_neg (fun q => q hi)]
    refine ⟨0, σ1, R, ?_⟩
    rw [if_neg (by decide)]; exact ⟨rfl, rfl⟩
theorem s_demand_ill (hi : σ 49 6 ≠ 0) {n m : Int} (hn : rg n) (hm : rg m) : Rn (d + 4) yCk_demand [.ref 49, vi n, vi m] σ none σ := by
  refine M_Ck_demand hn hm ?_
  unfold B_Ck_demand
  rw [if_pos hi]; exact ⟨rfl, rfl⟩
end CEN
