/-! Both: the start. -/
/-- behind the end of an array of ints there is nothing but 0 -/
def zrH (h : mHp) : Prop := ∀ i, i < h.1 → hTag h i = 100 → ∀ k, hLen h i ≤ k → hAt h i k = .int 0
def zrP (h h' : mHp) : Prop := zrH h → zrH h'
def intO : Value → Int
  | .int x => x.toInt
  | _ => 0
/-- the ints of a heap -/
def stM0 (h : mHp) : Mem := fun i k => if 0 ≤ k ∧ shJ i k.toNat = true then intO (hAt h i k.toNat) else 0
section BSTA
variable {y : Nat} {h h' : mHp} {L : Nat} {xs : Nat → Int32}
theorem zrH.set (H : zrH h) {i k : Nat} {v : Value} (hv : hTag h i = 100 → k < hLen h i) : zrH (hSet h i k v) := by
  intro j hj ht x hx
  rw [tag_set] at ht
  rw [len_set] at hx
  have n : ¬ (j = i ∧ x = k) := fun ⟨a, b⟩ => by
    subst a b
    have := hv ht
    omega
  rw [at_no n]
  exact H j hj ht x hx
theorem zrH.new (H : zrH h) {t n : Nat} {f : Nat → Value} (hv : t = 100 → ∀ k, f k = .int 0) : zrH (hNew h t n f) := by
  intro j hj ht x hx
  by_cases q : j = h.1
  · subst q
    have e1 : hTag (hNew h t n f) h.1 = t := by unfold hTag hNew; dsimp only; rw [if_pos rfl]
    have e2 : hAt (hNew h t n f) h.1 x = f x := by unfold hAt hNew; dsimp only; rw [if_pos rfl]
    rw [e1] at ht
    rw [e2]; exact hv ht x
  · have hj' : j < h.1 := Nat.lt_of_le_of_ne (Nat.le_of_lt_succ hj) q
    rw [tag_new hj'] at ht
    rw [len_new hj'] at hx
    rw [at_new hj']
    exact H j hj' ht x hx
theorem zrP_mem {a b : Nat} {st : List Value} {i : Instr} {q : List Value × mHp} (hm : mMem y a b st h i = some q) (H : zrH h) : zrH q.2 := by
  have Lo : ∀ {t : Nat}, mArrL h st t = some q → zrH q.2 := fun hm => by obtain ⟨j, i, r, rfl, -, -, rfl⟩ := mArrL_spec hm; exact H
  have St : ∀ {t : Nat} {ok : Value → Bool}, mArrS h st t ok = some q → zrH q.2 := fun hm => by
    obtain ⟨v, j, i, r, rfl, h1, h2, h3, rfl⟩ := mArrS_spec hm
    refine H.set (fun _ => ?_)
    unfold vp_in at h2
    omega
  cases i with
  | iaload => exact Lo hm
  | caload => exact Lo hm
  | baload => exact Lo hm
  | laload => exact Lo hm
  | daload => exact Lo hm
  | aaload => exact Lo hm
  | iastore => exact St hm
  | castore => exact St hm
  | bastore => exact St hm
  | lastore => exact St hm
  | dastore => exact St hm
  | newarray t =>
    simp only [mMem] at hm
    split at hm
    · next n r k ft hz =>
      split at hm
      · cases hm
        refine H.new (fun e x => ?_)
        subst e
        cases t <;> simp only [mKind, Option.some.injEq, Prod.mk.injEq, reduceCtorEq] at hz
        all_goals first | (obtain ⟨-, rfl⟩ := hz; rfl) | (exact absurd hz.1 (by decide))
      · cases hm
    · cases hm
  | getfield ix =>
    simp only [mMem] at hm
    split at hm
    · split at hm
      · cases hm; exact H
      · cases hm
    · cases hm
  | putfield ix =>
    simp only [mMem] at hm
    split at hm
    · split at hm
      · next hc =>
        cases hm
        have h1 := hc.1
        have h2 := hc.2.1
        exact H.set (fun q => by omega)
      · cases hm
    · cases hm
  | aastore =>
    simp only [mMem] at hm
    split at hm
    · split at hm
      · next hc =>
        cases hm
        have h1 := hc.1
        exact H.set (fun q => by omega)
      · cases hm
    · cases hm
  | arraylength =>
    simp only [mMem] at hm
    split at hm
    · split at hm
      · cases hm; exact H
      · cases hm
    · cases hm
  | new ix =>
    simp only [mMem] at hm
    split at hm
    · next hc => cases hm; exact H.new (fun q => by omega)
    · cases hm
  | anewarray ix =>
    simp only [mMem] at hm
    split at hm
    · split at hm
      · cases hm; exact H.new (fun q => absurd q (by decide))
      · cases hm
    · cases hm
  | _ => simp only [mMem] at hm; cases hm
theorem zrP_R : hpR zrP := ⟨fun h H => H, fun h1 h2 h3 a b H => b (a H), fun y a b st h i q hm H => zrP_mem hm H, fun h H => H.new (fun e => absurd e (by decide))⟩
theorem stN_hp {P : mHp → mHp → Prop} (HP : hpR P) {F d : Nat} : ∀ (n : Nat) {S S' : mSt}, stN (mEx F d) y n S = some S' → P S.2.2.2 S'.2.2.2
  | 0, S, S', h => by cases h; exact HP.1 _
  | n + 1, S, S', h => by
    simp only [stN] at h
    split at h
    · split at h
      · next S2 hS => exact HP.2.1 _ _ _ (hpR_step HP (hpR_ex HP d) hS) (stN_hp HP n h)
      · cases h
    · cases h
theorem stN_sub {c1 c2 : Nat → List Value → mHp → Option (mRes × mHp)} (hs : callSub c1 c2) : ∀ (n : Nat) {S S' : mSt}, stN c1 y n S = some S' → stN c2 y n S = some S'
  | 0, S, S', h => h
  | n + 1, S, S', h => by
    simp only [stN] at h ⊢
    split at h
    · next hn =>
      rw [if_pos hn]
      split at h
      · next S2 hS =>
        rw [mono_step hs hS]
        exact stN_sub hs n h
      · cases h
    · cases h
theorem stN_Go {F d n : Nat} {S S' : mSt} {r : mRes × mHp} (h : stN (mEx F d) y n S = some S') (K : Go d true y S' r) : Go d true y S r := by
  obtain ⟨G, k, hk⟩ := K
  refine ⟨F + G, n + (k + 0), stN_go n (stN_sub (mono_ex d (Nat.le_add_right F G)) n h) (mono_go (mono_ex d (Nat.le_add_left G F)) k 0 hk)⟩
theorem fits_I {t : FieldType} {v : Value} (ht : t = .char ∨ t = .boolean ∨ t = .int) (h : fits t v = true) : ∃ x, v = .int x := by
  rcases ht with rfl | rfl | rfl <;> cases v <;> first | exact ⟨_, rfl⟩ | cases h
theorem put_self (S : Sh h) (T : tyH h) (J : ∀ q ∈ shJl, ∃ x, hAt h q.1 q.2 = .int x) : put h (stM0 h) = h ∧ RM (stM0 h) := by
  have all : ∀ i k, shJ i k = true → ∃ x, hAt h i k = .int x := fun i k hj => by
    unfold shJ at hj
    rw [Bool.or_eq_true] at hj
    rcases hj with hj | hj
    · have hI := shA_I hj
      have hi := (shI_lt hI).2
      have t := T i (Nat.lt_of_lt_of_le hi S.1) k
      have tg := S.t i hI
      unfold shA at hj
      rw [Bool.and_eq_true, Bool.and_eq_true] at hj
      have t1 := Nat.le_of_ble_eq_true hj.2.1
      have t2 := Nat.le_of_ble_eq_true hj.2.2
      rw [tg] at t
      have c : shT i = 100 ∨ shT i = 101 ∨ shT i = 102 := by omega
      rcases c with e | e | e
      · rw [e] at t; exact isI_spec t
      · rw [e] at t; exact fits_I (Or.inl rfl) t
      · rw [e] at t; exact fits_I (Or.inr (Or.inl rfl)) t
    · exact J (i, k) (List.contains_iff_mem.mp hj)
  refine ⟨?_, fun i k => ?_⟩
  · unfold put
    refine congrArg (fun f => (h.1, h.2.1, f)) (funext fun i => ?_)
    refine congrArg (fun f => ((h.2.2 i).1, (h.2.2 i).2.1, f)) (funext fun k => ?_)
    by_cases q : shJ i k = true
    · rw [if_pos q]
      obtain ⟨x, hx⟩ := all i k q
      have e : stM0 h i (k : Int) = x.toInt := by
        unfold stM0
        rw [Int.toNat_natCast, if_pos ⟨by omega, q⟩, hx]; rfl
      rw [e]
      have hx : (h.2.2 i).2.2 k = .int x := hx
      rw [hx]
      unfold vi
      rw [Int32.ofInt_toInt]
    · rw [if_neg q]
  · unfold stM0
    split
    · next q =>
      obtain ⟨x, hx⟩ := all i k.toNat q.2
      rw [hx]
      exact ⟨x.le_toInt, x.toInt_lt⟩
    · exact rgk rfl
end BSTA
