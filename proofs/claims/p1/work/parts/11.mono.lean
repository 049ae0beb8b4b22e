/-! The heap grows, and a cell of tag 106 stays. -/
def le3 (h h' : mHp) : Prop := h.1 ≤ h'.1 ∧ h.2.1 ≤ h'.2.1 ∧ ∀ i, i < h.1 → hTag h i = 106 → h'.2.2 i = h.2.2 i
theorem le3.rf {h : mHp} : le3 h h := ⟨Nat.le_refl _, Nat.le_refl _, fun _ _ _ => rfl⟩
theorem le3.tr {h1 h2 h3 : mHp} (a : le3 h1 h2) (b : le3 h2 h3) : le3 h1 h3 := ⟨Nat.le_trans a.1 b.1, Nat.le_trans a.2.1 b.2.1, fun i hi ht => by
  have e := a.2.2 i hi ht
  rw [b.2.2 i (Nat.lt_of_lt_of_le hi a.1) (by unfold hTag at ht ⊢; rw [e]; exact ht), e]⟩
theorem le3.new {h : mHp} {t n : Nat} {f : Nat → Value} : le3 h (hNew h t n f) := ⟨Nat.le_succ _, Nat.le_add_right _ _, fun i hi _ => hNew_old h t n f hi⟩
theorem le3.set {h : mHp} {i k : Nat} {v : Value} (ht : hTag h i ≠ 106) : le3 h (hSet h i k v) := ⟨Nat.le_refl _, Nat.le_refl _, fun j _ hj => by
  unfold hSet
  dsimp only
  rw [if_neg]
  intro e
  subst e
  exact ht hj⟩
theorem le3.arrL {h : mHp} {st : List Value} {t : Nat} {q : List Value × mHp} (hm : mArrL h st t = some q) : le3 h q.2 := by
  obtain ⟨j, i, r, rfl, -, -, rfl⟩ := mArrL_spec hm
  exact le3.rf
theorem le3.arrS {h : mHp} {st : List Value} {t : Nat} {ok : Value → Bool} {q : List Value × mHp} (ht : t ≠ 106) (hm : mArrS h st t ok = some q) : le3 h q.2 := by
  obtain ⟨v, j, i, r, rfl, h1, -, -, rfl⟩ := mArrS_spec hm
  exact le3.set (by omega)
set_option maxHeartbeats 4000000 in
theorem le3.mem {y a b : Nat} {st : List Value} {h : mHp} {i : Instr} {q : List Value × mHp} (hm : mMem y a b st h i = some q) : le3 h q.2 := by
  cases i with
  | getfield ix =>
    simp only [mMem] at hm
    split at hm
    · split at hm
      · cases hm; exact le3.rf
      · cases hm
    · cases hm
  | putfield ix =>
    simp only [mMem] at hm
    split at hm
    · split at hm
      · next hc => cases hm; exact le3.set (by have := hc.1; have := hc.2.1; omega)
      · cases hm
    · cases hm
  | iaload => exact le3.arrL hm
  | caload => exact le3.arrL hm
  | baload => exact le3.arrL hm
  | laload => exact le3.arrL hm
  | daload => exact le3.arrL hm
  | aaload => exact le3.arrL hm
  | iastore => exact le3.arrS (by decide) hm
  | castore => exact le3.arrS (by decide) hm
  | bastore => exact le3.arrS (by decide) hm
  | lastore => exact le3.arrS (by decide) hm
  | dastore => exact le3.arrS (by decide) hm
  | aastore =>
    simp only [mMem] at hm
    split at hm
    · split at hm
      · next hc => cases hm; exact le3.set (by have := hc.1; omega)
      · cases hm
    · cases hm
  | arraylength =>
    simp only [mMem] at hm
    split at hm
    · split at hm
      · cases hm; exact le3.rf
      · cases hm
    · cases hm
  | new ix =>
    simp only [mMem] at hm
    split at hm
    · cases hm; exact le3.new
    · cases hm
  | newarray t =>
    simp only [mMem] at hm
    split at hm
    · split at hm
      · cases hm; exact le3.new
      · cases hm
    · cases hm
  | anewarray ix =>
    simp only [mMem] at hm
    split at hm
    · split at hm
      · cases hm; exact le3.new
      · cases hm
    · cases hm
  | _ => simp only [mMem] at hm; cases hm
def callLe (call : Nat → List Value → mHp → Option (mRes × mHp)) : Prop := ∀ b as h o, call b as h = some o → le3 h o.2
theorem mBack_heap {y pc : Nat} {lv : List (Nat × Value)} {rest : List Value} {o : mRes × mHp} {S : mSt} (hh : mBack y pc lv rest o = some S) : S.2.2.2 = o.2 := by
  obtain ⟨r, h⟩ := o
  cases r with
  | inl v => cases hh; rfl
  | inr k =>
    simp only [mBack] at hh
    obtain ⟨t, -, rfl⟩ := Option.map_eq_some_iff.mp hh
    rfl
theorem le3.inv {call : Nat → List Value → mHp → Option (mRes × mHp)} (hcl : callLe call) {y pc a b : Nat} {lv : List (Nat × Value)} {st : List Value} {h : mHp} {i : Instr} {S : mSt} (hm : mInv call y pc a b lv st h i = some S) : le3 h S.2.2.2 := by
  have bnd : ∀ {as rest : List Value}, (call b as h).bind (mBack y pc lv rest) = some S → le3 h S.2.2.2 := by
    intro as rest hb
    obtain ⟨o, h1, h2⟩ := Option.bind_eq_some_iff.mp hb
    rw [mBack_heap h2]
    exact hcl b as h o h1
  cases i with
  | invokevirtual ix =>
    simp only [mInv] at hm
    split at hm
    · split at hm
      · exact bnd hm
      · cases hm
    · cases hm
  | invokestatic ix =>
    simp only [mInv] at hm
    split at hm
    · split at hm
      · split at hm
        · cases hm; exact le3.rf
        · cases hm
      · cases hm
    · split at hm
      · exact bnd hm
      · cases hm
  | invokespecial ix =>
    simp only [mInv] at hm
    split at hm
    · split at hm
      · split at hm
        · cases hm; exact le3.rf
        · cases hm
      · cases hm
    · split at hm
      · cases hm
      · split at hm
        · split at hm
          · exact bnd hm
          · cases hm
        · cases hm
  | _ => simp only [mInv] at hm; cases hm
def outHp (X : mSt ⊕ (mRes × mHp)) : mHp := match X with
  | .inl S => S.2.2.2
  | .inr r => r.2
theorem le3.ins {call : Nat → List Value → mHp → Option (mRes × mHp)} (hcl : callLe call) {sc : Bool} {y pc n a b : Nat} {lv : List (Nat × Value)} {st : List Value} {h : mHp} {i : Instr} {X : mSt ⊕ (mRes × mHp)} (hm : mIns call sc y pc lv st h i n a b = some X) : le3 h (outHp X) := by
  unfold mIns at hm
  split at hm
  · obtain ⟨q, -, rfl⟩ := Option.map_eq_some_iff.mp hm; exact le3.rf
  · obtain ⟨q, -, rfl⟩ := Option.map_eq_some_iff.mp hm; exact le3.rf
  · obtain ⟨q, -, h2⟩ := Option.bind_eq_some_iff.mp hm
    obtain ⟨t, -, rfl⟩ := Option.map_eq_some_iff.mp h2
    exact le3.rf
  · split at hm
    · cases hm; exact le3.rf
    · obtain ⟨q, h1, rfl⟩ := Option.map_eq_some_iff.mp hm; exact le3.mem h1
  · obtain ⟨q, h1, rfl⟩ := Option.map_eq_some_iff.mp hm; exact le3.inv hcl h1
  · obtain ⟨q, -, rfl⟩ := Option.map_eq_some_iff.mp hm; exact le3.rf
  · split at hm
    · cases hm; exact le3.new
    · cases hm
theorem le3.step {call : Nat → List Value → mHp → Option (mRes × mHp)} (hcl : callLe call) {sc : Bool} {y : Nat} {S : mSt} {X : mSt ⊕ (mRes × mHp)} (hm : mStep call sc y S = some X) : le3 S.2.2.2 (outHp X) := by
  unfold mStep at hm
  split at hm
  · cases hm
  · exact le3.ins hcl hm
theorem le3.go {call : Nat → List Value → mHp → Option (mRes × mHp)} (hcl : callLe call) {sc : Bool} {y : Nat} : ∀ (k : Nat) {S : mSt} {r : mRes × mHp}, mGo call sc y k S = some r → le3 S.2.2.2 r.2
  | 0, _, _, h => by cases h
  | k + 1, S, r, h => by
    simp only [mGo] at h
    split at h
    · cases h
    · next S' hS => exact (le3.step hcl hS).tr (le3.go hcl k h)
    · next r' hS => cases h; exact le3.step hcl hS
theorem le3.ex {F : Nat} : ∀ (d : Nat), callLe (mEx F d)
  | 0, _, _, _, _, h => by cases h
  | d + 1, _, _, _, _, h => by
    simp only [mEx] at h
    split at h
    · exact le3.go (le3.ex d) F h
    · cases h
/-! What the code tables say of an entry. -/
theorem mChkAt_spec {own : String} {bytes : ByteArray} : ∀ {L : List (Option mEnt)} {k j : Nat} {i : Instr} {n a b w : Nat}, mChkAt own bytes k L = true → L[j]? = some (some (i, n, a, b, w)) → decode bytes (k + j) = .ok (i, n) ∧ n = mLen n i ∧ mLinkOk own a b w i = true
  | [], _, _, _, _, _, _, _, _, h => by simp at h
  | none :: L, k, 0, _, _, _, _, _, _, h => by simp at h
  | none :: L, k, j + 1, _, _, _, _, _, hc, h => by
    have := mChkAt_spec (L := L) (k := k + 1) (j := j) hc h
    rwa [show k + 1 + j = k + (j + 1) by omega] at this
  | some (i', n', a', b', w') :: L, k, 0, _, _, _, _, _, hc, h => by
    simp only [mChkAt, Bool.and_eq_true, decide_eq_true_eq] at hc
    cases h
    exact ⟨hc.1.1.1, hc.1.1.2, hc.1.2⟩
  | some (i', n', a', b', w') :: L, k, j + 1, _, _, _, _, _, hc, h => by
    simp only [mChkAt, Bool.and_eq_true] at hc
    have := mChkAt_spec (L := L) (k := k + 1) (j := j) hc.2 h
    rwa [show k + 1 + j = k + (j + 1) by omega] at this
theorem mcd_row {y pc : Nat} {x : mEnt} (h : mcd y pc = some x) : ∃ L q, cdT[y]? = some L ∧ mTab[y]? = some q ∧ L[pc]? = some (some x) ∧ mChkAt q.1.cls q.2.1 0 L = true := by
  unfold mcd at h
  rw [List.getD_eq_getElem?_getD, List.getD_eq_getElem?_getD] at h
  cases hL : cdT[y]? with
  | none => rw [hL] at h; simp at h
  | some L =>
    rw [hL] at h
    simp only [Option.getD_some] at h
    cases hx : L[pc]? with
    | none => rw [hx] at h; cases h
    | some z =>
      rw [hx] at h
      simp only [Option.getD_some] at h
      subst h
      rw [← mAll_2, List.getElem?_map] at hL
      obtain ⟨u, hu, rfl⟩ := Option.map_eq_some_iff.mp hL
      exact ⟨u.2, u.1, rfl, by rw [← mAll_1, List.getElem?_map, hu]; rfl, hx, mAll_ok u (List.mem_of_getElem? hu)⟩
theorem mcd_ok {y pc : Nat} {i : Instr} {n a b w : Nat} {q : mMI} (h : mcd y pc = some (i, n, a, b, w)) (hq : mTab[y]? = some q) : decode q.2.1 pc = .ok (i, n) ∧ n = mLen n i ∧ mLinkOk q.1.cls a b w i = true := by
  obtain ⟨L, q', -, hq', hx, hc⟩ := mcd_row h
  rw [hq] at hq'
  cases hq'
  have := mChkAt_spec hc hx
  rwa [Nat.zero_add] at this
def callChk (o : Option mEnt) : Bool := match o with
  | none => true
  | some (i, _, a, b, _) => !(mGrp a i == 4) || a == 4 || a == 5 || decide (b < mNC)
set_option maxRecDepth 100000 in
theorem call_chk : (cdT.take mNC).all (fun L => L.all callChk) = true := by decide +kernel
theorem call_in {y pc : Nat} {i : Instr} {n a b w : Nat} (h : mcd y pc = some (i, n, a, b, w)) (hy : y < mNC) (hg : mGrp a i = 4) : a = 4 ∨ a = 5 ∨ b < mNC := by
  obtain ⟨L, q', hL, -, hx, -⟩ := mcd_row h
  have h1 := List.all_eq_true.mp call_chk L (List.mem_of_getElem? (i := y) (by rw [List.getElem?_take_of_lt hy]; exact hL))
  have h2 := List.all_eq_true.mp h1 _ (List.mem_of_getElem? hx)
  simp only [callChk, hg, Bool.or_eq_true, Bool.not_eq_true', beq_iff_eq, decide_eq_true_eq] at h2
  rcases h2 with ((h2 | h2) | h2) | h2
  · simp at h2
  · exact Or.inl h2
  · exact Or.inr (Or.inl h2)
  · exact Or.inr (Or.inr h2)
theorem hand_none {y : Nat} (hy : y < mNC) : mHand y = [] := by
  have h : y < 224 := hy
  unfold mHand mHT
  simp only [List.lookup]
  repeat (first | rfl | (split; next e => (have := eq_of_beq e; omega)))
  all_goals (try rfl)
