/-! A run that doesn't read the script is the same whatever the script is. -/
def swp (c : mCell) (h : mHp) : mHp := (h.1, h.2.1, fun j => if j = 0 then c else h.2.2 j)
def swI (h : mHp) : Prop := hTag h 0 = 106 ∧ 0 < h.1
theorem swI.le {h h' : mHp} (a : swI h) (b : le3 h h') : swI h' := ⟨by unfold hTag; rw [b.2.2 0 a.2 a.1]; exact a.1, Nat.lt_of_lt_of_le a.2 b.1⟩
section SW
variable {c : mCell} {h : mHp}
theorem swp_at {i : Nat} (hi : i ≠ 0) : (swp c h).2.2 i = h.2.2 i := by unfold swp; dsimp only; rw [if_neg hi]
theorem swp_tag (hc : c.1 = 106) (hI : swI h) (i : Nat) : hTag (swp c h) i = hTag h i := by
  by_cases hi : i = 0
  · subst hi
    rw [hI.1]
    unfold hTag swp
    dsimp only
    rw [if_pos rfl, hc]
  · unfold hTag; rw [swp_at hi]
theorem swp_len {i : Nat} (hi : i ≠ 0) : hLen (swp c h) i = hLen h i := by unfold hLen; rw [swp_at hi]
theorem swp_get {i k : Nat} (hi : i ≠ 0) : hAt (swp c h) i k = hAt h i k := by unfold hAt; rw [swp_at hi]
theorem swp_set {i k : Nat} {v : Value} (hi : i ≠ 0) : hSet (swp c h) i k v = swp c (hSet h i k v) := by
  unfold hSet
  rw [swp_at hi]
  unfold swp
  dsimp only
  congr 2
  funext j
  by_cases q : j = i
  · subst q; rw [if_pos rfl, if_neg hi, if_pos rfl]
  · rw [if_neg q, if_neg q]
theorem swp_new {t n : Nat} {f : Nat → Value} (hI : swI h) : hNew (swp c h) t n f = swp c (hNew h t n f) := by
  unfold hNew swp
  dsimp only
  congr 2
  funext j
  by_cases q : j = h.1
  · have : j ≠ 0 := by have := hI.2; omega
    rw [if_pos q, if_neg this, if_pos q]
  · rw [if_neg q, if_neg q]
theorem swp_fst : (swp c h).1 = h.1 := rfl
theorem swp_L {st : List Value} {t : Nat} {q : List Value × mHp} (hc : c.1 = 106) (hI : swI h) (ht : t ≠ 106) (hm : mArrL h st t = some q) : mArrL (swp c h) st t = some (q.1, swp c q.2) := by
  obtain ⟨j, i, r, rfl, h1, h2, rfl⟩ := mArrL_spec hm
  have hi : i ≠ 0 := fun e => by rw [e, hI.1] at h1; exact ht h1.symm
  simp only [mArrL]
  rw [swp_tag hc hI, swp_len hi, swp_get hi]
  exact if_pos ⟨h1, h2⟩
theorem swp_S {st : List Value} {t : Nat} {ok : Value → Bool} {q : List Value × mHp} (hc : c.1 = 106) (hI : swI h) (ht : t ≠ 106) (hm : mArrS h st t ok = some q) : mArrS (swp c h) st t ok = some (q.1, swp c q.2) := by
  obtain ⟨v, j, i, r, rfl, h1, h2, h3, rfl⟩ := mArrS_spec hm
  have hi : i ≠ 0 := fun e => by rw [e, hI.1] at h1; exact ht h1.symm
  simp only [mArrS]
  rw [swp_tag hc hI, swp_len hi, swp_set hi]
  exact if_pos ⟨h1, h2, h3⟩
set_option maxHeartbeats 4000000 in
theorem swp_mem {y a b : Nat} {st : List Value} {i : Instr} {q : List Value × mHp} (hc : c.1 = 106) (hI : swI h) (hm : mMem y a b st h i = some q) : mMem y a b st (swp c h) i = some (q.1, swp c q.2) := by
  have nz : ∀ {j t : Nat}, hTag h j = t → t ≠ 106 → j ≠ 0 := fun h1 h2 e => by rw [e, hI.1] at h1; exact h2 h1.symm
  cases i with
  | getfield ix =>
    simp only [mMem] at hm ⊢
    split at hm
    · next j r =>
      split at hm
      · next hcd => cases hm; rw [swp_tag hc hI, swp_get (nz hcd.1 (by omega)), if_pos hcd]
      · cases hm
    · cases hm
  | putfield ix =>
    simp only [mMem] at hm ⊢
    split at hm
    · next v j r =>
      split at hm
      · next hcd => cases hm; rw [swp_tag hc hI, swp_set (nz hcd.1 (by have := hcd.2.1; omega)), if_pos hcd]
      · cases hm
    · cases hm
  | iaload => exact swp_L hc hI (by decide) hm
  | caload => exact swp_L hc hI (by decide) hm
  | baload => exact swp_L hc hI (by decide) hm
  | laload => exact swp_L hc hI (by decide) hm
  | daload => exact swp_L hc hI (by decide) hm
  | aaload => exact swp_L hc hI (by decide) hm
  | iastore => exact swp_S hc hI (by decide) hm
  | castore => exact swp_S hc hI (by decide) hm
  | bastore => exact swp_S hc hI (by decide) hm
  | lastore => exact swp_S hc hI (by decide) hm
  | dastore => exact swp_S hc hI (by decide) hm
  | aastore =>
    simp only [mMem] at hm ⊢
    split at hm
    · next v j i r =>
      split at hm
      · next hcd => cases hm; rw [swp_tag hc hI, swp_tag hc hI, swp_len (nz hcd.1 (by decide)), swp_set (nz hcd.1 (by decide)), if_pos hcd]
      · cases hm
    · cases hm
  | arraylength =>
    simp only [mMem] at hm ⊢
    split at hm
    · next i r =>
      split at hm
      · next hcd => cases hm; rw [swp_tag hc hI, swp_len (nz rfl (by omega)), if_pos hcd]
      · cases hm
    · cases hm
  | new ix =>
    simp only [mMem] at hm ⊢
    split at hm
    · next hcd => cases hm; rw [if_pos hcd, swp_new hI]; rfl
    · cases hm
  | newarray t =>
    simp only [mMem] at hm ⊢
    split at hm
    · next n r k ft hz =>
      split at hm
      · next hcd => cases hm; rw [if_pos hcd, swp_new hI]; rfl
      · cases hm
    · cases hm
  | anewarray ix =>
    simp only [mMem] at hm ⊢
    split at hm
    · next n r =>
      split at hm
      · next hcd => cases hm; rw [if_pos hcd, swp_new hI]; rfl
      · cases hm
    · cases hm
  | _ => simp only [mMem] at hm; cases hm
def swpO (c : mCell) (X : mSt ⊕ (mRes × mHp)) : mSt ⊕ (mRes × mHp) := match X with
  | .inl S => .inl (S.1, S.2.1, S.2.2.1, swp c S.2.2.2)
  | .inr r => .inr (r.1, swp c r.2)
def swC (c : mCell) (call : Nat → List Value → mHp → Option (mRes × mHp)) : Prop := ∀ b as h o, swI h → call b as h = some o → call b as (swp c h) = some (o.1, swp c o.2)
theorem swp_back {y pc : Nat} {lv : List (Nat × Value)} {rest : List Value} {o : mRes × mHp} {S : mSt} (hh : mBack y pc lv rest o = some S) : mBack y pc lv rest (o.1, swp c o.2) = some (S.1, S.2.1, S.2.2.1, swp c S.2.2.2) := by
  obtain ⟨r, h⟩ := o
  cases r with
  | inl v => cases hh; rfl
  | inr k =>
    simp only [mBack] at hh ⊢
    obtain ⟨t, ht, rfl⟩ := Option.map_eq_some_iff.mp hh
    rw [ht]
    rfl
theorem swp_inv {call : Nat → List Value → mHp → Option (mRes × mHp)} (hcl : swC c call) (hc : c.1 = 106) (hI : swI h) {y pc a b : Nat} {lv : List (Nat × Value)} {st : List Value} {i : Instr} {S : mSt} (hm : mInv call y pc a b lv st h i = some S) : mInv call y pc a b lv st (swp c h) i = some (S.1, S.2.1, S.2.2.1, swp c S.2.2.2) := by
  have bnd : ∀ {as rest : List Value}, (call b as h).bind (mBack y pc lv rest) = some S → (call b as (swp c h)).bind (mBack y pc lv rest) = some (S.1, S.2.1, S.2.2.1, swp c S.2.2.2) := by
    intro as rest hb
    obtain ⟨o, h1, h2⟩ := Option.bind_eq_some_iff.mp hb
    rw [hcl b as h o hI h1, Option.bind_some]
    exact swp_back h2
  cases i with
  | invokevirtual ix =>
    simp only [mInv] at hm ⊢
    split at hm
    · split at hm
      · next hcd => rw [swp_tag hc hI, if_pos hcd]; exact bnd hm
      · cases hm
    · cases hm
  | invokestatic ix =>
    simp only [mInv] at hm ⊢
    split at hm
    · next ha =>
      rw [if_pos ha]
      split at hm
      · split at hm
        · next hcd => cases hm; rw [if_pos hcd]
        · cases hm
      · cases hm
    · next ha =>
      rw [if_neg ha]
      split at hm
      · next hcd => rw [if_pos hcd]; exact bnd hm
      · cases hm
  | invokespecial ix =>
    simp only [mInv] at hm ⊢
    split at hm
    · next ha =>
      rw [if_pos ha]
      split at hm
      · split at hm
        · next hcd => cases hm; rw [if_pos hcd]
        · cases hm
      · cases hm
    · next ha =>
      rw [if_neg ha]
      split at hm
      · cases hm
      · next ha9 =>
        rw [if_neg ha9]
        split at hm
        · split at hm
          · next hcd => rw [swp_tag hc hI, if_pos hcd]; exact bnd hm
          · cases hm
        · cases hm
  | _ => simp only [mInv] at hm; cases hm
theorem swp_step {call : Nat → List Value → mHp → Option (mRes × mHp)} (hcl : swC c call) (hc : c.1 = 106) {y : Nat} {S : mSt} {X : mSt ⊕ (mRes × mHp)} (hI : swI S.2.2.2) (hm : mStep call false y S = some X) : mStep call false y (S.1, S.2.1, S.2.2.1, swp c S.2.2.2) = some (swpO c X) := by
  unfold mStep at hm ⊢
  dsimp only
  split at hm
  · cases hm
  · next i n a b w hcd =>
    unfold mIns at hm ⊢
    split at hm
    · obtain ⟨q, h1, rfl⟩ := Option.map_eq_some_iff.mp hm; rw [h1]; rfl
    · obtain ⟨q, h1, rfl⟩ := Option.map_eq_some_iff.mp hm; rw [h1]; rfl
    · obtain ⟨q, h1, h2⟩ := Option.bind_eq_some_iff.mp hm
      obtain ⟨t, h3, rfl⟩ := Option.map_eq_some_iff.mp h2
      rw [h1, Option.bind_some, h3]
      rfl
    · have e1 : (if false = true then mScr S.2.2.2 S.2.2.1 i else none) = none := rfl
      have e2 : (if false = true then mScr (swp c S.2.2.2) S.2.2.1 i else none) = none := rfl
      rw [e1] at hm
      rw [e2]
      dsimp only at hm ⊢
      obtain ⟨q, h1, rfl⟩ := Option.map_eq_some_iff.mp hm
      rw [swp_mem hc hI h1]
      rfl
    · obtain ⟨q, h1, rfl⟩ := Option.map_eq_some_iff.mp hm; rw [swp_inv hcl hc hI h1]; rfl
    · obtain ⟨q, h1, rfl⟩ := Option.map_eq_some_iff.mp hm; rw [h1]; rfl
    · split at hm
      · next hcd2 => cases hm; rw [if_pos hcd2, swp_new hI]; rfl
      · cases hm
theorem swp_go {call : Nat → List Value → mHp → Option (mRes × mHp)} (hcl : swC c call) (hle : callLe call) (hc : c.1 = 106) {y : Nat} : ∀ (k : Nat) {S : mSt} {r : mRes × mHp}, swI S.2.2.2 → mGo call false y k S = some r → mGo call false y k (S.1, S.2.1, S.2.2.1, swp c S.2.2.2) = some (r.1, swp c r.2)
  | 0, _, _, _, h => by cases h
  | k + 1, S, r, hI, h => by
    simp only [mGo] at h ⊢
    split at h
    · cases h
    · next S' hS =>
      rw [swp_step hcl hc hI hS]
      exact swp_go hcl hle hc k (hI.le (le3.step hle hS)) h
    · next r' hS =>
      cases h
      rw [swp_step hcl hc hI hS]
      rfl
theorem swp_ex (hc : c.1 = 106) {F : Nat} : ∀ d, swC c (mEx F d)
  | 0 => fun _ _ _ _ _ h => by cases h
  | d + 1 => fun b as h o hI hx => by
    simp only [mEx] at hx ⊢
    split at hx
    · next hl =>
      rw [if_pos hl]
      exact swp_go (swp_ex hc d) (le3.ex d) hc F (S := (0, lv_args 0 as, [], h)) hI hx
    · cases hx
end SW
