/-! What every run keeps: tags, lengths, the kinds of the contents. -/
def hpR (P : mHp → mHp → Prop) : Prop := (∀ h, P h h) ∧ (∀ h1 h2 h3, P h1 h2 → P h2 h3 → P h1 h3) ∧ (∀ y a b st h i q, mMem y a b st h i = some q → P h q.2) ∧ (∀ h, P h (hNew h 200 6 (fun _ => .null)))
section HPR
variable {P : mHp → mHp → Prop} {call : Nat → List Value → mHp → Option (mRes × mHp)} {y : Nat}
def callP (P : mHp → mHp → Prop) (call : Nat → List Value → mHp → Option (mRes × mHp)) : Prop := ∀ b as h o, call b as h = some o → P h o.2
theorem hpR_inv (HP : hpR P) (hcl : callP P call) {pc a b : Nat} {lv : List (Nat × Value)} {st : List Value} {h : mHp} {i : Instr} {S : mSt} (hm : mInv call y pc a b lv st h i = some S) : P h S.2.2.2 := by
  have bnd : ∀ {as rest : List Value}, (call b as h).bind (mBack y pc lv rest) = some S → P h S.2.2.2 := by
    intro as rest hb
    obtain ⟨o, h1, h2⟩ := Option.bind_eq_some_iff.mp hb
    rw [mBack_heap h2]
    exact hcl b as h o h1
  cases i with
  | invokevirtual ix =>
    simp only [mInv] at hm
    split at hm
    · split at hm
      · exact bnd hm
      · cases hm
    · cases hm
  | invokestatic ix =>
    simp only [mInv] at hm
    split at hm
    · split at hm
      · split at hm
        · cases hm; exact HP.1 _
        · cases hm
      · cases hm
    · split at hm
      · exact bnd hm
      · cases hm
  | invokespecial ix =>
    simp only [mInv] at hm
    split at hm
    · split at hm
      · split at hm
        · cases hm; exact HP.1 _
        · cases hm
      · cases hm
    · split at hm
      · cases hm
      · split at hm
        · split at hm
          · exact bnd hm
          · cases hm
        · cases hm
  | _ => simp only [mInv] at hm; cases hm
theorem hpR_step (HP : hpR P) (hcl : callP P call) {sc : Bool} {S : mSt} {X : mSt ⊕ (mRes × mHp)} (hm : mStep call sc y S = some X) : P S.2.2.2 (outHp X) := by
  unfold mStep at hm
  split at hm
  · cases hm
  · unfold mIns at hm
    split at hm
    · obtain ⟨q, -, rfl⟩ := Option.map_eq_some_iff.mp hm; exact HP.1 _
    · obtain ⟨q, -, rfl⟩ := Option.map_eq_some_iff.mp hm; exact HP.1 _
    · obtain ⟨q, -, h2⟩ := Option.bind_eq_some_iff.mp hm
      obtain ⟨t, -, rfl⟩ := Option.map_eq_some_iff.mp h2
      exact HP.1 _
    · split at hm
      · cases hm; exact HP.1 _
      · obtain ⟨q, h1, rfl⟩ := Option.map_eq_some_iff.mp hm; exact HP.2.2.1 _ _ _ _ _ _ _ h1
    · obtain ⟨q, h1, rfl⟩ := Option.map_eq_some_iff.mp hm; exact hpR_inv HP hcl h1
    · obtain ⟨q, -, rfl⟩ := Option.map_eq_some_iff.mp hm; exact HP.1 _
    · split at hm
      · cases hm; exact HP.2.2.2 _
      · cases hm
theorem hpR_go (HP : hpR P) (hcl : callP P call) {sc : Bool} : ∀ (k : Nat) {S : mSt} {r : mRes × mHp}, mGo call sc y k S = some r → P S.2.2.2 r.2
  | 0, _, _, h => by cases h
  | k + 1, S, r, h => by
    simp only [mGo] at h
    split at h
    · cases h
    · next S' hS => exact HP.2.1 _ _ _ (hpR_step HP hcl hS) (hpR_go HP hcl k h)
    · next r' hS => cases h; exact hpR_step HP hcl hS
theorem hpR_ex (HP : hpR P) {F : Nat} : ∀ (d : Nat), callP P (mEx F d)
  | 0, _, _, _, _, h => by cases h
  | d + 1, _, _, _, _, h => by
    simp only [mEx] at h
    split at h
    · exact hpR_go HP (hpR_ex HP d) F h
    · cases h
theorem hpR_ru (HP : hpR P) {d : Nat} {args : List Value} {h : mHp} {r : mRes × mHp} (R : Ru d y args h r) : P h r.2 := by
  obtain ⟨F, hF⟩ := R
  exact hpR_ex HP d _ _ _ _ hF
/-- what reading and writing of the heap comes to -/
theorem mem_cases {a b : Nat} {st : List Value} {h : mHp} {i : Instr} {q : List Value × mHp} (hm : mMem y a b st h i = some q) :
    q.2 = h ∨ (∃ j v, a < 12 ∧ hTag h j = a ∧ fits (clsTy a b) v = true ∧ q.2 = hSet h j b v) ∨ (∃ j k v, ((hTag h j = 100 ∧ isI v = true) ∨ (hTag h j = 101 ∧ fits .char v = true) ∨ (hTag h j = 102 ∧ fits .boolean v = true) ∨ (hTag h j = 103 ∧ isL v = true) ∨ (hTag h j = 104 ∧ isD v = true) ∨ hTag h j = 105) ∧ q.2 = hSet h j k v)
    ∨ (a < 12 ∧ q.2 = hNew h a (cls.getD a (mR0, mT0, 0)).2.2 (fun k => defaultValue (clsTy a k))) ∨ (∃ t n k ft, mKind t = some (k, ft) ∧ q.2 = hNew h k n (fun _ => defaultValue ft)) ∨ ∃ n, q.2 = hNew h 105 n (fun _ => .null) := by
  have L : ∀ {t : Nat}, mArrL h st t = some q → q.2 = h := fun hm => by obtain ⟨j, i, r, rfl, -, -, rfl⟩ := mArrL_spec hm; rfl
  cases i with
  | getfield ix =>
    simp only [mMem] at hm
    split at hm
    · split at hm
      · cases hm; exact Or.inl rfl
      · cases hm
    · cases hm
  | putfield ix =>
    simp only [mMem] at hm
    split at hm
    · split at hm
      · next hc => cases hm; exact Or.inr (Or.inl ⟨_, _, hc.2.1, hc.1, hc.2.2.1.2, rfl⟩)
      · cases hm
    · cases hm
  | iaload => exact Or.inl (L hm)
  | caload => exact Or.inl (L hm)
  | baload => exact Or.inl (L hm)
  | laload => exact Or.inl (L hm)
  | daload => exact Or.inl (L hm)
  | aaload => exact Or.inl (L hm)
  | iastore => obtain ⟨v, j, i, r, rfl, h1, -, h3, rfl⟩ := mArrS_spec hm; exact Or.inr (Or.inr (Or.inl ⟨_, _, _, Or.inl ⟨h1, h3⟩, rfl⟩))
  | castore => obtain ⟨v, j, i, r, rfl, h1, -, h3, rfl⟩ := mArrS_spec hm; exact Or.inr (Or.inr (Or.inl ⟨_, _, _, Or.inr (Or.inl ⟨h1, h3⟩), rfl⟩))
  | bastore => obtain ⟨v, j, i, r, rfl, h1, -, h3, rfl⟩ := mArrS_spec hm; exact Or.inr (Or.inr (Or.inl ⟨_, _, _, Or.inr (Or.inr (Or.inl ⟨h1, h3⟩)), rfl⟩))
  | lastore => obtain ⟨v, j, i, r, rfl, h1, -, h3, rfl⟩ := mArrS_spec hm; exact Or.inr (Or.inr (Or.inl ⟨_, _, _, Or.inr (Or.inr (Or.inr (Or.inl ⟨h1, h3⟩))), rfl⟩))
  | dastore => obtain ⟨v, j, i, r, rfl, h1, -, h3, rfl⟩ := mArrS_spec hm; exact Or.inr (Or.inr (Or.inl ⟨_, _, _, Or.inr (Or.inr (Or.inr (Or.inr (Or.inl ⟨h1, h3⟩)))), rfl⟩))
  | aastore =>
    simp only [mMem] at hm
    split at hm
    · split at hm
      · next hc => cases hm; exact Or.inr (Or.inr (Or.inl ⟨_, _, _, Or.inr (Or.inr (Or.inr (Or.inr (Or.inr hc.1)))), rfl⟩))
      · cases hm
    · cases hm
  | arraylength =>
    simp only [mMem] at hm
    split at hm
    · split at hm
      · cases hm; exact Or.inl rfl
      · cases hm
    · cases hm
  | new ix =>
    simp only [mMem] at hm
    split at hm
    · next hc => cases hm; exact Or.inr (Or.inr (Or.inr (Or.inl ⟨hc, rfl⟩)))
    · cases hm
  | newarray t =>
    simp only [mMem] at hm
    split at hm
    · next n r k ft hz =>
      split at hm
      · cases hm; exact Or.inr (Or.inr (Or.inr (Or.inr (Or.inl ⟨t, _, _, _, hz, rfl⟩))))
      · cases hm
    · cases hm
  | anewarray ix =>
    simp only [mMem] at hm
    split at hm
    · split at hm
      · cases hm; exact Or.inr (Or.inr (Or.inr (Or.inr (Or.inr ⟨_, rfl⟩))))
      · cases hm
    · cases hm
  | _ => simp only [mMem] at hm; cases hm
end HPR
/-- old places keep tag and length -/
def tgP (h h' : mHp) : Prop := h.1 ≤ h'.1 ∧ ∀ i, i < h.1 → hTag h' i = hTag h i ∧ hLen h' i = hLen h i
theorem tgP.set {h : mHp} {i k : Nat} {v : Value} : tgP h (hSet h i k v) := ⟨Nat.le_refl _, fun _ _ => ⟨tag_set, len_set⟩⟩
theorem tgP.new {h : mHp} {t n : Nat} {f : Nat → Value} : tgP h (hNew h t n f) := ⟨Nat.le_succ _, fun _ hi => ⟨tag_new hi, len_new hi⟩⟩
theorem tgP_R : hpR tgP := by
  refine ⟨fun h => ⟨Nat.le_refl _, fun _ _ => ⟨rfl, rfl⟩⟩, fun h1 h2 h3 a b => ⟨Nat.le_trans a.1 b.1, fun i hi => ⟨(b.2 i (Nat.lt_of_lt_of_le hi a.1)).1.trans (a.2 i hi).1, (b.2 i (Nat.lt_of_lt_of_le hi a.1)).2.trans (a.2 i hi).2⟩⟩, fun y a b st h i q hm => ?_, fun h => tgP.new⟩
  rcases mem_cases hm with e | ⟨j, v, -, -, -, e⟩ | ⟨j, k, v, -, e⟩ | ⟨-, e⟩ | ⟨t, n, k, ft, -, e⟩ | ⟨n, e⟩ <;> rw [e]
  · exact ⟨Nat.le_refl _, fun _ _ => ⟨rfl, rfl⟩⟩
  · exact tgP.set
  · exact tgP.set
  · exact tgP.new
  · exact tgP.new
  · exact tgP.new
/-- the contents are of their kinds -/
def tyV (t k : Nat) (v : Value) : Bool := if t < 12 then fits (clsTy t k) v else if t = 100 then isI v else if t = 101 then fits .char v else if t = 102 then fits .boolean v else if t = 103 then isL v else if t = 104 then isD v else true
def tyH (h : mHp) : Prop := ∀ i, i < h.1 → ∀ k, tyV (hTag h i) k (hAt h i k) = true
theorem tyH.set {h : mHp} (H : tyH h) {i k : Nat} {v : Value} (hv : tyV (hTag h i) k v = true) : tyH (hSet h i k v) := by
  intro j hj x
  rw [tag_set]
  by_cases q : j = i ∧ x = k
  · obtain ⟨rfl, rfl⟩ := q
    rw [at_eq]
    exact hv
  · rw [at_no q]
    exact H j hj x
theorem tyH.new {h : mHp} (H : tyH h) {t n : Nat} {f : Nat → Value} (hv : ∀ k, tyV t k (f k) = true) : tyH (hNew h t n f) := by
  intro j hj x
  by_cases q : j = h.1
  · subst q
    have e1 : hTag (hNew h t n f) h.1 = t := by unfold hTag hNew; dsimp only; rw [if_pos rfl]
    have e2 : hAt (hNew h t n f) h.1 x = f x := by unfold hAt hNew; dsimp only; rw [if_pos rfl]
    rw [e1, e2]
    exact hv x
  · have hj' : j < h.1 := Nat.lt_of_le_of_ne (Nat.le_of_lt_succ hj) q
    rw [tag_new hj', at_new hj']
    exact H j hj' x
theorem fits_default (t : FieldType) : fits t (defaultValue t) = true := by cases t <;> rfl
def tyP (h h' : mHp) : Prop := tyH h → tyH h'
theorem tyP_R : hpR tyP := by
  refine ⟨fun h H => H, fun h1 h2 h3 a b H => b (a H), fun y a b st h i q hm H => ?_, fun h H => H.new (fun k => rfl)⟩
  rcases mem_cases hm with e | ⟨j, v, ha, ht, hf, e⟩ | ⟨j, k, v, hv, e⟩ | ⟨ha, e⟩ | ⟨t, n, k, ft, hk, e⟩ | ⟨n, e⟩ <;> rw [e]
  · exact H
  · refine H.set ?_
    unfold tyV
    rw [ht, if_pos ha]
    exact hf
  · refine H.set ?_
    rcases hv with ⟨ht, hv⟩ | ⟨ht, hv⟩ | ⟨ht, hv⟩ | ⟨ht, hv⟩ | ⟨ht, hv⟩ | ht
    all_goals (unfold tyV; rw [ht])
    · exact hv
    · exact hv
    · exact hv
    · exact hv
    · exact hv
    · rfl
  · refine H.new (fun k => ?_)
    unfold tyV
    rw [if_pos ha]
    exact fits_default _
  · refine H.new (fun x => ?_)
    cases t <;> simp only [mKind, Option.some.injEq, Prod.mk.injEq, reduceCtorEq] at hk
    all_goals (obtain ⟨rfl, rfl⟩ := hk; rfl)
  · exact H.new (fun k => rfl)
theorem lawH_ty {L : Nat} {xs : Nat → Int32} : tyH (lawH L xs) := by
  intro i hi k
  have : i = 0 := by have : i < 1 := hi; omega
  subst this
  rfl
theorem Ru.ty {d y : Nat} {args : List Value} {h : mHp} {r : mRes × mHp} (R : Ru d y args h r) (H : tyH h) : tyH r.2 := hpR_ru tyP_R R H
theorem Ru.tg {d y : Nat} {args : List Value} {h : mHp} {r : mRes × mHp} (R : Ru d y args h r) : tgP h r.2 := hpR_ru tgP_R R
theorem tyH.int {h : mHp} (H : tyH h) {i k : Nat} (hi : i < h.1) (ht : hTag h i = 100) : ∃ z, rg z ∧ hAt h i k = vi z := by
  have := H i hi k
  rw [ht] at this
  obtain ⟨x, hx⟩ := isI_spec this
  exact ⟨x.toInt, ⟨x.le_toInt, x.toInt_lt⟩, by rw [hx]; unfold vi; rw [Int32.ofInt_toInt]⟩
