/-! The static heap: the places 1 .. 99, made once, with their tags, lengths and references. -/
def shTl : List Nat := [0, 0, 1, 2, 100, 3, 2, 100, 2, 100, 2, 100, 2, 100, 2, 100, 2, 100, 2, 100, 3, 2, 100, 2, 100, 2, 100, 2, 100, 2, 100, 2, 100, 2, 100, 4, 2, 100, 5, 2, 100, 2, 100, 2, 100, 2, 100, 2, 100, 6, 2, 100, 2, 100, 7, 105, 2, 100, 11, 101, 100, 100, 100, 100, 100, 100, 100, 100, 100, 100, 100, 100, 100, 100, 100, 100, 100, 100, 102, 100, 100, 100, 100, 100, 100, 100, 100, 100, 101, 103, 100, 100, 103, 100, 103, 103, 104, 103, 103, 104]
def shLl : List Nat := [0, 10, 2, 1, 60, 9, 1, 128, 1, 128, 1, 128, 1, 128, 1, 128, 1, 128, 1, 128, 9, 1, 128, 1, 128, 1, 128, 1, 128, 1, 128, 1, 128, 1, 128, 7, 1, 26, 8, 1, 3000, 1, 3000, 1, 3000, 1, 20, 1, 20, 7, 1, 64, 1, 64, 12, 200, 1, 80, 72, 60, 124, 124, 124, 124, 124, 124, 80, 80, 80, 80, 180, 180, 180, 180, 124, 124, 64, 64, 64, 1300, 1300, 1300, 1300, 120, 60, 260, 160, 220, 80, 200, 502, 502, 4300, 4300, 502, 502, 502, 80, 1, 1]
def shR : List (Nat × Nat × Nat) := [(1, 0, 2), (3, 0, 4), (2, 0, 3), (6, 0, 7), (5, 0, 6), (8, 0, 9), (5, 1, 8), (10, 0, 11), (5, 2, 10), (12, 0, 13), (5, 3, 12), (14, 0, 15), (5, 4, 14), (16, 0, 17), (5, 5, 16), (18, 0, 19), (5, 6, 18), (1, 1, 5), (21, 0, 22), (20, 0, 21), (23, 0, 24), (20, 1, 23), (25, 0, 26), (20, 2, 25), (27, 0, 28), (20, 3, 27), (29, 0, 30), (20, 4, 29), (31, 0, 32), (20, 5, 31), (33, 0, 34), (20, 6, 33), (1, 2, 20), (1, 3, 35), (36, 0, 37), (35, 2, 36), (35, 0, 2), (35, 1, 5), (1, 4, 38), (39, 0, 40), (38, 0, 39), (41, 0, 42), (38, 1, 41), (43, 0, 44), (38, 2, 43), (45, 0, 46), (38, 3, 45), (47, 0, 48), (38, 4, 47), (1, 5, 49), (50, 0, 51), (49, 2, 50), (52, 0, 53), (49, 3, 52), (49, 0, 5), (49, 1, 38), (1, 6, 54), (54, 1, 55), (54, 0, 20), (56, 0, 57), (1, 7, 56), (58, 1, 59), (58, 4, 60), (58, 5, 61), (58, 6, 62), (58, 8, 63), (58, 9, 64), (58, 10, 65), (58, 12, 66), (58, 13, 67), (58, 15, 68), (58, 16, 69), (58, 17, 70), (58, 18, 71), (58, 19, 72), (58, 20, 73), (58, 25, 74), (58, 26, 75), (58, 27, 76), (58, 28, 77), (58, 29, 78), (58, 31, 79), (58, 32, 80), (58, 33, 81), (58, 34, 82), (58, 36, 83), (58, 40, 84), (58, 42, 85), (58, 46, 86), (58, 47, 87), (58, 48, 88), (58, 50, 89), (58, 52, 90), (58, 53, 91), (58, 55, 92), (58, 56, 93), (58, 59, 94), (58, 60, 95), (58, 62, 96), (58, 71, 97)]
def shT (i : Nat) : Nat := shTl.getD i 0
def shL (i : Nat) : Nat := shLl.getD i 0
def shF (i k : Nat) : Bool := shR.any (fun q => q.1 == i && q.2.1 == k)
def shI (i : Nat) : Bool := Nat.blt 0 i && Nat.blt i 100
def Sh (h : mHp) : Prop := 100 ≤ h.1 ∧ (∀ i, shI i = true → hTag h i = shT i ∧ hLen h i = shL i) ∧ ∀ q ∈ shR, hAt h q.1 q.2.1 = .ref q.2.2
section SH
variable {h h' h2 : mHp}
theorem Sh.t (H : Sh h) (i : Nat) (hi : shI i = true) : hTag h i = shT i := (H.2.1 i hi).1
theorem Sh.l (H : Sh h) (i : Nat) (hi : shI i = true) : hLen h i = shL i := (H.2.1 i hi).2
theorem Sh.r (H : Sh h) (i k t : Nat) (hm : shR.contains (i, k, t) = true) : hAt h i k = .ref t := H.2.2 (i, k, t) (List.contains_iff_mem.mp hm)
theorem shF_no {i k : Nat} (hf : shF i k = false) {q : Nat × Nat × Nat} (hq : q ∈ shR) : ¬ (q.1 = i ∧ q.2.1 = k) := by
  intro e
  have : shF i k = true := List.any_eq_true.mpr ⟨q, hq, by simp [e.1, e.2]⟩
  rw [hf] at this
  cases this
theorem at_no {i k j x : Nat} {v : Value} (hn : ¬ (j = i ∧ x = k)) : hAt (hSet h i k v) j x = hAt h j x := by
  by_cases q : j = i
  · exact at_nk (fun e => hn ⟨q, e⟩)
  · exact at_ne q x
theorem Sh.set (H : Sh h) {i k : Nat} {v : Value} (hf : shF i k = false) : Sh (hSet h i k v) :=
  ⟨H.1, fun j hj => ⟨tag_set.trans (H.t j hj), len_set.trans (H.l j hj)⟩, fun q hq => (at_no (shF_no hf hq)).trans (H.2.2 q hq)⟩
theorem shR_lt : ∀ q ∈ shR, q.1 < 100 := by
  have : (shR.all (fun q => decide (q.1 < 100))) = true := by decide +kernel
  exact fun q hq => of_decide_eq_true (List.all_eq_true.mp this q hq)
theorem Sh.seta (H : Sh h) {i k : Nat} {v : Value} (hi : 100 ≤ i) : Sh (hSet h i k v) :=
  ⟨H.1, fun j hj => ⟨tag_set.trans (H.t j hj), len_set.trans (H.l j hj)⟩, fun q hq => (at_ne (by have := shR_lt q hq; omega) _).trans (H.2.2 q hq)⟩
theorem shI_lt {i : Nat} (hi : shI i = true) : 0 < i ∧ i < 100 := by
  unfold shI at hi
  rw [Bool.and_eq_true] at hi
  exact ⟨Nat.blt_eq.mp hi.1, Nat.blt_eq.mp hi.2⟩
theorem Sh.new (H : Sh h) {t n : Nat} {f : Nat → Value} : Sh (hNew h t n f) := by
  have lt : ∀ {i : Nat}, i < 100 → i < h.1 := fun hi => Nat.lt_of_lt_of_le hi H.1
  exact ⟨Nat.le_succ_of_le H.1, fun j hj => ⟨(tag_new (lt (shI_lt hj).2)).trans (H.t j hj), (len_new (lt (shI_lt hj).2)).trans (H.l j hj)⟩, fun q hq => (at_new (lt (shR_lt q hq)) _).trans (H.2.2 q hq)⟩
/-- nothing made, and nothing changed but what W says -/
def kp (W : Nat → Nat → Bool) (h h' : mHp) : Prop := h'.1 = h.1 ∧ h'.2.1 = h.2.1 ∧ (∀ i, hTag h' i = hTag h i ∧ hLen h' i = hLen h i) ∧ ∀ i k, W i k = false → hAt h' i k = hAt h i k
variable {W W' : Nat → Nat → Bool}
theorem kp.rf : kp W h h := ⟨rfl, rfl, fun _ => ⟨rfl, rfl⟩, fun _ _ _ => rfl⟩
theorem kp.tr (a : kp W h h') (b : kp W h' h2) : kp W h h2 := ⟨b.1.trans a.1, b.2.1.trans a.2.1, fun i => ⟨(b.2.2.1 i).1.trans (a.2.2.1 i).1, (b.2.2.1 i).2.trans (a.2.2.1 i).2⟩, fun i k w => (b.2.2.2 i k w).trans (a.2.2.2 i k w)⟩
theorem kp.set (a : kp W h h') {i k : Nat} {v : Value} (hw : W i k = true) : kp W h (hSet h' i k v) := ⟨a.1, a.2.1, fun j => ⟨tag_set.trans (a.2.2.1 j).1, len_set.trans (a.2.2.1 j).2⟩, fun j x w => (at_no (fun e => by rw [e.1, e.2, hw] at w; cases w)).trans (a.2.2.2 j x w)⟩
theorem kp.wide (a : kp W h h') (hw : ∀ i k, W i k = true → W' i k = true) : kp W' h h' := ⟨a.1, a.2.1, a.2.2.1, fun i k w => a.2.2.2 i k (by
  cases e : W i k with
  | false => rfl
  | true => rw [hw i k e] at w; cases w)⟩
theorem kp.at (a : kp W h h') {i k : Nat} (hw : W i k = false) : hAt h' i k = hAt h i k := a.2.2.2 i k hw
theorem Sh.kp (H : Sh h) (a : kp W h h') (hw : (shR.all (fun q => !(W q.1 q.2.1))) = true) : Sh h' :=
  ⟨a.1 ▸ H.1, fun j hj => ⟨(a.2.2.1 j).1.trans (H.t j hj), (a.2.2.1 j).2.trans (H.l j hj)⟩, fun q hq => (a.2.2.2 _ _ (by
    have := List.all_eq_true.mp hw q hq
    simpa using this)).trans (H.2.2 q hq)⟩
end SH
def shChk (h : mHp) : Bool := decide (100 ≤ h.1) && ((List.range 100).all (fun i => !shI i || (decide (hTag h i = shT i) && decide (hLen h i = shL i)))) && shR.all (fun q => decide (hAt h q.1 q.2.1 = .ref q.2.2))
theorem shChk_ok {h : mHp} (hc : shChk h = true) : Sh h := by
  unfold shChk at hc
  simp only [Bool.and_eq_true, decide_eq_true_eq] at hc
  obtain ⟨⟨h1, h2⟩, h3⟩ := hc
  refine ⟨h1, fun i hi => ?_, fun q hq => of_decide_eq_true (List.all_eq_true.mp h3 q hq)⟩
  have := List.all_eq_true.mp h2 i (List.mem_range.mpr (shI_lt hi).2)
  rw [hi] at this
  simpa using this
theorem frH_sh : shChk frH = true := by decide +kernel
