/-! Single steps of the abstract machine, to walk its code with. -/
section SX
variable {call : Nat → List Value → mHp → Option (mRes × mHp)} {sc : Bool} {y k pc n a b w : Nat} {lv lv' : List (Nat × Value)} {st st' : List Value} {h h' : mHp} {i : Instr} {r : Option (mRes × mHp)}
theorem go_nx {S S' : mSt} (hs : mStep call sc y S = some (.inl S')) (K : mGo call sc y k S' = r) : mGo call sc y (k + 1) S = r := by
  simp only [mGo, hs]; exact K
theorem sx_p (hc : mcd y pc = some (i, n, a, b, w)) (hg : mGrp a i = 0) (hp : mPure a b st i = some st') (K : mGo call sc y k (pc + n, lv, st', h) = r) : mGo call sc y (k + 1) (pc, lv, st, h) = r := by
  refine go_nx ?_ K
  simp only [mStep, hc, mIns, hg, hp, Option.map_some]
theorem sx_l (hc : mcd y pc = some (i, n, a, b, w)) (hg : mGrp a i = 1) (hp : mLoc (mMaxL y) lv st i = some (lv', st')) (K : mGo call sc y k (pc + n, lv', st', h) = r) : mGo call sc y (k + 1) (pc, lv, st, h) = r := by
  refine go_nx ?_ K
  simp only [mStep, hc, mIns, hg, hp, Option.map_some]
theorem sx_b {o : Option Int} {t : Nat} (hc : mcd y pc = some (i, n, a, b, w)) (hg : mGrp a i = 2) (hp : mBr pc st i = some (o, st')) (ht : mOff pc n o = some t) (K : mGo call sc y k (t, lv, st', h) = r) : mGo call sc y (k + 1) (pc, lv, st, h) = r := by
  refine go_nx ?_ K
  simp only [mStep, hc, mIns, hg, hp, Option.bind_some, ht, Option.map_some]
theorem sx_z {cn : ClassFile.Cond} {d : Int} {x : Int32} {q : Bool} {t : Nat} (hc : mcd y pc = some (.ifCond cn d, n, a, b, w)) (hd : 0 ≤ (pc : Int) + d) (hq : mCnd x 0 cn = q) (ht : mOff pc n (if q = true then some d else none) = some t) (K : mGo call sc y k (t, lv, st, h) = r) : mGo call sc y (k + 1) (pc, lv, .int x :: st, h) = r := by
  refine sx_b (o := if q = true then some d else none) (st' := st) hc rfl ?_ ht K
  simp only [mBr, if_pos hd, hq]
theorem sx_c {cn : ClassFile.Cond} {d : Int} {x z : Int32} {q : Bool} {t : Nat} (hc : mcd y pc = some (.if_icmp cn d, n, a, b, w)) (hd : 0 ≤ (pc : Int) + d) (hq : mCnd x z cn = q) (ht : mOff pc n (if q = true then some d else none) = some t) (K : mGo call sc y k (t, lv, st, h) = r) : mGo call sc y (k + 1) (pc, lv, .int z :: .int x :: st, h) = r := by
  refine sx_b (o := if q = true then some d else none) (st' := st) hc rfl ?_ ht K
  simp only [mBr, if_pos hd, hq]
theorem sx_m (hc : mcd y pc = some (i, n, a, b, w)) (hg : mGrp a i = 3) (hs : (if sc = true then mScr h st i else none) = none) (hp : mMem y a b st h i = some (st', h')) (K : mGo call sc y k (pc + n, lv, st', h') = r) : mGo call sc y (k + 1) (pc, lv, st, h) = r := by
  refine go_nx ?_ K
  simp only [mStep, hc, mIns, hg, hs, hp, Option.map_some, mGoOn]
theorem sx_sc (hc : mcd y pc = some (i, n, a, b, w)) (hg : mGrp a i = 3) (hp : mScr h st i = some st') (K : mGo call true y k (pc + n, lv, st', h) = r) : mGo call true y (k + 1) (pc, lv, st, h) = r := by
  refine go_nx ?_ K
  simp only [mStep, hc, mIns, hg, if_true, hp]
theorem no_scr {ix : Nat} : (if sc = true then mScr h st (.getfield ix) else none) = none := by cases sc <;> rfl
theorem no_scrp {ix : Nat} : (if sc = true then mScr h st (.putfield ix) else none) = none := by cases sc <;> rfl
theorem sx_gf {ix j : Nat} {v : Value} (hc : mcd y pc = some (.getfield ix, n, a, b, w)) (ht : hTag h j = a) (ha : a < 12) (hv : hAt h j b = v) (K : mGo call sc y k (pc + n, lv, v :: st, h) = r) : mGo call sc y (k + 1) (pc, lv, .ref j :: st, h) = r := by
  subst hv
  refine sx_m hc rfl no_scr ?_ K
  simp only [mMem, if_pos (show hTag h j = a ∧ a < 12 from ⟨ht, ha⟩)]
theorem sx_i {S' : mSt} (hc : mcd y pc = some (i, n, a, b, w)) (hg : mGrp a i = 4) (hp : mInv call y pc a b lv st h i = some S') (K : mGo call sc y k S' = r) : mGo call sc y (k + 1) (pc, lv, st, h) = r := by
  refine go_nx ?_ K
  simp only [mStep, hc, mIns, hg, hp, Option.map_some]
theorem sx_iv {ix j : Nat} {as rest : List Value} {o : Option Value} (hc : mcd y pc = some (.invokevirtual ix, n, a, b, w)) (hst : st.drop (mArgN b) = .ref j :: rest) (has : (st.take (mArgN b)).reverse = as) (ht : hTag h j = mOwn b) (ho : mOwn b < 12) (h8 : mRoom8 rest = true) (hcl : call b (.ref j :: as) h = some (.inl o, h')) (K : mGo call sc y k (pc + 3, lv, o.toList ++ rest, h') = r) : mGo call sc y (k + 1) (pc, lv, st, h) = r := by
  subst has
  refine sx_i hc rfl ?_ K
  simp only [mInv, hst, if_pos (show hTag h j = mOwn b ∧ mOwn b < 12 ∧ mRoom8 rest = true from ⟨ht, ho, h8⟩), hcl, Option.bind_some, mBack]
theorem sx_is {ix : Nat} {as rest : List Value} {o : Option Value} (hc : mcd y pc = some (.invokestatic ix, n, a, b, w)) (ha : a ≠ 5) (hl : mArgN b ≤ st.length) (hst : st.drop (mArgN b) = rest) (has : (st.take (mArgN b)).reverse = as) (h8 : mRoom8 rest = true) (hcl : call b as h = some (.inl o, h')) (K : mGo call sc y k (pc + 3, lv, o.toList ++ rest, h') = r) : mGo call sc y (k + 1) (pc, lv, st, h) = r := by
  subst has; subst hst
  refine sx_i hc rfl ?_ K
  simp only [mInv, if_neg ha, if_pos (show mArgN b ≤ st.length ∧ mRoom8 (st.drop (mArgN b)) = true from ⟨hl, h8⟩), hcl, Option.bind_some, mBack]
theorem sx_r {o : Option Value} (hc : mcd y pc = some (i, n, a, b, w)) (hg : mGrp a i = 5) (hp : mRet y st i = some o) : mGo call sc y (k + 1) (pc, lv, st, h) = some (.inl o, h) := by
  simp only [mGo, mStep, hc, mIns, hg, hp, Option.map_some]
theorem sx_ivx {ix j kx t : Nat} {as rest : List Value} (hc : mcd y pc = some (.invokevirtual ix, n, a, b, w)) (hst : st.drop (mArgN b) = .ref j :: rest) (has : (st.take (mArgN b)).reverse = as) (ht : hTag h j = mOwn b) (ho : mOwn b < 12) (h8 : mRoom8 rest = true) (hcl : call b (.ref j :: as) h = some (.inr kx, h')) (hx : mCatch y pc kx = some t) (K : mGo call sc y k (t, lv, [.retAddr 0], h') = r) : mGo call sc y (k + 1) (pc, lv, st, h) = r := by
  subst has
  refine sx_i (S' := (t, lv, [.retAddr 0], h')) hc rfl ?_ K
  simp only [mInv, hst, if_pos (show hTag h j = mOwn b ∧ mOwn b < 12 ∧ mRoom8 rest = true from ⟨ht, ho, h8⟩), hcl, Option.bind_some, mBack, hx, Option.map_some]
theorem sx_pf {ix j : Nat} {v : Value} (hc : mcd y pc = some (.putfield ix, n, a, b, w)) (ht : hTag h j = a) (ha : a < 12) (h1 : okTy (clsTy a b) = true) (h2 : fits (clsTy a b) v = true) (h3 : ((cls.getD a (mR0, mT0, 0)).2.1 b).2.2.2 = false) (K : mGo call sc y k (pc + n, lv, st, hSet h j b v) = r) : mGo call sc y (k + 1) (pc, lv, v :: .ref j :: st, h) = r := by
  refine sx_m hc rfl no_scrp ?_ K
  simp only [mMem, if_pos (show hTag h j = a ∧ a < 12 ∧ (okTy (clsTy a b) = true ∧ fits (clsTy a b) v = true) ∧ ((((cls.getD a (mR0, mT0, 0)).2.1 b).2.2.2 = false) ∨ ((mInf y).1.name = "<init>" ∧ mOwn y = a)) from ⟨ht, ha, ⟨h1, h2⟩, Or.inl h3⟩)]
theorem sx_al {t j : Nat} {x : Int32} {v : Value} (hc : mcd y pc = some (i, n, a, b, w)) (hg : mGrp a i = 3) (hs : (if sc = true then mScr h (.int x :: .ref j :: st) i else none) = none) (hm : mMem y a b (.int x :: .ref j :: st) h i = mArrL h (.int x :: .ref j :: st) t) (ht : hTag h j = t) (hb : vp_in x (hLen h j)) (hv : hAt h j x.toNatClampNeg = v) (K : mGo call sc y k (pc + n, lv, v :: st, h) = r) : mGo call sc y (k + 1) (pc, lv, .int x :: .ref j :: st, h) = r := by
  subst hv
  refine sx_m hc hg hs (hm.trans ?_) K
  simp only [mArrL, if_pos (show hTag h j = t ∧ ¬ (x < 0 ∨ hLen h j ≤ x.toNatClampNeg) from ⟨ht, hb⟩)]
theorem sx_as {t j : Nat} {x : Int32} {v : Value} {ok : Value → Bool} (hc : mcd y pc = some (i, n, a, b, w)) (hg : mGrp a i = 3) (hs : (if sc = true then mScr h (v :: .int x :: .ref j :: st) i else none) = none) (hm : mMem y a b (v :: .int x :: .ref j :: st) h i = mArrS h (v :: .int x :: .ref j :: st) t ok) (ht : hTag h j = t) (hb : vp_in x (hLen h j)) (hv : ok v = true) (K : mGo call sc y k (pc + n, lv, st, hSet h j x.toNatClampNeg v) = r) : mGo call sc y (k + 1) (pc, lv, v :: .int x :: .ref j :: st, h) = r := by
  refine sx_m hc hg hs (hm.trans ?_) K
  simp only [mArrS, if_pos (show hTag h j = t ∧ ¬ (x < 0 ∨ hLen h j ≤ x.toNatClampNeg) ∧ ok v = true from ⟨ht, hb, hv⟩)]
theorem sx_len {j : Nat} (hc : mcd y pc = some (.arraylength, n, a, b, w)) (hs : (if sc = true then mScr h (.ref j :: st) .arraylength else none) = none) (h1 : 100 ≤ hTag h j) (h2 : hTag h j ≤ 105) (K : mGo call sc y k (pc + n, lv, .int (Int32.ofNat (hLen h j)) :: st, h) = r) : mGo call sc y (k + 1) (pc, lv, .ref j :: st, h) = r := by
  refine sx_m hc rfl hs ?_ K
  simp only [mMem, if_pos (show 100 ≤ hTag h j ∧ hTag h j ≤ 105 from ⟨h1, h2⟩)]
theorem sx_t (hc : mcd y pc = some (i, n, a, b, w)) (hg : mGrp a i = 6) (ha : a < 105) (h8 : mRoom8 st = true) : mGo call sc y (k + 1) (pc, lv, st, h) = some (.inr (a - 100), hNew h 200 6 (fun _ => .null)) := by
  simp only [mGo, mStep, hc, mIns, hg, if_pos (show a < 105 ∧ mRoom8 st = true from ⟨ha, h8⟩)]
theorem at_ne {j j' q : Nat} {v : Value} (hj : j' ≠ j) (x : Nat) : hAt (hSet h j q v) j' x = hAt h j' x := by unfold hAt hSet; dsimp only; rw [if_neg hj]
theorem at_nk {j j' q x : Nat} {v : Value} (hx : x ≠ q) : hAt (hSet h j q v) j' x = hAt h j' x := by
  unfold hAt hSet
  dsimp only
  by_cases q' : j' = j
  · subst q'; rw [if_pos rfl]; exact if_neg hx
  · rw [if_neg q']
theorem at_eq {j q : Nat} {v : Value} : hAt (hSet h j q v) j q = v := by unfold hAt hSet; dsimp only; rw [if_pos rfl]; exact if_pos rfl
theorem tag_set {j j' q : Nat} {v : Value} : hTag (hSet h j q v) j' = hTag h j' := by
  unfold hTag hSet
  dsimp only
  by_cases q' : j' = j
  · subst q'; rw [if_pos rfl]
  · rw [if_neg q']
theorem len_set {j j' q : Nat} {v : Value} : hLen (hSet h j q v) j' = hLen h j' := by
  unfold hLen hSet
  dsimp only
  by_cases q' : j' = j
  · subst q'; rw [if_pos rfl]
  · rw [if_neg q']
theorem at_new {t m j : Nat} {f : Nat → Value} (hj : j < h.1) (x : Nat) : hAt (hNew h t m f) j x = hAt h j x := by unfold hAt hNew; dsimp only; rw [if_neg (Nat.ne_of_lt hj)]
theorem tag_new {t m j : Nat} {f : Nat → Value} (hj : j < h.1) : hTag (hNew h t m f) j = hTag h j := by unfold hTag hNew; dsimp only; rw [if_neg (Nat.ne_of_lt hj)]
theorem len_new {t m j : Nat} {f : Nat → Value} (hj : j < h.1) : hLen (hNew h t m f) j = hLen h j := by unfold hLen hNew; dsimp only; rw [if_neg (Nat.ne_of_lt hj)]
theorem ex_go {F d : Nat} {args : List Value} (hl : (lg_sl args).length ≤ mMaxL y) (K : mGo (mEx F d) false y F (0, lv_args 0 args, [], h) = r) : mEx F (d + 1) y args h = r := by
  simp only [mEx, if_pos hl]; exact K
end SX
