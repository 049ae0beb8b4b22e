/-! Runs with as much fuel as they want. -/
def callSub (c c' : Nat → List Value → mHp → Option (mRes × mHp)) : Prop := ∀ b as h o, c b as h = some o → c' b as h = some o
section MONO
variable {call call' : Nat → List Value → mHp → Option (mRes × mHp)} {y : Nat}
theorem mono_inv (hs : callSub call call') {pc a b : Nat} {lv : List (Nat × Value)} {st : List Value} {h : mHp} {i : Instr} {S : mSt} (hm : mInv call y pc a b lv st h i = some S) : mInv call' y pc a b lv st h i = some S := by
  have bnd : ∀ {as rest : List Value}, (call b as h).bind (mBack y pc lv rest) = some S → (call' b as h).bind (mBack y pc lv rest) = some S := by
    intro as rest hb
    obtain ⟨o, h1, h2⟩ := Option.bind_eq_some_iff.mp hb
    rw [hs b as h o h1, Option.bind_some]
    exact h2
  cases i with
  | invokevirtual ix =>
    simp only [mInv] at hm ⊢
    split at hm
    · split at hm
      · next hcd => rw [if_pos hcd]; exact bnd hm
      · cases hm
    · cases hm
  | invokestatic ix =>
    simp only [mInv] at hm ⊢
    split at hm
    · next ha => rw [if_pos ha]; exact hm
    · next ha =>
      rw [if_neg ha]
      split at hm
      · next hcd => rw [if_pos hcd]; exact bnd hm
      · cases hm
  | invokespecial ix =>
    simp only [mInv] at hm ⊢
    split at hm
    · next ha => rw [if_pos ha]; exact hm
    · next ha =>
      rw [if_neg ha]
      split at hm
      · cases hm
      · next ha9 =>
        rw [if_neg ha9]
        split at hm
        · split at hm
          · next hcd => rw [if_pos hcd]; exact bnd hm
          · cases hm
        · cases hm
  | _ => simp only [mInv] at hm; cases hm
theorem mono_step (hs : callSub call call') {sc : Bool} {S : mSt} {X : mSt ⊕ (mRes × mHp)} (hm : mStep call sc y S = some X) : mStep call' sc y S = some X := by
  unfold mStep at hm ⊢
  split at hm
  · cases hm
  · unfold mIns at hm ⊢
    split at hm
    · exact hm
    · exact hm
    · exact hm
    · exact hm
    · obtain ⟨q, h1, rfl⟩ := Option.map_eq_some_iff.mp hm; rw [mono_inv hs h1]; rfl
    · exact hm
    · exact hm
theorem mono_go (hs : callSub call call') {sc : Bool} : ∀ (k j : Nat) {S : mSt} {r : mRes × mHp}, mGo call sc y k S = some r → mGo call' sc y (k + j) S = some r
  | 0, _, _, _, h => by cases h
  | k + 1, j, S, r, h => by
    rw [Nat.succ_add]
    simp only [mGo] at h ⊢
    split at h
    · cases h
    · next S' hS => rw [mono_step hs hS]; exact mono_go hs k j h
    · next r' hS => rw [mono_step hs hS]; exact h
end MONO
theorem mono_ex : ∀ (d : Nat) {F G : Nat}, F ≤ G → callSub (mEx F d) (mEx G d)
  | 0, _, _, _ => fun _ _ _ _ h => by cases h
  | d + 1, F, G, hF => fun b as h o hx => by
    simp only [mEx] at hx ⊢
    split at hx
    · next hl =>
      rw [if_pos hl]
      have := mono_go (mono_ex d hF) F (G - F) hx
      rwa [Nat.add_sub_cancel' hF] at this
    · cases hx
theorem deep_ex {F : Nat} : ∀ (d : Nat), callSub (mEx F d) (mEx F (d + 1))
  | 0 => fun _ _ _ _ h => by cases h
  | d + 1 => fun b as h o hx => by
    rw [mEx] at hx ⊢
    split at hx
    · next hl =>
      rw [if_pos hl]
      exact mono_go (deep_ex d) F 0 hx
    · cases hx
/-- the method y, at most d deep, comes to the end r -/
def Ru (d y : Nat) (args : List Value) (h : mHp) (r : mRes × mHp) : Prop := ∃ F, mEx F d y args h = some r
/-- its body does, from S -/
def Go (d : Nat) (sc : Bool) (y : Nat) (S : mSt) (r : mRes × mHp) : Prop := ∃ F k, mGo (mEx F d) sc y k S = some r
theorem Ru.deep {d e y : Nat} {args : List Value} {h : mHp} {r : mRes × mHp} (hd : d ≤ e) (R : Ru d y args h r) : Ru e y args h r := by
  obtain ⟨F, hF⟩ := R
  refine ⟨F, ?_⟩
  induction e with
  | zero => have : d = 0 := by omega
            subst this; exact hF
  | succ e ih =>
    by_cases q : d = e + 1
    · subst q; exact hF
    · exact deep_ex e _ _ _ _ (ih (by omega))
section GO
variable {d : Nat} {sc : Bool} {y pc n a b w : Nat} {lv lv' : List (Nat × Value)} {st st' : List Value} {h h' : mHp} {i : Instr} {r : mRes × mHp}
theorem g_nx {S S' : mSt} (hs : ∀ F, mStep (mEx F d) sc y S = some (.inl S')) (K : Go d sc y S' r) : Go d sc y S r := by
  obtain ⟨F, k, hk⟩ := K
  exact ⟨F, k + 1, go_nx (hs F) hk⟩
theorem ru_go {args : List Value} (hl : (lg_sl args).length ≤ mMaxL y) (K : Go d false y (0, lv_args 0 args, [], h) r) : Ru (d + 1) y args h r := by
  obtain ⟨F, k, hk⟩ := K
  refine ⟨F + k, ?_⟩
  simp only [mEx, if_pos hl]
  have := mono_go (mono_ex d (Nat.le_add_right F k)) k F hk
  rwa [Nat.add_comm k F] at this
theorem go_F {S : mSt} (K : Go d sc y S r) : ∃ F, mGo (mEx F d) sc y F S = some r := by
  obtain ⟨F, k, hk⟩ := K
  refine ⟨F + k, ?_⟩
  have := mono_go (mono_ex d (Nat.le_add_right F k)) k F hk
  rwa [Nat.add_comm k F] at this
theorem g_p (hc : mcd y pc = some (i, n, a, b, w)) (hg : mGrp a i = 0) (hp : mPure a b st i = some st') (K : Go d sc y (pc + n, lv, st', h) r) : Go d sc y (pc, lv, st, h) r := by
  obtain ⟨F, k, hk⟩ := K; exact ⟨F, k + 1, sx_p hc hg hp hk⟩
theorem g_l (hc : mcd y pc = some (i, n, a, b, w)) (hg : mGrp a i = 1) (hp : mLoc (mMaxL y) lv st i = some (lv', st')) (K : Go d sc y (pc + n, lv', st', h) r) : Go d sc y (pc, lv, st, h) r := by
  obtain ⟨F, k, hk⟩ := K; exact ⟨F, k + 1, sx_l hc hg hp hk⟩
theorem g_b {o : Option Int} {t : Nat} (hc : mcd y pc = some (i, n, a, b, w)) (hg : mGrp a i = 2) (hp : mBr pc st i = some (o, st')) (ht : mOff pc n o = some t) (K : Go d sc y (t, lv, st', h) r) : Go d sc y (pc, lv, st, h) r := by
  obtain ⟨F, k, hk⟩ := K; exact ⟨F, k + 1, sx_b hc hg hp ht hk⟩
theorem g_z {cn : ClassFile.Cond} {z : Int} {x : Int32} {q : Bool} {t : Nat} (hc : mcd y pc = some (.ifCond cn z, n, a, b, w)) (hd : 0 ≤ (pc : Int) + z) (hq : mCnd x 0 cn = q) (ht : mOff pc n (if q = true then some z else none) = some t) (K : Go d sc y (t, lv, st, h) r) : Go d sc y (pc, lv, .int x :: st, h) r := by
  obtain ⟨F, k, hk⟩ := K; exact ⟨F, k + 1, sx_z hc hd hq ht hk⟩
theorem g_c {cn : ClassFile.Cond} {z : Int} {x x2 : Int32} {q : Bool} {t : Nat} (hc : mcd y pc = some (.if_icmp cn z, n, a, b, w)) (hd : 0 ≤ (pc : Int) + z) (hq : mCnd x x2 cn = q) (ht : mOff pc n (if q = true then some z else none) = some t) (K : Go d sc y (t, lv, st, h) r) : Go d sc y (pc, lv, .int x2 :: .int x :: st, h) r := by
  obtain ⟨F, k, hk⟩ := K; exact ⟨F, k + 1, sx_c hc hd hq ht hk⟩
theorem g_m (hc : mcd y pc = some (i, n, a, b, w)) (hg : mGrp a i = 3) (hs : (if sc = true then mScr h st i else none) = none) (hp : mMem y a b st h i = some (st', h')) (K : Go d sc y (pc + n, lv, st', h') r) : Go d sc y (pc, lv, st, h) r := by
  obtain ⟨F, k, hk⟩ := K; exact ⟨F, k + 1, sx_m hc hg hs hp hk⟩
theorem g_sc (hc : mcd y pc = some (i, n, a, b, w)) (hg : mGrp a i = 3) (hp : mScr h st i = some st') (K : Go d true y (pc + n, lv, st', h) r) : Go d true y (pc, lv, st, h) r := by
  obtain ⟨F, k, hk⟩ := K; exact ⟨F, k + 1, sx_sc hc hg hp hk⟩
theorem g_gf {ix j : Nat} {v : Value} (hc : mcd y pc = some (.getfield ix, n, a, b, w)) (ht : hTag h j = a) (ha : a < 12) (hv : hAt h j b = v) (K : Go d sc y (pc + n, lv, v :: st, h) r) : Go d sc y (pc, lv, .ref j :: st, h) r := by
  obtain ⟨F, k, hk⟩ := K; exact ⟨F, k + 1, sx_gf hc ht ha hv hk⟩
theorem g_pf {ix j : Nat} {v : Value} (hc : mcd y pc = some (.putfield ix, n, a, b, w)) (ht : hTag h j = a) (ha : a < 12) (h1 : okTy (clsTy a b) = true) (h2 : fits (clsTy a b) v = true) (h3 : ((cls.getD a (mR0, mT0, 0)).2.1 b).2.2.2 = false) (K : Go d sc y (pc + n, lv, st, hSet h j b v) r) : Go d sc y (pc, lv, v :: .ref j :: st, h) r := by
  obtain ⟨F, k, hk⟩ := K; exact ⟨F, k + 1, sx_pf hc ht ha h1 h2 h3 hk⟩
/-- a write of a final field, in the class's own constructor -/
theorem g_pi {ix j : Nat} {v : Value} (hc : mcd y pc = some (.putfield ix, n, a, b, w)) (ht : hTag h j = a) (ha : a < 12) (h1 : okTy (clsTy a b) = true) (h2 : fits (clsTy a b) v = true) (h3 : (mInf y).1.name = "<init>" ∧ mOwn y = a) (K : Go d sc y (pc + n, lv, st, hSet h j b v) r) : Go d sc y (pc, lv, v :: .ref j :: st, h) r := by
  refine g_m hc rfl no_scrp ?_ K
  simp only [mMem, if_pos (show hTag h j = a ∧ a < 12 ∧ (okTy (clsTy a b) = true ∧ fits (clsTy a b) v = true) ∧ ((((cls.getD a (mR0, mT0, 0)).2.1 b).2.2.2 = false) ∨ ((mInf y).1.name = "<init>" ∧ mOwn y = a)) from ⟨ht, ha, ⟨h1, h2⟩, Or.inr h3⟩)]
theorem g_al {t j : Nat} {x : Int32} {v : Value} (hc : mcd y pc = some (i, n, a, b, w)) (hg : mGrp a i = 3) (hs : (if sc = true then mScr h (.int x :: .ref j :: st) i else none) = none) (hm : mMem y a b (.int x :: .ref j :: st) h i = mArrL h (.int x :: .ref j :: st) t) (ht : hTag h j = t) (hb : vp_in x (hLen h j)) (hv : hAt h j x.toNatClampNeg = v) (K : Go d sc y (pc + n, lv, v :: st, h) r) : Go d sc y (pc, lv, .int x :: .ref j :: st, h) r := by
  obtain ⟨F, k, hk⟩ := K; exact ⟨F, k + 1, sx_al hc hg hs hm ht hb hv hk⟩
theorem g_as {t j : Nat} {x : Int32} {v : Value} {ok : Value → Bool} (hc : mcd y pc = some (i, n, a, b, w)) (hg : mGrp a i = 3) (hs : (if sc = true then mScr h (v :: .int x :: .ref j :: st) i else none) = none) (hm : mMem y a b (v :: .int x :: .ref j :: st) h i = mArrS h (v :: .int x :: .ref j :: st) t ok) (ht : hTag h j = t) (hb : vp_in x (hLen h j)) (hv : ok v = true) (K : Go d sc y (pc + n, lv, st, hSet h j x.toNatClampNeg v) r) : Go d sc y (pc, lv, v :: .int x :: .ref j :: st, h) r := by
  obtain ⟨F, k, hk⟩ := K; exact ⟨F, k + 1, sx_as hc hg hs hm ht hb hv hk⟩
theorem g_len {j : Nat} (hc : mcd y pc = some (.arraylength, n, a, b, w)) (hs : (if sc = true then mScr h (.ref j :: st) .arraylength else none) = none) (h1 : 100 ≤ hTag h j) (h2 : hTag h j ≤ 105) (K : Go d sc y (pc + n, lv, .int (Int32.ofNat (hLen h j)) :: st, h) r) : Go d sc y (pc, lv, .ref j :: st, h) r := by
  obtain ⟨F, k, hk⟩ := K; exact ⟨F, k + 1, sx_len hc hs h1 h2 hk⟩
theorem g_new {ix : Nat} (hc : mcd y pc = some (.new ix, n, a, b, w)) (ha : a < 12) (K : Go d sc y (pc + n, lv, .ref h.1 :: st, hNew h a (cls.getD a (mR0, mT0, 0)).2.2 (fun k => defaultValue (clsTy a k))) r) : Go d sc y (pc, lv, st, h) r := by
  refine g_m hc ?_ ?_ ?_ K
  · unfold mGrp; exact if_pos (by omega)
  · cases sc <;> rfl
  · simp only [mMem, if_pos ha]
theorem call_max {o : mRes × mHp} {S0 S' : mSt} {z : Nat} {as : List Value} {h0 : mHp} (hcl : Ru d z as h0 o) (K : Go d sc y S' r) (hs : ∀ F k, mEx F d z as h0 = some o → mGo (mEx F d) sc y k S' = some r → ∃ F k, mGo (mEx F d) sc y k S0 = some r) : Go d sc y S0 r := by
  obtain ⟨F1, h1⟩ := hcl
  obtain ⟨F2, k, h2⟩ := K
  exact hs (F1 + F2) k (mono_ex d (Nat.le_add_right F1 F2) _ _ _ _ h1) (mono_go (mono_ex d (Nat.le_add_left F2 F1)) k 0 h2)
theorem g_iv {ix j : Nat} {as rest : List Value} {o : Option Value} (hc : mcd y pc = some (.invokevirtual ix, n, a, b, w)) (hst : st.drop (mArgN b) = .ref j :: rest) (has : (st.take (mArgN b)).reverse = as) (ht : hTag h j = mOwn b) (ho : mOwn b < 12) (h8 : mRoom8 rest = true) (hcl : Ru d b (.ref j :: as) h (.inl o, h')) (K : Go d sc y (pc + 3, lv, o.toList ++ rest, h') r) : Go d sc y (pc, lv, st, h) r :=
  call_max hcl K (fun F k h1 h2 => ⟨F, k + 1, sx_iv hc hst has ht ho h8 h1 h2⟩)
theorem g_is {ix : Nat} {as rest : List Value} {o : Option Value} (hc : mcd y pc = some (.invokestatic ix, n, a, b, w)) (ha : a ≠ 5) (hl : mArgN b ≤ st.length) (hst : st.drop (mArgN b) = rest) (has : (st.take (mArgN b)).reverse = as) (h8 : mRoom8 rest = true) (hcl : Ru d b as h (.inl o, h')) (K : Go d sc y (pc + 3, lv, o.toList ++ rest, h') r) : Go d sc y (pc, lv, st, h) r :=
  call_max hcl K (fun F k h1 h2 => ⟨F, k + 1, sx_is hc ha hl hst has h8 h1 h2⟩)
theorem g_ivx {ix j kx t : Nat} {as rest : List Value} (hc : mcd y pc = some (.invokevirtual ix, n, a, b, w)) (hst : st.drop (mArgN b) = .ref j :: rest) (has : (st.take (mArgN b)).reverse = as) (ht : hTag h j = mOwn b) (ho : mOwn b < 12) (h8 : mRoom8 rest = true) (hcl : Ru d b (.ref j :: as) h (.inr kx, h')) (hx : mCatch y pc kx = some t) (K : Go d sc y (t, lv, [.retAddr 0], h') r) : Go d sc y (pc, lv, st, h) r :=
  call_max hcl K (fun F k h1 h2 => ⟨F, k + 1, sx_ivx hc hst has ht ho h8 h1 hx h2⟩)
/-- a constructor's call -/
theorem g_sp {ix j : Nat} {as rest : List Value} {o : Option Value} (hc : mcd y pc = some (.invokespecial ix, n, a, b, w)) (ha : a ≠ 4) (ha9 : a ≠ 9) (hst : st.drop (mArgN b) = .ref j :: rest) (has : (st.take (mArgN b)).reverse = as) (ht : hTag h j = mOwn b) (ho : mOwn b < 12) (h8 : mRoom8 rest = true) (hcl : Ru d b (.ref j :: as) h (.inl o, h')) (K : Go d sc y (pc + 3, lv, o.toList ++ rest, h') r) : Go d sc y (pc, lv, st, h) r := by
  subst has
  refine call_max hcl K (fun F k h1 h2 => ⟨F, k + 1, sx_i hc rfl ?_ h2⟩)
  simp only [mInv, if_neg ha, if_neg ha9, hst, if_pos (show hTag h j = mOwn b ∧ mOwn b < 12 ∧ mRoom8 rest = true from ⟨ht, ho, h8⟩), h1, Option.bind_some, mBack]
/-- Object's own constructor -/
theorem g_s4 {ix j : Nat} {rest : List Value} (hc : mcd y pc = some (.invokespecial ix, n, 4, b, w)) (h8 : mRoom8 rest = true) (K : Go d sc y (pc + 3, lv, rest, h) r) : Go d sc y (pc, lv, .ref j :: rest, h) r := by
  obtain ⟨F, k, hk⟩ := K
  refine ⟨F, k + 1, sx_i hc rfl ?_ hk⟩
  simp only [mInv, if_pos, if_pos h8]
/-- Math.min -/
theorem g_mn {ix : Nat} {u v : Int32} {rest : List Value} (hc : mcd y pc = some (.invokestatic ix, n, 5, b, w)) (h8 : mRoom8 rest = true) (K : Go d sc y (pc + 3, lv, .int (if v < u then v else u) :: rest, h) r) : Go d sc y (pc, lv, .int v :: .int u :: rest, h) r := by
  obtain ⟨F, k, hk⟩ := K
  refine ⟨F, k + 1, sx_i hc rfl ?_ hk⟩
  simp only [mInv, if_pos, if_pos h8]
theorem g_r {o : Option Value} (hc : mcd y pc = some (i, n, a, b, w)) (hg : mGrp a i = 5) (hp : mRet y st i = some o) : Go d sc y (pc, lv, st, h) (.inl o, h) := ⟨0, 1, sx_r hc hg hp⟩
theorem g_t (hc : mcd y pc = some (i, n, a, b, w)) (hg : mGrp a i = 6) (ha : a < 105) (h8 : mRoom8 st = true) : Go d sc y (pc, lv, st, h) (.inr (a - 100), hNew h 200 6 (fun _ => .null)) := ⟨0, 1, sx_t hc hg ha h8⟩
end GO
