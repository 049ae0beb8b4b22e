/-! Ints as integers: steps over them. -/
abbrev vi (z : Int) : Value := .int (Int32.ofInt z)
def rg (z : Int) : Prop := -2147483648 ≤ z ∧ z < 2147483648
theorem rg.to {z : Int} (h : rg z) : (Int32.ofInt z).toInt = z := by
  obtain ⟨h1, h2⟩ := h
  exact Int32.toInt_ofInt_of_le h1 h2
theorem vi_add {a b : Int} : Int32.ofInt a + Int32.ofInt b = Int32.ofInt (a + b) := (Int32.ofInt_add a b).symm
theorem vi_sub {a b : Int} : Int32.ofInt a - Int32.ofInt b = Int32.ofInt (a - b) := (Int32.ofInt_sub a b).symm
theorem vi_mul {a b : Int} : Int32.ofInt a * Int32.ofInt b = Int32.ofInt (a * b) := (Int32.ofInt_mul a b).symm
theorem vi_nat {n : Nat} : Int32.ofNat n = Int32.ofInt (n : Int) := (Int32.ofInt_eq_ofNat (n := n)).symm
def cndI (a b : Int) : ClassFile.Cond → Bool
  | .eq => decide (a = b)
  | .ne => decide (a ≠ b)
  | .lt => decide (a < b)
  | .ge => decide (a ≥ b)
  | .gt => decide (a > b)
  | .le => decide (a ≤ b)
theorem cndI_ok {a b : Int} {cn : ClassFile.Cond} (ha : rg a) (hb : rg b) : mCnd (Int32.ofInt a) (Int32.ofInt b) cn = cndI a b cn := by
  have e : (Int32.ofInt a = Int32.ofInt b) ↔ a = b := by
    rw [← Int32.toInt_inj, ha.to, hb.to]
  have l : (Int32.ofInt a < Int32.ofInt b) ↔ a < b := by
    rw [Int32.lt_iff_toInt_lt, ha.to, hb.to]
  have l2 : (Int32.ofInt b < Int32.ofInt a) ↔ b < a := by
    rw [Int32.lt_iff_toInt_lt, ha.to, hb.to]
  have k : (Int32.ofInt a ≤ Int32.ofInt b) ↔ a ≤ b := by
    rw [Int32.le_iff_toInt_le, ha.to, hb.to]
  have k2 : (Int32.ofInt b ≤ Int32.ofInt a) ↔ b ≤ a := by
    rw [Int32.le_iff_toInt_le, ha.to, hb.to]
  cases cn with
  | eq => simp only [mCnd, cndI, e]
  | ne => simp only [mCnd, cndI, ne_eq, e]
  | lt => simp only [mCnd, cndI, l]
  | ge => simp only [mCnd, cndI, ge_iff_le, k2]
  | gt => simp only [mCnd, cndI, gt_iff_lt, l2]
  | le => simp only [mCnd, cndI, k]
theorem vp_in_ok {z : Int} {n : Nat} (h0 : 0 ≤ z) (h1 : z < (n : Int)) (hn : n ≤ 100000) : vp_in (Int32.ofInt z) n ∧ (Int32.ofInt z).toNatClampNeg = z.toNat := by
  have hr : rg z := ⟨by omega, by omega⟩
  have e : (Int32.ofInt z).toNatClampNeg = z.toNat := by
    unfold Int32.toNatClampNeg
    rw [hr.to]
  refine ⟨?_, e⟩
  intro q
  rw [e, Int32.lt_iff_toInt_lt, hr.to] at q
  have z0 : (0 : Int32).toInt = 0 := rfl
  rw [z0] at q
  omega
section GI
variable {d : Nat} {sc : Bool} {y pc n a b w : Nat} {lv lv' : List (Nat × Value)} {st st' : List Value} {h h' : mHp} {i : Instr} {r : mRes × mHp}
theorem gi_add {u v : Int} (hc : mcd y pc = some (.iadd, n, a, b, w)) (K : Go d sc y (pc + n, lv, vi (u + v) :: st, h) r) : Go d sc y (pc, lv, vi v :: vi u :: st, h) r := g_p hc rfl (by simp only [mPure, mII, Option.map_some, vi_add]) K
theorem gi_sub {u v : Int} (hc : mcd y pc = some (.isub, n, a, b, w)) (K : Go d sc y (pc + n, lv, vi (u - v) :: st, h) r) : Go d sc y (pc, lv, vi v :: vi u :: st, h) r := g_p hc rfl (by simp only [mPure, mII, Option.map_some, vi_sub]) K
theorem gi_mul {u v : Int} (hc : mcd y pc = some (.imul, n, a, b, w)) (K : Go d sc y (pc + n, lv, vi (u * v) :: st, h) r) : Go d sc y (pc, lv, vi v :: vi u :: st, h) r := g_p hc rfl (by simp only [mPure, mII, Option.map_some, vi_mul]) K
/-- a constant, as an integer -/
theorem gi_k {x : Int} {v : Value} (hc : mcd y pc = some (i, n, a, b, w)) (hg : mGrp a i = 0) (hp : mPure a b st i = some (v :: st)) (hv : v = vi x) (K : Go d sc y (pc + n, lv, vi x :: st, h) r) : Go d sc y (pc, lv, st, h) r := by
  subst hv; exact g_p hc hg hp K
theorem gi_c {u v z : Int} {cn : ClassFile.Cond} {q : Bool} {t : Nat} (hc : mcd y pc = some (.if_icmp cn z, n, a, b, w)) (hd : 0 ≤ (pc : Int) + z) (ru : rg u) (rv : rg v) (hq : cndI u v cn = q) (ht : mOff pc n (if q = true then some z else none) = some t) (K : Go d sc y (t, lv, st, h) r) : Go d sc y (pc, lv, vi v :: vi u :: st, h) r := g_c hc hd ((cndI_ok ru rv).trans hq) ht K
theorem gi_z {u z : Int} {cn : ClassFile.Cond} {q : Bool} {t : Nat} (hc : mcd y pc = some (.ifCond cn z, n, a, b, w)) (hd : 0 ≤ (pc : Int) + z) (ru : rg u) (hq : cndI u 0 cn = q) (ht : mOff pc n (if q = true then some z else none) = some t) (K : Go d sc y (t, lv, st, h) r) : Go d sc y (pc, lv, vi u :: st, h) r := g_z hc hd ((cndI_ok (b := 0) ru ⟨by decide, by decide⟩).trans hq) ht K
theorem gi_len {j : Nat} (hc : mcd y pc = some (.arraylength, n, a, b, w)) (hs : (if sc = true then mScr h (.ref j :: st) .arraylength else none) = none) (h1 : 100 ≤ hTag h j) (h2 : hTag h j ≤ 105) (K : Go d sc y (pc + n, lv, vi (hLen h j : Int) :: st, h) r) : Go d sc y (pc, lv, .ref j :: st, h) r := g_len hc hs h1 h2 (by rw [vi_nat]; exact K)
theorem gi_al {t j : Nat} {z : Int} {v : Value} (hc : mcd y pc = some (i, n, a, b, w)) (hg : mGrp a i = 3) (hs : (if sc = true then mScr h (vi z :: .ref j :: st) i else none) = none) (hm : mMem y a b (vi z :: .ref j :: st) h i = mArrL h (vi z :: .ref j :: st) t) (ht : hTag h j = t) (h0 : 0 ≤ z) (h1 : z < (hLen h j : Int)) (h2 : hLen h j ≤ 100000) (hv : hAt h j z.toNat = v) (K : Go d sc y (pc + n, lv, v :: st, h) r) : Go d sc y (pc, lv, vi z :: .ref j :: st, h) r := by
  obtain ⟨e1, e2⟩ := vp_in_ok h0 h1 h2
  exact g_al hc hg hs hm ht e1 (by rw [e2]; exact hv) K
theorem gi_as {t j : Nat} {z : Int} {v : Value} {ok : Value → Bool} (hc : mcd y pc = some (i, n, a, b, w)) (hg : mGrp a i = 3) (hs : (if sc = true then mScr h (v :: vi z :: .ref j :: st) i else none) = none) (hm : mMem y a b (v :: vi z :: .ref j :: st) h i = mArrS h (v :: vi z :: .ref j :: st) t ok) (ht : hTag h j = t) (h0 : 0 ≤ z) (h1 : z < (hLen h j : Int)) (h2 : hLen h j ≤ 100000) (hv : ok v = true) (K : Go d sc y (pc + n, lv, st, hSet h j z.toNat v) r) : Go d sc y (pc, lv, v :: vi z :: .ref j :: st, h) r := by
  obtain ⟨e1, e2⟩ := vp_in_ok h0 h1 h2
  refine g_as hc hg hs hm ht e1 hv ?_
  rw [e2]
  exact K
end GI
theorem gi_inc {d : Nat} {sc : Bool} {y pc n a b w k : Nat} {m : Int} {z : Int} {lv : List (Nat × Value)} {st : List Value} {h : mHp} {r : mRes × mHp} (hc : mcd y pc = some (.iinc k m, n, a, b, w)) (hg : mGrp a (.iinc k m) = 1) (hl : lv.lookup k = some (vi z)) (hk : k < mMaxL y) (K : Go d sc y (pc + n, mSto1 lv k (vi (z + m)), st, h) r) : Go d sc y (pc, lv, st, h) r := by
  refine g_l hc hg ?_ K
  simp only [mLoc, hl, if_pos hk, vi_add]
