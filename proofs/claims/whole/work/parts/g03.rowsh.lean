/-! Rows over a heap and a memory: what a method does to both. -/
def isQ (u : Value) : Prop := u = .null ∨ ∃ j, u = .ref j
theorem isQ.n : isQ .null := Or.inl rfl
theorem isQ.j {j : Nat} : isQ (.ref j) := Or.inr ⟨j, rfl⟩
theorem isQ.a {u : Value} (q : isQ u) : isA u = true := by rcases q with rfl | ⟨_, rfl⟩ <;> rfl
/-- a new object of the class a -/
def nwO (h : mHp) (a : Nat) : mHp := hNew h a (cls.getD a (mR0, mT0, 0)).2.2 (fun k => defaultValue (clsTy a k))
def Rh (d y : Nat) (as : List Value) (h : mHp) (σ : Mem) (r : mRes) (h' : mHp) (σ' : Mem) : Prop := RM σ → Sh h → (RM σ' ∧ Sh h') ∧ Ru d y as (put h σ) (r, put h' σ')
def Lh (d y pc : Nat) (lv : List (Nat × Value)) (st : List Value) (h : mHp) (σ : Mem) (r : mRes) (h' : mHp) (σ' : Mem) : Prop := RM σ → Sh h → (RM σ' ∧ Sh h') ∧ Go d false y (pc, lv, st, put h σ) (r, put h' σ')
/-- an array whose cells are no ints -/
def shV (j : Nat) : Bool := !shA j && shI j && shJl.all (fun q => q.1 != j) && shR.all (fun q => q.1 != j)
theorem shJ_V {j k : Nat} (hj : shV j = true) : shJ j k = false := by
  unfold shV at hj
  simp only [Bool.and_eq_true, Bool.not_eq_true'] at hj
  unfold shJ
  rw [hj.1.1.1, Bool.false_or]
  cases q : shJl.contains (j, k)
  · rfl
  · have := List.all_eq_true.mp hj.1.2 _ (List.contains_iff_mem.mp q)
    simp at this
theorem shF_V {j k : Nat} (hj : shV j = true) : shF j k = false := by
  unfold shV at hj
  simp only [Bool.and_eq_true, Bool.not_eq_true'] at hj
  unfold shF
  cases q : shR.any (fun q => q.1 == j && q.2.1 == k)
  · rfl
  · obtain ⟨x, hx, e⟩ := List.any_eq_true.mp q
    have := List.all_eq_true.mp hj.2 _ hx
    simp at this e
    exact absurd e.1 this
theorem shI_V {j : Nat} (hj : shV j = true) : shI j = true := by
  unfold shV at hj
  simp only [Bool.and_eq_true] at hj
  exact hj.1.1.2
theorem mdbl {z : UInt64} (h : nn z = true) : mDbl z = some (.double z) := if_pos h
theorem mld_q {lv : List (Nat × Value)} {st : List Value} {j : Nat} {u : Value} (hl : lv.lookup j = some u) (hq : isQ u) : mLd lv st j isA = some (lv, u :: st) := by unfold mLd; rw [hl]; dsimp only; rw [if_pos hq.a]
theorem mst_q {lv : List (Nat × Value)} {st : List Value} {nL k : Nat} {u : Value} (hq : isQ u) (hk : k < nL) : mSt1 lv (u :: st) nL k isA = some (mSto1 lv k u, st) := by unfold mSt1; dsimp only; rw [if_pos ⟨hq.a, hk⟩]
def zLand (u v : Int) : Int := (Int64.ofInt u &&& Int64.ofInt v).toInt
def zLshr (u v : Int) : Int := (Int64.ofInt u >>> ((Int32.ofInt v).toInt64 &&& 63)).toInt
def zL2i (u : Int) : Int := (Int64.ofInt u).toInt32.toInt
theorem rg_zL2i {u : Int} : rg (zL2i u) := rg_toInt
section HH
variable {d y pc n a b w : Nat} {lv lv' : List (Nat × Value)} {st st' : List Value} {h h' h1 : mHp} {σ σ' σ1 : Mem} {r : mRes} {i : Instr}
theorem q_p (hc : mcd y pc = some (i, n, a, b, w)) (hg : mGrp a i = 0) (hp : mPure a b st i = some st') (K : Lh d y (pc + n) lv st' h σ r h' σ') : Lh d y pc lv st h σ r h' σ' := fun M S => ⟨(K M S).1, g_p hc hg hp (K M S).2⟩
theorem q_l (hc : mcd y pc = some (i, n, a, b, w)) (hg : mGrp a i = 1) (hp : mLoc (mMaxL y) lv st i = some (lv', st')) (K : Lh d y (pc + n) lv' st' h σ r h' σ') : Lh d y pc lv st h σ r h' σ' := fun M S => ⟨(K M S).1, g_l hc hg hp (K M S).2⟩
theorem q_lq {k : Nat} {u : Value} (hc : mcd y pc = some (i, n, a, b, w)) (hg : mGrp a i = 1) (hi : ∀ lv st, mLoc (mMaxL y) lv st i = mLd lv st k isA) (hl : lv.lookup k = some u) (hq : isQ u) (K : Lh d y (pc + n) lv (u :: st) h σ r h' σ') : Lh d y pc lv st h σ r h' σ' := q_l hc hg ((hi _ _).trans (mld_q hl hq)) K
theorem q_lg {k : Nat} {u : Value} {ok : Value → Bool} (hc : mcd y pc = some (i, n, a, b, w)) (hg : mGrp a i = 1) (hi : ∀ lv st, mLoc (mMaxL y) lv st i = mLd lv st k ok) (hl : lv.lookup k = some u) (ho : ok u = true) (K : Lh d y (pc + n) lv (u :: st) h σ r h' σ') : Lh d y pc lv st h σ r h' σ' := q_l hc hg ((hi _ _).trans (by unfold mLd; rw [hl]; dsimp only; rw [if_pos ho])) K
theorem q_sq {k : Nat} {u : Value} (hc : mcd y pc = some (i, n, a, b, w)) (hg : mGrp a i = 1) (hi : ∀ lv st, mLoc (mMaxL y) lv st i = mSt1 lv st (mMaxL y) k isA) (hq : isQ u) (hk : k < mMaxL y) (K : Lh d y (pc + n) (mSto1 lv k u) st h σ r h' σ') : Lh d y pc lv (u :: st) h σ r h' σ' := q_l hc hg ((hi _ _).trans (mst_q hq hk)) K
theorem q_b {q : Option Int} {t : Nat} (hc : mcd y pc = some (i, n, a, b, w)) (hg : mGrp a i = 2) (hp : mBr pc st i = some (q, st')) (ht : mOff pc n q = some t) (K : Lh d y t lv st' h σ r h' σ') : Lh d y pc lv st h σ r h' σ' := fun M S => ⟨(K M S).1, g_b hc hg hp ht (K M S).2⟩
theorem q_k {x : Int} {v : Value} (hc : mcd y pc = some (i, n, a, b, w)) (hg : mGrp a i = 0) (hp : mPure a b st i = some (v :: st)) (hv : v = vi x) (K : Lh d y (pc + n) lv (vi x :: st) h σ r h' σ') : Lh d y pc lv st h σ r h' σ' := by
  subst hv; exact q_p hc hg hp K
theorem q_add {u v : Int} (hc : mcd y pc = some (.iadd, n, a, b, w)) (K : Lh d y (pc + n) lv (vi (u + v) :: st) h σ r h' σ') : Lh d y pc lv (vi v :: vi u :: st) h σ r h' σ' := fun M S => ⟨(K M S).1, gi_add hc (K M S).2⟩
theorem q_sub {u v : Int} (hc : mcd y pc = some (.isub, n, a, b, w)) (K : Lh d y (pc + n) lv (vi (u - v) :: st) h σ r h' σ') : Lh d y pc lv (vi v :: vi u :: st) h σ r h' σ' := fun M S => ⟨(K M S).1, gi_sub hc (K M S).2⟩
theorem q_mul {u v : Int} (hc : mcd y pc = some (.imul, n, a, b, w)) (K : Lh d y (pc + n) lv (vi (u * v) :: st) h σ r h' σ') : Lh d y pc lv (vi v :: vi u :: st) h σ r h' σ' := fun M S => ⟨(K M S).1, gi_mul hc (K M S).2⟩
theorem q_add2 {u v : Int} (hc : mcd y pc = some (.iadd, n, a, b, w)) (K : Lh d y (pc + n) lv (vi (i32 (u + v)) :: st) h σ r h' σ') : Lh d y pc lv (vi v :: vi u :: st) h σ r h' σ' := q_add hc (by rw [show vi (i32 (u + v)) = vi (u + v) from vi_toInt] at K; exact K)
theorem q_sub2 {u v : Int} (hc : mcd y pc = some (.isub, n, a, b, w)) (K : Lh d y (pc + n) lv (vi (i32 (u - v)) :: st) h σ r h' σ') : Lh d y pc lv (vi v :: vi u :: st) h σ r h' σ' := q_sub hc (by rw [show vi (i32 (u - v)) = vi (u - v) from vi_toInt] at K; exact K)
theorem q_mul2 {u v : Int} (hc : mcd y pc = some (.imul, n, a, b, w)) (K : Lh d y (pc + n) lv (vi (i32 (u * v)) :: st) h σ r h' σ') : Lh d y pc lv (vi v :: vi u :: st) h σ r h' σ' := q_mul hc (by rw [show vi (i32 (u * v)) = vi (u * v) from vi_toInt] at K; exact K)
theorem rg_i32 {z : Int} : rg (i32 z) := rg_toInt
theorem q_div {u v : Int} (hc : mcd y pc = some (.idiv, n, a, b, w)) (rv : rg v) (hv : v ≠ 0) (K : Lh d y (pc + n) lv (vi (zDiv u v) :: st) h σ r h' σ') : Lh d y pc lv (vi v :: vi u :: st) h σ r h' σ' := fun M S => ⟨(K M S).1, g_p hc rfl (by
  have q : Int32.ofInt v ≠ 0 := fun e => hv (by
    have := congrArg Int32.toInt e
    rw [rv.to] at this
    exact this)
  simp only [mPure, mII, if_neg q, Option.map_some]
  unfold zDiv; rw [vi_toInt]) (K M S).2⟩
theorem q_rem {u v : Int} (hc : mcd y pc = some (.irem, n, a, b, w)) (rv : rg v) (hv : v ≠ 0) (K : Lh d y (pc + n) lv (vi (zRem u v) :: st) h σ r h' σ') : Lh d y pc lv (vi v :: vi u :: st) h σ r h' σ' := fun M S => ⟨(K M S).1, g_p hc rfl (by
  have q : Int32.ofInt v ≠ 0 := fun e => hv (by
    have := congrArg Int32.toInt e
    rw [rv.to] at this
    exact this)
  simp only [mPure, mII, if_neg q, Option.map_some]
  unfold zRem; rw [vi_toInt]) (K M S).2⟩
theorem q_inc {k : Nat} {m z : Int} (hc : mcd y pc = some (.iinc k m, n, a, b, w)) (hl : lv.lookup k = some (vi z)) (hk : k < mMaxL y) (K : Lh d y (pc + n) (mSto1 lv k (vi (z + m))) st h σ r h' σ') : Lh d y pc lv st h σ r h' σ' := fun M S => ⟨(K M S).1, gi_inc hc rfl hl hk (K M S).2⟩
theorem q_c {u v z : Int} {cn : ClassFile.Cond} {q : Bool} {t : Nat} (hc : mcd y pc = some (.if_icmp cn z, n, a, b, w)) (hd : 0 ≤ (pc : Int) + z) (ru : rg u) (rv : rg v) (hq : cndI u v cn = q) (ht : mOff pc n (if q = true then some z else none) = some t) (K : Lh d y t lv st h σ r h' σ') : Lh d y pc lv (vi v :: vi u :: st) h σ r h' σ' := fun M S => ⟨(K M S).1, gi_c hc hd ru rv hq ht (K M S).2⟩
theorem q_z {u z : Int} {cn : ClassFile.Cond} {q : Bool} {t : Nat} (hc : mcd y pc = some (.ifCond cn z, n, a, b, w)) (hd : 0 ≤ (pc : Int) + z) (ru : rg u) (hq : cndI u 0 cn = q) (ht : mOff pc n (if q = true then some z else none) = some t) (K : Lh d y t lv st h σ r h' σ') : Lh d y pc lv (vi u :: st) h σ r h' σ' := fun M S => ⟨(K M S).1, gi_z hc hd ru hq ht (K M S).2⟩
theorem q_i2l {u : Int} (hc : mcd y pc = some (.i2l, n, a, b, w)) (ru : rg u) (K : Lh d y (pc + n) lv (vlg u :: st) h σ r h' σ') : Lh d y pc lv (vi u :: st) h σ r h' σ' := fun M S => ⟨(K M S).1, g_p hc rfl (by
  simp only [mPure, mIx1, vlg]
  rw [show (Int32.ofInt u).toInt64 = Int64.ofInt (Int32.ofInt u).toInt from (Int64.ofInt_int32ToInt _).symm, ru.to]) (K M S).2⟩
theorem q_ladd {u v : Int} (hc : mcd y pc = some (.ladd, n, a, b, w)) (K : Lh d y (pc + n) lv (vlg (u + v) :: st) h σ r h' σ') : Lh d y pc lv (vlg v :: vlg u :: st) h σ r h' σ' := fun M S => ⟨(K M S).1, g_p hc rfl (by simp only [mPure, mLL, vlg, Int64.ofInt_add]) (K M S).2⟩
theorem q_lmul {u v : Int} (hc : mcd y pc = some (.lmul, n, a, b, w)) (K : Lh d y (pc + n) lv (vlg (u * v) :: st) h σ r h' σ') : Lh d y pc lv (vlg v :: vlg u :: st) h σ r h' σ' := fun M S => ⟨(K M S).1, g_p hc rfl (by simp only [mPure, mLL, vlg, Int64.ofInt_mul]) (K M S).2⟩
theorem q_land {u v : Int} (hc : mcd y pc = some (.land, n, a, b, w)) (K : Lh d y (pc + n) lv (vlg (zLand u v) :: st) h σ r h' σ') : Lh d y pc lv (vlg v :: vlg u :: st) h σ r h' σ' := fun M S => ⟨(K M S).1, g_p hc rfl (by simp only [mPure, mLL, vlg, zLand, Int64.ofInt_toInt]) (K M S).2⟩
theorem q_lshr {u v : Int} (hc : mcd y pc = some (.lshr, n, a, b, w)) (K : Lh d y (pc + n) lv (vlg (zLshr u v) :: st) h σ r h' σ') : Lh d y pc lv (vi v :: vlg u :: st) h σ r h' σ' := fun M S => ⟨(K M S).1, g_p hc rfl (by simp only [mPure, mIL, vlg, zLshr, Int64.ofInt_toInt]) (K M S).2⟩
theorem q_l2i {u : Int} (hc : mcd y pc = some (.l2i, n, a, b, w)) (K : Lh d y (pc + n) lv (vi (zL2i u) :: st) h σ r h' σ') : Lh d y pc lv (vlg u :: st) h σ r h' σ' := fun M S => ⟨(K M S).1, g_p hc rfl (by simp only [mPure, mL1, vlg, zL2i, vi_toInt]) (K M S).2⟩
theorem q_d2i {x : UInt64} (hc : mcd y pc = some (.d2i, n, a, b, w)) (K : Lh d y (pc + n) lv (vi (FP.d2i x).toInt :: st) h σ r h' σ') : Lh d y pc lv (.double x :: st) h σ r h' σ' := fun M S => ⟨(K M S).1, g_p hc rfl (by simp only [mPure, mD1, vi_toInt]) (K M S).2⟩
theorem q_dcmp {x x2 : UInt64} {op} (hc : mcd y pc = some (.dcmp op, n, a, b, w)) (K : Lh d y (pc + n) lv (vi (Op.cmpValue (FP.dcmp x x2) op).toInt :: st) h σ r h' σ') : Lh d y pc lv (.double x2 :: .double x :: st) h σ r h' σ' := fun M S => ⟨(K M S).1, g_p hc rfl (by simp only [mPure, mDD, vi_toInt, Option.map_some]) (K M S).2⟩
theorem q_dd {x x2 z : UInt64} (hc : mcd y pc = some (i, n, a, b, w)) (hg : mGrp a i = 0) (hp : mPure a b (.double x2 :: .double x :: st) i = (mDbl z).map (fun v => v :: st)) (hn : nn z = true) (K : Lh d y (pc + n) lv (.double z :: st) h σ r h' σ') : Lh d y pc lv (.double x2 :: .double x :: st) h σ r h' σ' := q_p hc hg (by rw [hp, mdbl hn]; rfl) K
theorem q_gi {ix j : Nat} {z : Int} (hc : mcd y pc = some (.getfield ix, n, a, b, w)) (hi : shI j = true) (ht : shT j = a) (ha : a < 12) (hj : shJ j b = true) (he : σ j b = z) (K : Lh d y (pc + n) lv (vi z :: st) h σ r h' σ') : Lh d y pc lv (.ref j :: st) h σ r h' σ' := fun M S => ⟨(K M S).1, g_gf hc ((S.t j hi).trans ht) ha ((put_at hj).trans (congrArg vi he)) (K M S).2⟩
theorem q_gr {ix j t : Nat} (hc : mcd y pc = some (.getfield ix, n, a, b, w)) (hi : shI j = true) (ht : shT j = a) (ha : a < 12) (hr : shR.contains (j, b, t) = true) (K : Lh d y (pc + n) lv (.ref t :: st) h σ r h' σ') : Lh d y pc lv (.ref j :: st) h σ r h' σ' := fun M S => ⟨(K M S).1, g_gf hc ((S.t j hi).trans ht) ha ((put_sh S).r j b t hr) (K M S).2⟩
theorem q_gv {ix j : Nat} {v : Value} (hc : mcd y pc = some (.getfield ix, n, a, b, w)) (hi : shI j = true) (ht : shT j = a) (ha : a < 12) (hj : shJ j b = false) (hv : hAt h j b = v) (K : Lh d y (pc + n) lv (v :: st) h σ r h' σ') : Lh d y pc lv (.ref j :: st) h σ r h' σ' := fun M S => ⟨(K M S).1, g_gf hc ((S.t j hi).trans ht) ha ((put_no hj).trans hv) (K M S).2⟩
theorem q_gd {ix j : Nat} {v : Value} (hc : mcd y pc = some (.getfield ix, n, a, b, w)) (hj : 100 ≤ j) (ht : hTag h j = a) (ha : a < 12) (hv : hAt h j b = v) (K : Lh d y (pc + n) lv (v :: st) h σ r h' σ') : Lh d y pc lv (.ref j :: st) h σ r h' σ' := fun M S => ⟨(K M S).1, g_gf hc ht ha ((put_no (shJ_hi hj)).trans hv) (K M S).2⟩
theorem q_pi {ix j : Nat} {z : Int} (hc : mcd y pc = some (.putfield ix, n, a, b, w)) (hi : shI j = true) (ht : shT j = a) (ha : a < 12) (hj : shJ j b = true) (h1 : okTy (clsTy a b) = true) (h2 : fits (clsTy a b) (vi z) = true) (h3 : ((cls.getD a (mR0, mT0, 0)).2.1 b).2.2.2 = false) (hz : rg z) (K : Lh d y (pc + n) lv st h (mup σ j b z) r h' σ') : Lh d y pc lv (vi z :: .ref j :: st) h σ r h' σ' := fun M S => ⟨(K (M.up hz) S).1, g_pf hc ((S.t j hi).trans ht) ha h1 h2 h3 (by rw [put_set hj]; exact (K (M.up hz) S).2)⟩
theorem q_pv {ix j : Nat} {v : Value} (hc : mcd y pc = some (.putfield ix, n, a, b, w)) (hi : shI j = true) (ht : shT j = a) (ha : a < 12) (hj : shJ j b = false) (hf : shF j b = false) (h1 : okTy (clsTy a b) = true) (h2 : fits (clsTy a b) v = true) (h3 : ((cls.getD a (mR0, mT0, 0)).2.1 b).2.2.2 = false) (K : Lh d y (pc + n) lv st (hSet h j b v) σ r h' σ') : Lh d y pc lv (v :: .ref j :: st) h σ r h' σ' := fun M S => ⟨(K M (S.set hf)).1, g_pf hc ((S.t j hi).trans ht) ha h1 h2 h3 (by rw [put_sn hj]; exact (K M (S.set hf)).2)⟩
theorem q_pd {ix j : Nat} {v : Value} (hc : mcd y pc = some (.putfield ix, n, a, b, w)) (hj : 100 ≤ j) (ht : hTag h j = a) (ha : a < 12) (h1 : okTy (clsTy a b) = true) (h2 : fits (clsTy a b) v = true) (h3 : ((cls.getD a (mR0, mT0, 0)).2.1 b).2.2.2 = false) (K : Lh d y (pc + n) lv st (hSet h j b v) σ r h' σ') : Lh d y pc lv (v :: .ref j :: st) h σ r h' σ' := fun M S => ⟨(K M (S.seta hj)).1, g_pf hc ht ha h1 h2 h3 (by rw [put_sn (shJ_hi hj)]; exact (K M (S.seta hj)).2)⟩
theorem q_pc {ix j : Nat} {v : Value} (hc : mcd y pc = some (.putfield ix, n, a, b, w)) (hj : 100 ≤ j) (ht : hTag h j = a) (ha : a < 12) (h1 : okTy (clsTy a b) = true) (h2 : fits (clsTy a b) v = true) (h3 : (mInf y).1.name = "<init>" ∧ mOwn y = a) (K : Lh d y (pc + n) lv st (hSet h j b v) σ r h' σ') : Lh d y pc lv (v :: .ref j :: st) h σ r h' σ' := fun M S => ⟨(K M (S.seta hj)).1, g_pi hc ht ha h1 h2 h3 (by rw [put_sn (shJ_hi hj)]; exact (K M (S.seta hj)).2)⟩
theorem q_new {ix : Nat} (hc : mcd y pc = some (.new ix, n, a, b, w)) (ha : a < 12) (K : Lh d y (pc + n) lv (.ref h.1 :: st) (nwO h a) σ r h' σ') : Lh d y pc lv st h σ r h' σ' := fun M S => ⟨(K M S.new).1, g_new hc ha (by
  have q := (K M S.new).2
  rw [show hNew (put h σ) a (cls.getD a (mR0, mT0, 0)).2.2 (fun k => defaultValue (clsTy a k)) = put (nwO h a) σ from put_new S.1]
  exact q)⟩
theorem q_al {t j : Nat} {z e : Int} (hc : mcd y pc = some (i, n, a, b, w)) (hg : mGrp a i = 3) (hm : ∀ h, mMem y a b (vi z :: .ref j :: st) h i = mArrL h (vi z :: .ref j :: st) t) (hj : shA j = true) (ht : shT j = t) (h0 : 0 ≤ z ∧ z < (shL j : Int)) (h2 : shL j ≤ 100000) (he : σ j z = e) (K : Lh d y (pc + n) lv (vi e :: st) h σ r h' σ') : Lh d y pc lv (vi z :: .ref j :: st) h σ r h' σ' := fun M S => ⟨(K M S).1, gi_al hc hg rfl (hm _) ((S.t j (shA_I hj)).trans ht) h0.1 (by rw [sh_len S (shA_I hj)]; exact h0.2) (by rw [sh_len S (shA_I hj)]; exact h2) (by rw [put_at (shA_J hj), Int.toNat_of_nonneg h0.1, he]) (K M S).2⟩
theorem q_as {t j : Nat} {z v : Int} {ok : Value → Bool} (hc : mcd y pc = some (i, n, a, b, w)) (hg : mGrp a i = 3) (hm : ∀ h, mMem y a b (vi v :: vi z :: .ref j :: st) h i = mArrS h (vi v :: vi z :: .ref j :: st) t ok) (hj : shA j = true) (ht : shT j = t) (h0 : 0 ≤ z ∧ z < (shL j : Int)) (h2 : shL j ≤ 100000) (hv : ok (vi v) = true) (hz : rg v) (K : Lh d y (pc + n) lv st h (mup σ j z v) r h' σ') : Lh d y pc lv (vi v :: vi z :: .ref j :: st) h σ r h' σ' := fun M S => ⟨(K (M.up hz) S).1, gi_as hc hg rfl (hm _) ((S.t j (shA_I hj)).trans ht) h0.1 (by rw [sh_len S (shA_I hj)]; exact h0.2) (by rw [sh_len S (shA_I hj)]; exact h2) hv (by rw [put_set (shA_J hj), Int.toNat_of_nonneg h0.1]; exact (K (M.up hz) S).2)⟩
theorem q_av {t j : Nat} {z : Int} {v : Value} (hc : mcd y pc = some (i, n, a, b, w)) (hg : mGrp a i = 3) (hm : ∀ h, mMem y a b (vi z :: .ref j :: st) h i = mArrL h (vi z :: .ref j :: st) t) (hj : shV j = true) (ht : shT j = t) (h0 : 0 ≤ z ∧ z < (shL j : Int)) (h2 : shL j ≤ 100000) (hv : hAt h j z.toNat = v) (K : Lh d y (pc + n) lv (v :: st) h σ r h' σ') : Lh d y pc lv (vi z :: .ref j :: st) h σ r h' σ' := fun M S => ⟨(K M S).1, gi_al hc hg rfl (hm _) ((S.t j (shI_V hj)).trans ht) h0.1 (by rw [sh_len S (shI_V hj)]; exact h0.2) (by rw [sh_len S (shI_V hj)]; exact h2) ((put_no (shJ_V hj)).trans hv) (K M S).2⟩
theorem q_sv {t j : Nat} {z : Int} {v : Value} {ok : Value → Bool} (hc : mcd y pc = some (i, n, a, b, w)) (hg : mGrp a i = 3) (hm : ∀ h, mMem y a b (v :: vi z :: .ref j :: st) h i = mArrS h (v :: vi z :: .ref j :: st) t ok) (hj : shV j = true) (ht : shT j = t) (h0 : 0 ≤ z ∧ z < (shL j : Int)) (h2 : shL j ≤ 100000) (hv : ok v = true) (K : Lh d y (pc + n) lv st (hSet h j z.toNat v) σ r h' σ') : Lh d y pc lv (v :: vi z :: .ref j :: st) h σ r h' σ' := fun M S => ⟨(K M (S.set (shF_V hj))).1, gi_as hc hg rfl (hm _) ((S.t j (shI_V hj)).trans ht) h0.1 (by rw [sh_len S (shI_V hj)]; exact h0.2) (by rw [sh_len S (shI_V hj)]; exact h2) hv (by rw [put_sn (shJ_V hj)]; exact (K M (S.set (shF_V hj))).2)⟩
/-- the pile of values -/
theorem q_sa {z : Int} {v : Nat} (hc : mcd y pc = some (.aastore, n, a, b, w)) (h0 : 0 ≤ z ∧ z < 200) (hv : hTag h v = 8) (K : Lh d y (pc + n) lv st (hSet h 55 z.toNat (.ref v)) σ r h' σ') : Lh d y pc lv (.ref v :: vi z :: .ref 55 :: st) h σ r h' σ' := fun M S => by
  have S2 := S.set (i := 55) (k := z.toNat) (v := .ref v) (shF_V rfl)
  refine ⟨(K M S2).1, g_m hc rfl (by rfl) ?_ (K M S2).2⟩
  obtain ⟨e1, e2⟩ := vp_in_ok (n := 200) h0.1 h0.2 (by decide)
  have l : hLen (put h σ) 55 = 200 := S.l 55 rfl
  simp only [mMem]
  rw [if_pos (show hTag (put h σ) 55 = 105 ∧ ¬ (Int32.ofInt z < 0 ∨ hLen (put h σ) 55 ≤ (Int32.ofInt z).toNatClampNeg) ∧ hTag (put h σ) v = 8 from ⟨S.t 55 rfl, by rw [l]; exact e1, hv⟩), e2, put_sn (shJ_V rfl)]
theorem q_len {j : Nat} (hc : mcd y pc = some (.arraylength, n, a, b, w)) (hj : shI j = true) (h1 : 100 ≤ shT j) (h2 : shT j ≤ 105) (K : Lh d y (pc + n) lv (vi (shL j) :: st) h σ r h' σ') : Lh d y pc lv (.ref j :: st) h σ r h' σ' := fun M S => ⟨(K M S).1, by
  have t1 : hTag (put h σ) j = shT j := S.t j hj
  have l1 : hLen (put h σ) j = shL j := S.l j hj
  refine gi_len hc rfl (by rw [t1]; exact h1) (by rw [t1]; exact h2) ?_
  rw [l1]; exact (K M S).2⟩
/-- calls -/
theorem q_iv {ix j : Nat} {as rest : List Value} {o : Option Value} (hc : mcd y pc = some (.invokevirtual ix, n, a, b, w)) (hst : st.drop (mArgN b) = .ref j :: rest) (has : (st.take (mArgN b)).reverse = as) (ht : Sh h → hTag h j = mOwn b) (ho : mOwn b < 12) (h8 : mRoom8 rest = true) (R : Rh d b (.ref j :: as) h σ (.inl o) h1 σ1) (K : Lh d y (pc + 3) lv (o.toList ++ rest) h1 σ1 r h' σ') : Lh d y pc lv st h σ r h' σ' := fun M S => ⟨(K (R M S).1.1 (R M S).1.2).1, g_iv hc hst has (ht S) ho h8 (R M S).2 (K (R M S).1.1 (R M S).1.2).2⟩
theorem q_is {ix : Nat} {as rest : List Value} {o : Option Value} (hc : mcd y pc = some (.invokestatic ix, n, a, b, w)) (ha : a ≠ 5) (hl : mArgN b ≤ st.length) (hst : st.drop (mArgN b) = rest) (has : (st.take (mArgN b)).reverse = as) (h8 : mRoom8 rest = true) (R : Rh d b as h σ (.inl o) h1 σ1) (K : Lh d y (pc + 3) lv (o.toList ++ rest) h1 σ1 r h' σ') : Lh d y pc lv st h σ r h' σ' := fun M S => ⟨(K (R M S).1.1 (R M S).1.2).1, g_is hc ha hl hst has h8 (R M S).2 (K (R M S).1.1 (R M S).1.2).2⟩
theorem q_sp {ix j : Nat} {as rest : List Value} {o : Option Value} (hc : mcd y pc = some (.invokespecial ix, n, a, b, w)) (ha : a ≠ 4) (ha9 : a ≠ 9) (hst : st.drop (mArgN b) = .ref j :: rest) (has : (st.take (mArgN b)).reverse = as) (ht : Sh h → hTag h j = mOwn b) (ho : mOwn b < 12) (h8 : mRoom8 rest = true) (R : Rh d b (.ref j :: as) h σ (.inl o) h1 σ1) (K : Lh d y (pc + 3) lv (o.toList ++ rest) h1 σ1 r h' σ') : Lh d y pc lv st h σ r h' σ' := fun M S => ⟨(K (R M S).1.1 (R M S).1.2).1, g_sp hc ha ha9 hst has (ht S) ho h8 (R M S).2 (K (R M S).1.1 (R M S).1.2).2⟩
theorem q_s4 {ix j : Nat} {rest : List Value} (hc : mcd y pc = some (.invokespecial ix, n, 4, b, w)) (h8 : mRoom8 rest = true) (K : Lh d y (pc + 3) lv rest h σ r h' σ') : Lh d y pc lv (.ref j :: rest) h σ r h' σ' := fun M S => ⟨(K M S).1, g_s4 hc h8 (K M S).2⟩
/-- calls of methods over the ints alone -/
theorem Rn.hh {as : List Value} {o : Option Int} (R : Rn d y as σ o σ1) : Rh d y as h σ (.inl (o.map vi)) h σ1 := fun M S => ⟨⟨(R M).1, S⟩, (R M).2.2 h S⟩
theorem q_rn {ix j : Nat} {as rest : List Value} {v : Int} (hc : mcd y pc = some (.invokevirtual ix, n, a, b, w)) (hst : st.drop (mArgN b) = .ref j :: rest) (has : (st.take (mArgN b)).reverse = as) (hi : shI j = true) (ht : shT j = mOwn b) (ho : mOwn b < 12) (h8 : mRoom8 rest = true) (R : Rn d b (.ref j :: as) σ (some v) σ1) (K : rg v → Lh d y (pc + 3) lv (vi v :: rest) h σ1 r h' σ') : Lh d y pc lv st h σ r h' σ' := fun M S => ⟨(K ((R M).2.1 v rfl) (R M).1 S).1, g_iv hc hst has ((S.t j hi).trans ht) ho h8 ((R M).2.2 h S) (K ((R M).2.1 v rfl) (R M).1 S).2⟩
theorem q_rs {ix : Nat} {as rest : List Value} {v : Int} (hc : mcd y pc = some (.invokestatic ix, n, a, b, w)) (ha : a ≠ 5) (hl : mArgN b ≤ st.length) (hst : st.drop (mArgN b) = rest) (has : (st.take (mArgN b)).reverse = as) (h8 : mRoom8 rest = true) (R : Rn d b as σ (some v) σ1) (K : rg v → Lh d y (pc + 3) lv (vi v :: rest) h σ1 r h' σ') : Lh d y pc lv st h σ r h' σ' := fun M S => ⟨(K ((R M).2.1 v rfl) (R M).1 S).1, g_is hc ha hl hst has h8 ((R M).2.2 h S) (K ((R M).2.1 v rfl) (R M).1 S).2⟩
/-- the end -/
theorem q_r {o : Option Value} (hc : mcd y pc = some (i, n, a, b, w)) (hg : mGrp a i = 5) (hp : mRet y st i = some o) : Lh d y pc lv st h σ (.inl o) h σ := fun M S => ⟨⟨M, S⟩, g_r hc hg hp⟩
theorem q_t (hc : mcd y pc = some (i, n, a, b, w)) (hg : mGrp a i = 6) (ha : a < 105) (h8 : mRoom8 st = true) : Lh d y pc lv st h σ (.inr (a - 100)) (hNew h 200 6 (fun _ => .null)) σ := fun M S => ⟨⟨M, S.new⟩, by
  rw [← put_new S.1]; exact g_t hc hg ha h8⟩
theorem q_m {args : List Value} (hl : (lg_sl args).length ≤ mMaxL y) (K : Lh d y 0 (lv_args 0 args) [] h σ r h' σ') : Rh (d + 1) y args h σ r h' σ' := fun M S => ⟨(K M S).1, ru_go hl (K M S).2⟩
theorem q_mv {args : List Value} (hl : (lg_sl args).length ≤ mMaxL y) (he : lv_args 0 args = lv) (K : Lh d y 0 lv [] h σ r h' σ') : Rh (d + 1) y args h σ r h' σ' := q_m hl (by rw [he]; exact K)
theorem q_sw {u c : Int} {q : Option Int} {t : Nat} (hc : mcd y pc = some (i, n, a, b, w)) (hg : mGrp a i = 2) (hu : u = c) (hp : mBr pc (vi c :: st) i = some (q, st)) (ht : mOff pc n q = some t) (K : Lh d y t lv st h σ r h' σ') : Lh d y pc lv (vi u :: st) h σ r h' σ' := by
  subst hu; exact q_b hc hg hp ht K
theorem q_lsd {u df : Int} {ps : Array (Int × Int)} {t : Nat} (hc : mcd y pc = some (.lookupswitch df ps, n, a, b, w)) (hu : rg u) (hso : (ps.toList.zip (ps.toList.drop 1)).all (fun (a, next) => a.1 < next.1) = true) (hno : ∀ q ∈ ps.toList, u ≠ q.1) (ht : mOff pc n (some df) = some t) (K : Lh d y t lv st h σ r h' σ') : Lh d y pc lv (vi u :: st) h σ r h' σ' := q_b hc rfl (by simp only [mBr]; rw [if_pos hso, hu.to, lsw_no _ _ _ hno]) ht K
theorem q_tsd {u df lo hi : Int} {ps : Array Int} {t : Nat} (hc : mcd y pc = some (.tableswitch df lo hi ps, n, a, b, w)) (hu : rg u) (hno : u < lo ∨ hi < u) (ht : mOff pc n (some df) = some t) (K : Lh d y t lv st h σ r h' σ') : Lh d y pc lv (vi u :: st) h σ r h' σ' := q_b hc rfl (by simp only [mBr]; rw [hu.to, if_pos hno]) ht K
theorem q_lab (L : Lh d y pc lv st h σ r h' σ') (H : lvS lv lv') : Lh d y pc lv' st h σ r h' σ' := fun M S => ⟨(L M S).1, go_lv H (L M S).2⟩
theorem Rh.deep {e : Nat} {as : List Value} (hd : d ≤ e) (R : Rh d y as h σ r h' σ') : Rh e y as h σ r h' σ' := fun M S => ⟨(R M S).1, (R M S).2.deep hd⟩
theorem ret_q {u : Value} {s : String} (q : isQ u) (hr : mRetT y = some (.object s)) : mRet y [u] .areturn = some (some u) := by
  rcases q with rfl | ⟨_, rfl⟩
  · simp only [mRet, hr]
  · simp only [mRet, hr]
theorem fits_q {u : Value} {s : String} (q : isQ u) : fits (.object s) u = true := by rcases q with rfl | ⟨_, rfl⟩ <;> rfl
end HH
