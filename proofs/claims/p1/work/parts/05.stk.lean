/-! The abstract machine is held by the real one: values, stacks, locals; what works on them alone. -/
def vr (ad : List Nat) (v c : Value) : Prop := match v with
  | .ref i => ∃ a, ad[i]? = some a ∧ c = .ref a
  | .retAddr _ => ∃ a, c = .ref a
  | v => c = v
def rl (ad : List Nat) : List Value → List Value → Prop
  | [], cs => cs = []
  | v :: vs, cs => ∃ c cs', cs = c :: cs' ∧ vr ad v c ∧ rl ad vs cs'
def rll (ad : List Nat) : List (Nat × Value) → List (Nat × Value) → Prop
  | [], cs => cs = []
  | v :: vs, cs => ∃ c cs', cs = (v.1, c) :: cs' ∧ vr ad v.2 c ∧ rll ad vs cs'
theorem getElem?_app {ad x : List Nat} {i a : Nat} (h : ad[i]? = some a) : (ad ++ x)[i]? = some a := by
  rw [List.getElem?_append_left (List.getElem?_eq_some_iff.mp h).1, h]
theorem vr.app {ad x : List Nat} {v c : Value} (h : vr ad v c) : vr (ad ++ x) v c := by
  cases v <;> first | exact h | (obtain ⟨a, h1, h2⟩ := h; exact ⟨a, getElem?_app h1, h2⟩)
theorem rl.app {ad x : List Nat} : ∀ {vs cs : List Value}, rl ad vs cs → rl (ad ++ x) vs cs
  | [], _, h => h
  | _ :: _, _, ⟨c, cs', h1, h2, h3⟩ => ⟨c, cs', h1, h2.app, rl.app h3⟩
theorem rll.app {ad x : List Nat} : ∀ {vs cs : List (Nat × Value)}, rll ad vs cs → rll (ad ++ x) vs cs
  | [], _, h => h
  | _ :: _, _, ⟨c, cs', h1, h2, h3⟩ => ⟨c, cs', h1, h2.app, rll.app h3⟩
theorem vr.cat {ad : List Nat} {v c : Value} (h : vr ad v c) : c.category = v.category := by
  cases v <;> first | (obtain rfl : c = _ := h; rfl) | (obtain ⟨a, -, rfl⟩ := h; rfl) | (obtain ⟨a, rfl⟩ := h; rfl)
theorem rl.len {ad : List Nat} : ∀ {vs cs : List Value}, rl ad vs cs → cs.length = vs.length
  | [], _, h => by rw [show _ = [] from h]
  | _ :: _, _, ⟨c, cs', h1, _, h3⟩ => by rw [h1, List.length_cons, List.length_cons, rl.len h3]
theorem rl.cats {ad : List Nat} : ∀ {vs cs : List Value}, rl ad vs cs → cs.map (fun v => v.category) = vs.map (fun v => v.category)
  | [], _, h => by rw [show _ = [] from h]
  | _ :: _, _, ⟨c, cs', h1, h2, h3⟩ => by rw [h1, List.map_cons, List.map_cons, rl.cats h3, h2.cat]
theorem rl.drop {ad : List Nat} : ∀ (n : Nat) {vs cs : List Value}, rl ad vs cs → rl ad (vs.drop n) (cs.drop n)
  | 0, _, _, h => h
  | n + 1, [], _, h => by rw [show _ = [] from h]; exact rfl
  | n + 1, _ :: _, _, ⟨c, cs', h1, h2, h3⟩ => by rw [h1]; exact rl.drop n h3
theorem rl.take {ad : List Nat} : ∀ (n : Nat) {vs cs : List Value}, rl ad vs cs → rl ad (vs.take n) (cs.take n)
  | 0, _, _, h => rfl
  | n + 1, [], _, h => by rw [show _ = [] from h]; exact rfl
  | n + 1, _ :: _, _, ⟨c, cs', h1, h2, h3⟩ => by rw [h1]; exact ⟨c, _, rfl, h2, rl.take n h3⟩
theorem rl.snoc {ad : List Nat} {v c : Value} (hv : vr ad v c) : ∀ {vs cs : List Value}, rl ad vs cs → rl ad (vs ++ [v]) (cs ++ [c])
  | [], _, h => by rw [show _ = [] from h]; exact ⟨c, [], rfl, hv, rfl⟩
  | _ :: _, _, ⟨d, cs', h1, h2, h3⟩ => by rw [h1]; exact ⟨d, _, rfl, h2, rl.snoc hv h3⟩
theorem rl.rev {ad : List Nat} : ∀ {vs cs : List Value}, rl ad vs cs → rl ad vs.reverse cs.reverse
  | [], _, h => by rw [show _ = [] from h]; exact rfl
  | _ :: _, _, ⟨d, cs', h1, h2, h3⟩ => by rw [h1, List.reverse_cons, List.reverse_cons]; exact rl.snoc h2 (rl.rev h3)
theorem rll.filter {ad : List Nat} (f : Nat → Nat → Bool) : ∀ {vs cs : List (Nat × Value)}, rll ad vs cs → rll ad (vs.filter (fun q => f q.1 q.2.category)) (cs.filter (fun q => f q.1 q.2.category))
  | [], _, h => by rw [show _ = [] from h]; exact rfl
  | v :: vs, _, ⟨d, cs', h1, h2, h3⟩ => by
    subst h1
    have ih := rll.filter f h3
    have hc := h2.cat
    by_cases q : f v.1 v.2.category = true
    · rw [List.filter_cons_of_pos (p := fun q : Nat × Value => f q.1 q.2.category) (a := v) q, List.filter_cons_of_pos (p := fun q : Nat × Value => f q.1 q.2.category) (a := (v.1, d)) (by simpa [hc] using q)]
      exact ⟨d, _, rfl, h2, ih⟩
    · rw [List.filter_cons_of_neg (p := fun q : Nat × Value => f q.1 q.2.category) (a := v) q, List.filter_cons_of_neg (p := fun q : Nat × Value => f q.1 q.2.category) (a := (v.1, d)) (by simpa [hc] using q)]
      exact ih
theorem rll.sto1 {ad : List Nat} {vs cs : List (Nat × Value)} {v c : Value} (i : Nat) (h : rll ad vs cs) (hv : vr ad v c) : rll ad (mSto1 vs i v) (mSto1 cs i c) :=
  ⟨c, _, rfl, hv, h.filter (fun a b => !(a == i) && !(a + 1 == i && b == 2))⟩
theorem rll.sto2 {ad : List Nat} {vs cs : List (Nat × Value)} {v c : Value} (i : Nat) (h : rll ad vs cs) (hv : vr ad v c) : rll ad (mSto2 vs i v) (mSto2 cs i c) :=
  ⟨c, _, rfl, hv, h.filter (fun a b => !(a == i) && (!(a == i + 1) && !(a + 1 == i && b == 2)))⟩
theorem rll.get {ad : List Nat} {i : Nat} {v : Value} : ∀ {vs cs : List (Nat × Value)}, rll ad vs cs → vs.lookup i = some v → ∃ (k : Nat) (c : Value), cs[k]? = some (i, c) ∧ vr ad v c
  | [], _, _, h => by cases h
  | u :: vs, _, ⟨d, cs', h1, h2, h3⟩, h => by
    subst h1
    rw [List.lookup_cons] at h
    by_cases q : (i == u.1) = true
    · simp only [q, if_true] at h
      cases h
      have e : i = u.1 := by simpa using q
      exact ⟨0, d, by rw [e]; rfl, h2⟩
    · simp only [q] at h
      obtain ⟨k, c, h4, h5⟩ := rll.get h3 h
      exact ⟨k + 1, c, h4, h5⟩
theorem rll.args {ad : List Nat} : ∀ {vs cs : List Value} (i : Nat), rl ad vs cs → rll ad (lv_args i vs) (lv_args i cs)
  | [], _, i, h => by rw [show _ = [] from h]; exact rfl
  | v :: vs, _, i, ⟨c, cs', h1, h2, h3⟩ => by
    subst h1
    simp only [lv_args]
    rw [h2.cat]
    exact ⟨c, _, rfl, h2, rll.args _ h3⟩
theorem mII_spec {st : List Value} {f : Int32 → Int32 → Option Value} {st' : List Value} (h : mII st f = some st') : ∃ x y r z, st = .int y :: .int x :: r ∧ f x y = some z ∧ st' = z :: r := by
  unfold mII at h
  split at h
  · next y x r =>
    obtain ⟨z, h1, h2⟩ := Option.map_eq_some_iff.mp h
    exact ⟨x, y, r, z, rfl, h1, h2.symm⟩
  · cases h
theorem mIx1_spec {st : List Value} {f : Int32 → Value} {st' : List Value} (h : mIx1 st f = some st') : ∃ x r, st = .int x :: r ∧ st' = f x :: r := by
  unfold mIx1 at h
  split at h
  · next x r => cases h; exact ⟨x, r, rfl, rfl⟩
  · cases h
theorem mLL_spec {st : List Value} {f : Int64 → Int64 → Value} {st' : List Value} (h : mLL st f = some st') : ∃ x y r, st = .long y :: .long x :: r ∧ st' = f x y :: r := by
  unfold mLL at h
  split at h
  · next y x r => cases h; exact ⟨x, y, r, rfl, rfl⟩
  · cases h
theorem mL1_spec {st : List Value} {f : Int64 → Value} {st' : List Value} (h : mL1 st f = some st') : ∃ x r, st = .long x :: r ∧ st' = f x :: r := by
  unfold mL1 at h
  split at h
  · next x r => cases h; exact ⟨x, r, rfl, rfl⟩
  · cases h
theorem mIL_spec {st : List Value} {f : Int64 → Int32 → Value} {st' : List Value} (h : mIL st f = some st') : ∃ x y r, st = .int y :: .long x :: r ∧ st' = f x y :: r := by
  unfold mIL at h
  split at h
  · next y x r => cases h; exact ⟨x, y, r, rfl, rfl⟩
  · cases h
theorem mDD_spec {st : List Value} {f : UInt64 → UInt64 → Option Value} {st' : List Value} (h : mDD st f = some st') : ∃ x y r z, st = .double y :: .double x :: r ∧ f x y = some z ∧ st' = z :: r := by
  unfold mDD at h
  split at h
  · next y x r =>
    obtain ⟨z, h1, h2⟩ := Option.map_eq_some_iff.mp h
    exact ⟨x, y, r, z, rfl, h1, h2.symm⟩
  · cases h
theorem mD1_spec {st : List Value} {f : UInt64 → Value} {st' : List Value} (h : mD1 st f = some st') : ∃ x r, st = .double x :: r ∧ st' = f x :: r := by
  unfold mD1 at h
  split at h
  · next x r => cases h; exact ⟨x, r, rfl, rfl⟩
  · cases h
theorem mDbl_spec {z : UInt64} {v : Value} (h : mDbl z = some v) : vf_n64 z ∧ v = .double z := by
  unfold mDbl at h
  split at h
  · next q => cases h; exact ⟨by unfold vf_n64; unfold nn at q; exact of_decide_eq_true q, rfl⟩
  · cases h
def gtbl : List Cond := lw_tbl.filter goodWord
theorem in_gtbl {w : Cond} (h : w ∈ lw_tbl) (hg : goodWord w = true) : w ∈ gtbl := List.mem_filter.mpr ⟨h, hg⟩
theorem in_gtbl_at {w : Cond} {k : Nat} (h : lw_tbl[k]? = some w) (hg : goodWord w = true) : w ∈ gtbl := in_gtbl (List.mem_of_getElem? h) hg
section SVA
variable {p : Program} {l : Launch} {e : Env} {R : Room} {s : State} {m : MethodId} {args : Array Value} {below : List Frame} {meth : Method} {c : Code} {H : Heap} {locs : List Loc} {cells slots : Nat} {Q : State → Prop}
variable {pc : Nat} {ls : Array Slot} {cc : ByteArray}
set_option maxHeartbeats 4000000 in
theorem s_pure {own : String} {a b w n : Nat} {i : Instr} {st st' cst : List Value} {ad : List Nat} (hx : p.tables.exec = Jvm.exec) (hb : c.code = cc) (hown : s.vm.findClass own = some m.cls) (hts : ∀ w ∈ gtbl, w.before args s = true)
    (hd : decode cc pc = .ok (i, n)) (hn : n = mLen n i) (hl : mLinkOk own a b w i = true) (h : mPure a b st i = some st') (hr : rl ad st cst)
    (k : ∀ cst', rl ad st' cst' → W p l e R s m args below meth c H locs cells slots Q (F0 m (pc + n) ls cst')) : W p l e R s m args below meth c H locs cells slots Q (F0 m pc ls cst) := by
  cases i with
  | iconst z => simp only [mLen] at hn; subst hn; cases h; exact lv_iconst hx hb hd rfl (k _ ⟨_, _, rfl, rfl, hr⟩)
  | bipush z => simp only [mLen] at hn; subst hn; cases h; exact lv_bipush hx hb hd rfl (k _ ⟨_, _, rfl, rfl, hr⟩)
  | sipush z => simp only [mLen] at hn; subst hn; cases h; exact lv_sipush hx hb hd rfl (k _ ⟨_, _, rfl, rfl, hr⟩)
  | lconst z => simp only [mLen] at hn; subst hn; cases h; exact lv_lconst hx hb hd rfl (k _ ⟨_, _, rfl, rfl, hr⟩)
  | dconst z =>
    simp only [mLen] at hn; subst hn
    simp only [mPure] at h
    split at h
    · next q => subst q; cases h; exact lv_dconst0 hx hb hd (k _ ⟨_, _, rfl, rfl, hr⟩)
    · cases h
  | ldc z =>
    simp only [mLen] at hn; subst hn
    simp only [mPure] at h
    split at h
    · next q =>
      subst q; cases h
      have hl' := of_decide_eq_true (show decide (lw_tbl[w]? = some (.constant own z (Int32.ofNat b))) = true from hl)
      exact lv_ldc hx hb hown (hts _ (in_gtbl_at hl' rfl)) hd (k _ ⟨_, _, rfl, rfl, hr⟩)
    · cases h
  | ldc_w z =>
    simp only [mLen] at hn; subst hn
    simp only [mPure] at h
    split at h
    · next q =>
      subst q; cases h
      have hl' := of_decide_eq_true (show decide (lw_tbl[w]? = some (.constant own z (Int32.ofNat b))) = true from hl)
      exact lv_ldcw hx hb hown (hts _ (in_gtbl_at hl' rfl)) hd (k _ ⟨_, _, rfl, rfl, hr⟩)
    · cases h
  | ldc2_w z =>
    simp only [mLen] at hn; subst hn
    simp only [mPure] at h
    by_cases q : a = 0
    · rw [if_pos q] at h
      subst q; cases h
      have hl' := of_decide_eq_true (show decide (lw_tbl[w]? = some (.constantLong own z (Int64.ofNat b))) = true from hl)
      exact lv_ldc2 hx hb hown (hts _ (in_gtbl_at hl' rfl)) hd (k _ ⟨_, _, rfl, rfl, hr⟩)
    · rw [if_neg q] at h
      cases h
      have hl' : lw_tbl[w]? = some (.constantDouble own z (UInt64.ofNat b)) := by
        simp only [mLinkOk, if_neg q] at hl
        exact of_decide_eq_true hl
      exact lv_ldc2d hx hb hown (hts _ (in_gtbl_at hl' rfl)) hd (k _ ⟨_, _, rfl, rfl, hr⟩)
  | aconst_null => simp only [mLen] at hn; subst hn; cases h; exact lv_null hx hb hd (k _ ⟨_, _, rfl, rfl, hr⟩)
  | iadd => simp only [mLen] at hn; subst hn; obtain ⟨x, y, r, z, rfl, hz, rfl⟩ := mII_spec h; cases hz; obtain ⟨-, -, rfl, rfl, -, cr, rfl, rfl, hr⟩ := hr; exact lv_iadd hx hb hd (k _ ⟨_, _, rfl, rfl, hr⟩)
  | isub => simp only [mLen] at hn; subst hn; obtain ⟨x, y, r, z, rfl, hz, rfl⟩ := mII_spec h; cases hz; obtain ⟨-, -, rfl, rfl, -, cr, rfl, rfl, hr⟩ := hr; exact lv_isub hx hb hd (k _ ⟨_, _, rfl, rfl, hr⟩)
  | imul => simp only [mLen] at hn; subst hn; obtain ⟨x, y, r, z, rfl, hz, rfl⟩ := mII_spec h; cases hz; obtain ⟨-, -, rfl, rfl, -, cr, rfl, rfl, hr⟩ := hr; exact lv_imul hx hb hd (k _ ⟨_, _, rfl, rfl, hr⟩)
  | iand => simp only [mLen] at hn; subst hn; obtain ⟨x, y, r, z, rfl, hz, rfl⟩ := mII_spec h; cases hz; obtain ⟨-, -, rfl, rfl, -, cr, rfl, rfl, hr⟩ := hr; exact lv_iand hx hb hd (k _ ⟨_, _, rfl, rfl, hr⟩)
  | ior => simp only [mLen] at hn; subst hn; obtain ⟨x, y, r, z, rfl, hz, rfl⟩ := mII_spec h; cases hz; obtain ⟨-, -, rfl, rfl, -, cr, rfl, rfl, hr⟩ := hr; exact lv_ior hx hb hd (k _ ⟨_, _, rfl, rfl, hr⟩)
  | ishl => simp only [mLen] at hn; subst hn; obtain ⟨x, y, r, z, rfl, hz, rfl⟩ := mII_spec h; cases hz; obtain ⟨-, -, rfl, rfl, -, cr, rfl, rfl, hr⟩ := hr; exact lv_ishl hx hb hd (k _ ⟨_, _, rfl, rfl, hr⟩)
  | ishr => simp only [mLen] at hn; subst hn; obtain ⟨x, y, r, z, rfl, hz, rfl⟩ := mII_spec h; cases hz; obtain ⟨-, -, rfl, rfl, -, cr, rfl, rfl, hr⟩ := hr; exact lv_ishr hx hb hd (k _ ⟨_, _, rfl, rfl, hr⟩)
  | iushr => simp only [mLen] at hn; subst hn; obtain ⟨x, y, r, z, rfl, hz, rfl⟩ := mII_spec h; cases hz; obtain ⟨-, -, rfl, rfl, -, cr, rfl, rfl, hr⟩ := hr; exact lv_iushr hx hb hd rfl (k _ ⟨_, _, rfl, rfl, hr⟩)
  | idiv =>
    simp only [mLen] at hn; subst hn; obtain ⟨x, y, r, z, rfl, hz, rfl⟩ := mII_spec h; obtain ⟨-, -, rfl, rfl, -, cr, rfl, rfl, hr⟩ := hr
    by_cases q : y = 0
    · rw [if_pos q] at hz; cases hz
    · rw [if_neg q] at hz; cases hz; exact lv_idiv hx hb hd q (k _ ⟨_, _, rfl, rfl, hr⟩)
  | irem =>
    simp only [mLen] at hn; subst hn; obtain ⟨x, y, r, z, rfl, hz, rfl⟩ := mII_spec h; obtain ⟨-, -, rfl, rfl, -, cr, rfl, rfl, hr⟩ := hr
    by_cases q : y = 0
    · rw [if_pos q] at hz; cases hz
    · rw [if_neg q] at hz; cases hz; exact lv_irem hx hb hd q (k _ ⟨_, _, rfl, rfl, hr⟩)
  | ineg => simp only [mLen] at hn; subst hn; obtain ⟨x, r, rfl, rfl⟩ := mIx1_spec h; obtain ⟨-, cr, rfl, rfl, hr⟩ := hr; exact lv_ineg hx hb hd (k _ ⟨_, _, rfl, rfl, hr⟩)
  | i2c => simp only [mLen] at hn; subst hn; obtain ⟨x, r, rfl, rfl⟩ := mIx1_spec h; obtain ⟨-, cr, rfl, rfl, hr⟩ := hr; exact lv_i2c hx hb hd rfl (k _ ⟨_, _, rfl, rfl, hr⟩)
  | i2l => simp only [mLen] at hn; subst hn; obtain ⟨x, r, rfl, rfl⟩ := mIx1_spec h; obtain ⟨-, cr, rfl, rfl, hr⟩ := hr; exact lv_i2l hx hb hd rfl (k _ ⟨_, _, rfl, rfl, hr⟩)
  | i2d => simp only [mLen] at hn; subst hn; obtain ⟨x, r, rfl, rfl⟩ := mIx1_spec h; obtain ⟨-, cr, rfl, rfl, hr⟩ := hr; exact lv_i2d hx hb hd (k _ ⟨_, _, rfl, rfl, hr⟩)
  | l2i => simp only [mLen] at hn; subst hn; obtain ⟨x, r, rfl, rfl⟩ := mL1_spec h; obtain ⟨-, cr, rfl, rfl, hr⟩ := hr; exact lv_l2i hx hb hd rfl (k _ ⟨_, _, rfl, rfl, hr⟩)
  | lshr => simp only [mLen] at hn; subst hn; obtain ⟨x, y, r, rfl, rfl⟩ := mIL_spec h; obtain ⟨-, -, rfl, rfl, -, cr, rfl, rfl, hr⟩ := hr; exact lv_lshr hx hb hd rfl (k _ ⟨_, _, rfl, rfl, hr⟩)
  | ladd => simp only [mLen] at hn; subst hn; obtain ⟨x, y, r, rfl, rfl⟩ := mLL_spec h; obtain ⟨-, -, rfl, rfl, -, cr, rfl, rfl, hr⟩ := hr; exact lv_ladd hx hb hd (k _ ⟨_, _, rfl, rfl, hr⟩)
  | lmul => simp only [mLen] at hn; subst hn; obtain ⟨x, y, r, rfl, rfl⟩ := mLL_spec h; obtain ⟨-, -, rfl, rfl, -, cr, rfl, rfl, hr⟩ := hr; exact lv_lmul hx hb hd (k _ ⟨_, _, rfl, rfl, hr⟩)
  | land => simp only [mLen] at hn; subst hn; obtain ⟨x, y, r, rfl, rfl⟩ := mLL_spec h; obtain ⟨-, -, rfl, rfl, -, cr, rfl, rfl, hr⟩ := hr; exact lv_land hx hb hd (k _ ⟨_, _, rfl, rfl, hr⟩)
  | lcmp => simp only [mLen] at hn; subst hn; obtain ⟨x, y, r, rfl, rfl⟩ := mLL_spec h; obtain ⟨-, -, rfl, rfl, -, cr, rfl, rfl, hr⟩ := hr; exact W.lcmp hx hb hd (k _ ⟨_, _, rfl, rfl, hr⟩)
  | dadd => simp only [mLen] at hn; subst hn; obtain ⟨x, y, r, z, rfl, hz, rfl⟩ := mDD_spec h; obtain ⟨hz2, rfl⟩ := mDbl_spec hz; obtain ⟨-, -, rfl, rfl, -, cr, rfl, rfl, hr⟩ := hr; exact lv_dadd hx hb hd hz2 (k _ ⟨_, _, rfl, rfl, hr⟩)
  | dsub => simp only [mLen] at hn; subst hn; obtain ⟨x, y, r, z, rfl, hz, rfl⟩ := mDD_spec h; obtain ⟨hz2, rfl⟩ := mDbl_spec hz; obtain ⟨-, -, rfl, rfl, -, cr, rfl, rfl, hr⟩ := hr; exact lv_dsub hx hb hd hz2 (k _ ⟨_, _, rfl, rfl, hr⟩)
  | dmul => simp only [mLen] at hn; subst hn; obtain ⟨x, y, r, z, rfl, hz, rfl⟩ := mDD_spec h; obtain ⟨hz2, rfl⟩ := mDbl_spec hz; obtain ⟨-, -, rfl, rfl, -, cr, rfl, rfl, hr⟩ := hr; exact lv_dmul hx hb hd hz2 (k _ ⟨_, _, rfl, rfl, hr⟩)
  | ddiv => simp only [mLen] at hn; subst hn; obtain ⟨x, y, r, z, rfl, hz, rfl⟩ := mDD_spec h; obtain ⟨hz2, rfl⟩ := mDbl_spec hz; obtain ⟨-, -, rfl, rfl, -, cr, rfl, rfl, hr⟩ := hr; exact lv_ddiv hx hb hd hz2 (k _ ⟨_, _, rfl, rfl, hr⟩)
  | dcmp op => simp only [mLen] at hn; subst hn; obtain ⟨x, y, r, z, rfl, hz, rfl⟩ := mDD_spec h; cases hz; obtain ⟨-, -, rfl, rfl, -, cr, rfl, rfl, hr⟩ := hr; exact lv_dcmp hx hb hd (k _ ⟨_, _, rfl, rfl, hr⟩)
  | dneg => simp only [mLen] at hn; subst hn; obtain ⟨x, r, rfl, rfl⟩ := mD1_spec h; obtain ⟨-, cr, rfl, rfl, hr⟩ := hr; exact lv_dneg hx hb hd (k _ ⟨_, _, rfl, rfl, hr⟩)
  | d2i => simp only [mLen] at hn; subst hn; obtain ⟨x, r, rfl, rfl⟩ := mD1_spec h; obtain ⟨-, cr, rfl, rfl, hr⟩ := hr; exact lv_d2i hx hb hd (k _ ⟨_, _, rfl, rfl, hr⟩)
  | dup =>
    simp only [mLen] at hn; subst hn
    cases st with
    | nil => cases h
    | cons v r =>
      simp only [mPure] at h
      split at h
      · next q => cases h; obtain ⟨cv, cr, rfl, hv, hr⟩ := hr; exact lv_dup hx hb hd (hv.cat.trans q) (k _ ⟨_, _, rfl, hv, _, _, rfl, hv, hr⟩)
      · cases h
  | pop =>
    simp only [mLen] at hn; subst hn
    cases st with
    | nil => cases h
    | cons v r =>
      simp only [mPure] at h
      split at h
      · next q => cases h; obtain ⟨cv, cr, rfl, hv, hr⟩ := hr; exact lv_pop hx hb hd (hv.cat.trans q) (k _ hr)
      · cases h
  | _ => simp only [mPure] at h; cases h
end SVA
