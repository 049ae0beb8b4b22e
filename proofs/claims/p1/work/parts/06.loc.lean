/-! Locals and branches. -/
theorem isI_spec {v : Value} (h : isI v = true) : ∃ x, v = .int x := by cases v <;> first | exact ⟨_, rfl⟩ | cases h
theorem isL_spec {v : Value} (h : isL v = true) : ∃ x, v = .long x := by cases v <;> first | exact ⟨_, rfl⟩ | cases h
theorem isD_spec {v : Value} (h : isD v = true) : ∃ x, v = .double x := by cases v <;> first | exact ⟨_, rfl⟩ | cases h
theorem isA_spec {ad : List Nat} {v c : Value} (h : isA v = true) (hv : vr ad v c) : c = .null ∨ ∃ a, c = .ref a := by
  cases v <;> first | cases h; done | exact Or.inl hv | (obtain ⟨a, -, h2⟩ := hv; exact Or.inr ⟨a, h2⟩) | (obtain ⟨a, h2⟩ := hv; exact Or.inr ⟨a, h2⟩)
theorem mLd_spec {lv : List (Nat × Value)} {st : List Value} {i : Nat} {ok : Value → Bool} {q : List (Nat × Value) × List Value} (h : mLd lv st i ok = some q) : ∃ v, lv.lookup i = some v ∧ ok v = true ∧ q = (lv, v :: st) := by
  unfold mLd at h
  split at h
  · next v hv =>
    split at h
    · next o => cases h; exact ⟨v, hv, o, rfl⟩
    · cases h
  · cases h
theorem mSt1_spec {lv : List (Nat × Value)} {st : List Value} {nL i : Nat} {ok : Value → Bool} {q : List (Nat × Value) × List Value} (h : mSt1 lv st nL i ok = some q) : ∃ v r, st = v :: r ∧ ok v = true ∧ i < nL ∧ q = (mSto1 lv i v, r) := by
  unfold mSt1 at h
  split at h
  · next v r =>
    split at h
    · next o => cases h; exact ⟨v, r, rfl, o.1, o.2, rfl⟩
    · cases h
  · cases h
theorem mSt2_spec {lv : List (Nat × Value)} {st : List Value} {nL i : Nat} {ok : Value → Bool} {q : List (Nat × Value) × List Value} (h : mSt2 lv st nL i ok = some q) : ∃ v r, st = v :: r ∧ ok v = true ∧ i + 1 < nL ∧ q = (mSto2 lv i v, r) := by
  unfold mSt2 at h
  split at h
  · next v r =>
    split at h
    · next o => cases h; exact ⟨v, r, rfl, o.1, o.2, rfl⟩
    · cases h
  · cases h
def lvR (ad : List Nat) (nL : Nat) (ls : Array Slot) (lv : List (Nat × Value)) : Prop := ∃ clv, lv_has ls nL clv ∧ rll ad lv clv
theorem lvR.get {ad : List Nat} {nL i : Nat} {ls : Array Slot} {lv : List (Nat × Value)} {v : Value} (h : lvR ad nL ls lv) (hv : lv.lookup i = some v) : ∃ c, ls[i]? = some (.val c) ∧ vr ad v c := by
  obtain ⟨clv, h1, h2⟩ := h
  obtain ⟨k, c, h3, h4⟩ := h2.get hv
  exact ⟨c, lv_at h1 k h3, h4⟩
theorem lvR.app {ad x : List Nat} {nL : Nat} {ls : Array Slot} {lv : List (Nat × Value)} (h : lvR ad nL ls lv) : lvR (ad ++ x) nL ls lv := by
  obtain ⟨clv, h1, h2⟩ := h
  exact ⟨clv, h1, h2.app⟩
theorem mOff_spec {pc n t : Nat} {d : Int} (h : mOff pc n (some d) = some t) : (pc : Int) + d = (t : Int) := by
  unfold mOff at h
  split at h
  · next hq => cases hq
  · next d' hq =>
    cases hq
    split at h
    · next o => cases h; omega
    · cases h
theorem mOff_none {pc n t : Nat} (h : mOff pc n none = some t) : t = pc + n := by
  cases h; rfl
section SVB
variable {p : Program} {l : Launch} {e : Env} {R : Room} {s : State} {m : MethodId} {args : Array Value} {below : List Frame} {meth : Method} {c : Code} {H : Heap} {locs : List Loc} {cells slots : Nat} {Q : State → Prop}
variable {pc : Nat} {ls : Array Slot} {cc : ByteArray}
set_option maxHeartbeats 4000000 in
theorem s_loc {n nL : Nat} {i : Instr} {st cst : List Value} {lv : List (Nat × Value)} {q : List (Nat × Value) × List Value} {ad : List Nat} (hx : p.tables.exec = Jvm.exec) (hb : c.code = cc)
    (hd : decode cc pc = .ok (i, n)) (hn : n = mLen n i) (h : mLoc nL lv st i = some q) (hL : lvR ad nL ls lv) (hr : rl ad st cst)
    (k : ∀ ls' cst', lvR ad nL ls' q.1 → rl ad q.2 cst' → W p l e R s m args below meth c H locs cells slots Q (F0 m (pc + n) ls' cst')) : W p l e R s m args below meth c H locs cells slots Q (F0 m pc ls cst) := by
  cases i with
  | iload_n j => simp only [mLen] at hn; subst hn; obtain ⟨v, hv, ho, rfl⟩ := mLd_spec h; obtain ⟨x, rfl⟩ := isI_spec ho; obtain ⟨_, hc, rfl⟩ := hL.get hv; exact lv_iload_n hx hb hd rfl hc (k _ _ hL ⟨_, _, rfl, rfl, hr⟩)
  | iload j => simp only [mLen] at hn; subst hn; obtain ⟨v, hv, ho, rfl⟩ := mLd_spec h; obtain ⟨x, rfl⟩ := isI_spec ho; obtain ⟨_, hc, rfl⟩ := hL.get hv; exact lv_iload hx hb hd hc (k _ _ hL ⟨_, _, rfl, rfl, hr⟩)
  | lload_n j => simp only [mLen] at hn; subst hn; obtain ⟨v, hv, ho, rfl⟩ := mLd_spec h; obtain ⟨x, rfl⟩ := isL_spec ho; obtain ⟨_, hc, rfl⟩ := hL.get hv; exact lv_lload_n hx hb hd rfl hc (k _ _ hL ⟨_, _, rfl, rfl, hr⟩)
  | lload j => simp only [mLen] at hn; subst hn; obtain ⟨v, hv, ho, rfl⟩ := mLd_spec h; obtain ⟨x, rfl⟩ := isL_spec ho; obtain ⟨_, hc, rfl⟩ := hL.get hv; exact lv_lload hx hb hd hc (k _ _ hL ⟨_, _, rfl, rfl, hr⟩)
  | dload_n j => simp only [mLen] at hn; subst hn; obtain ⟨v, hv, ho, rfl⟩ := mLd_spec h; obtain ⟨x, rfl⟩ := isD_spec ho; obtain ⟨_, hc, rfl⟩ := hL.get hv; exact lv_dload_n hx hb hd rfl hc (k _ _ hL ⟨_, _, rfl, rfl, hr⟩)
  | dload j => simp only [mLen] at hn; subst hn; obtain ⟨v, hv, ho, rfl⟩ := mLd_spec h; obtain ⟨x, rfl⟩ := isD_spec ho; obtain ⟨_, hc, rfl⟩ := hL.get hv; exact lv_dload hx hb hd hc (k _ _ hL ⟨_, _, rfl, rfl, hr⟩)
  | aload_n j =>
    simp only [mLen] at hn; subst hn; obtain ⟨v, hv, ho, rfl⟩ := mLd_spec h; obtain ⟨cv, hc, hvc⟩ := hL.get hv
    rcases isA_spec ho hvc with rfl | ⟨a, rfl⟩
    · exact lv_aload_nN hx hb hd rfl hc (k _ _ hL ⟨_, _, rfl, hvc, hr⟩)
    · exact lv_aload_n hx hb hd rfl hc (k _ _ hL ⟨_, _, rfl, hvc, hr⟩)
  | aload j =>
    simp only [mLen] at hn; subst hn; obtain ⟨v, hv, ho, rfl⟩ := mLd_spec h; obtain ⟨cv, hc, hvc⟩ := hL.get hv
    rcases isA_spec ho hvc with rfl | ⟨a, rfl⟩
    · exact lv_aloadN hx hb hd hc (k _ _ hL ⟨_, _, rfl, hvc, hr⟩)
    · exact lv_aload hx hb hd hc (k _ _ hL ⟨_, _, rfl, hvc, hr⟩)
  | istore_n j => simp only [mLen] at hn; subst hn; obtain ⟨v, r, rfl, ho, hi, rfl⟩ := mSt1_spec h; obtain ⟨x, rfl⟩ := isI_spec ho; obtain ⟨clv, h1, h2⟩ := hL; obtain ⟨_, cr, rfl, rfl, hr⟩ := hr; exact lv_istore_n hx hb hd rfl h1 hi rfl (fun ls' hl => k _ _ ⟨_, hl, h2.sto1 _ rfl⟩ hr)
  | istore j => simp only [mLen] at hn; subst hn; obtain ⟨v, r, rfl, ho, hi, rfl⟩ := mSt1_spec h; obtain ⟨x, rfl⟩ := isI_spec ho; obtain ⟨clv, h1, h2⟩ := hL; obtain ⟨_, cr, rfl, rfl, hr⟩ := hr; exact lv_istore hx hb hd h1 hi rfl (fun ls' hl => k _ _ ⟨_, hl, h2.sto1 _ rfl⟩ hr)
  | lstore_n j => simp only [mLen] at hn; subst hn; obtain ⟨v, r, rfl, ho, hi, rfl⟩ := mSt2_spec h; obtain ⟨x, rfl⟩ := isL_spec ho; obtain ⟨clv, h1, h2⟩ := hL; obtain ⟨_, cr, rfl, rfl, hr⟩ := hr; exact lv_lstore_n hx hb hd rfl h1 hi rfl (fun ls' hl => k _ _ ⟨_, hl, h2.sto2 _ rfl⟩ hr)
  | lstore j => simp only [mLen] at hn; subst hn; obtain ⟨v, r, rfl, ho, hi, rfl⟩ := mSt2_spec h; obtain ⟨x, rfl⟩ := isL_spec ho; obtain ⟨clv, h1, h2⟩ := hL; obtain ⟨_, cr, rfl, rfl, hr⟩ := hr; exact lv_lstore hx hb hd h1 hi rfl (fun ls' hl => k _ _ ⟨_, hl, h2.sto2 _ rfl⟩ hr)
  | dstore_n j => simp only [mLen] at hn; subst hn; obtain ⟨v, r, rfl, ho, hi, rfl⟩ := mSt2_spec h; obtain ⟨x, rfl⟩ := isD_spec ho; obtain ⟨clv, h1, h2⟩ := hL; obtain ⟨_, cr, rfl, rfl, hr⟩ := hr; exact lv_dstore_n hx hb hd rfl h1 hi rfl (fun ls' hl => k _ _ ⟨_, hl, h2.sto2 _ rfl⟩ hr)
  | dstore j => simp only [mLen] at hn; subst hn; obtain ⟨v, r, rfl, ho, hi, rfl⟩ := mSt2_spec h; obtain ⟨x, rfl⟩ := isD_spec ho; obtain ⟨clv, h1, h2⟩ := hL; obtain ⟨_, cr, rfl, rfl, hr⟩ := hr; exact lv_dstore hx hb hd h1 hi rfl (fun ls' hl => k _ _ ⟨_, hl, h2.sto2 _ rfl⟩ hr)
  | astore_n j =>
    simp only [mLen] at hn; subst hn; obtain ⟨v, r, rfl, ho, hi, rfl⟩ := mSt1_spec h; obtain ⟨clv, h1, h2⟩ := hL; obtain ⟨cv, cr, rfl, hvc, hr⟩ := hr
    rcases isA_spec ho hvc with rfl | ⟨a, rfl⟩
    · exact lv_astore_nN hx hb hd rfl h1 hi rfl (fun ls' hl => k _ _ ⟨_, hl, h2.sto1 _ hvc⟩ hr)
    · exact lv_astore_n hx hb hd rfl h1 hi rfl (fun ls' hl => k _ _ ⟨_, hl, h2.sto1 _ hvc⟩ hr)
  | astore j =>
    simp only [mLen] at hn; subst hn; obtain ⟨v, r, rfl, ho, hi, rfl⟩ := mSt1_spec h; obtain ⟨clv, h1, h2⟩ := hL; obtain ⟨cv, cr, rfl, hvc, hr⟩ := hr
    rcases isA_spec ho hvc with rfl | ⟨a, rfl⟩
    · exact lv_astoreN hx hb hd h1 hi rfl (fun ls' hl => k _ _ ⟨_, hl, h2.sto1 _ hvc⟩ hr)
    · exact lv_astore hx hb hd h1 hi rfl (fun ls' hl => k _ _ ⟨_, hl, h2.sto1 _ hvc⟩ hr)
  | iinc j z =>
    simp only [mLen] at hn; subst hn
    simp only [mLoc] at h
    split at h
    · next x hv =>
      split at h
      · next hi =>
        cases h
        obtain ⟨clv, h1, h2⟩ := hL
        obtain ⟨kk, c, h3, rfl⟩ := h2.get hv
        exact lv_iinc hx hb hd h1 h3 rfl hi rfl (fun ls' hl => k _ _ ⟨_, hl, h2.sto1 _ rfl⟩ hr)
      · cases h
    · cases h
  | _ => simp only [mLoc] at h; cases h
theorem mTgt {pc : Nat} {d : Int} (h : 0 ≤ (pc : Int) + d) : (pc : Int) + d = ((((pc : Int) + d).toNat : Nat) : Int) := by omega
theorem s_if {x : Int32} {rest : List Value} {d : Int} {cd : ClassFile.Cond} (hx : p.tables.exec = Jvm.exec) (hb : c.code = cc) (hd : decode cc pc = .ok (.ifCond cd d, 3)) (h0 : 0 ≤ (pc : Int) + d)
    (k : ∀ t, mOff pc 3 (if mCnd x 0 cd = true then some d else none) = some t → W p l e R s m args below meth c H locs cells slots Q (F0 m t ls rest)) : W p l e R s m args below meth c H locs cells slots Q (F0 m pc ls (.int x :: rest)) := by
  have ht := mTgt h0
  have yes : mCnd x 0 cd = true → W p l e R s m args below meth c H locs cells slots Q (F0 m ((pc : Int) + d).toNat ls rest) := fun hc => k _ (by rw [if_pos hc]; simp only [mOff, if_pos h0])
  have no : ¬ mCnd x 0 cd = true → W p l e R s m args below meth c H locs cells slots Q (F0 m (pc + 3) ls rest) := fun hc => k _ (by rw [if_neg hc]; rfl)
  cases cd <;> simp only [mCnd, decide_eq_true_eq] at yes no
  · exact lv_if_eq hx hb hd ht yes no
  · exact lv_if_ne hx hb hd ht yes (fun q => no (fun z => z q))
  · exact lv_if_lt hx hb hd ht yes no
  · exact lv_if_ge hx hb hd ht yes no
  · exact lv_if_gt hx hb hd ht yes no
  · exact lv_if_le hx hb hd ht yes no
theorem s_icmp {x y : Int32} {rest : List Value} {d : Int} {cd : ClassFile.Cond} (hx : p.tables.exec = Jvm.exec) (hb : c.code = cc) (hd : decode cc pc = .ok (.if_icmp cd d, 3)) (h0 : 0 ≤ (pc : Int) + d)
    (k : ∀ t, mOff pc 3 (if mCnd x y cd = true then some d else none) = some t → W p l e R s m args below meth c H locs cells slots Q (F0 m t ls rest)) : W p l e R s m args below meth c H locs cells slots Q (F0 m pc ls (.int y :: .int x :: rest)) := by
  have ht := mTgt h0
  have yes : mCnd x y cd = true → W p l e R s m args below meth c H locs cells slots Q (F0 m ((pc : Int) + d).toNat ls rest) := fun hc => k _ (by rw [if_pos hc]; simp only [mOff, if_pos h0])
  have no : ¬ mCnd x y cd = true → W p l e R s m args below meth c H locs cells slots Q (F0 m (pc + 3) ls rest) := fun hc => k _ (by rw [if_neg hc]; rfl)
  cases cd <;> simp only [mCnd, decide_eq_true_eq] at yes no
  · exact lv_icmp_eq hx hb hd ht yes no
  · exact lv_icmp_ne hx hb hd ht yes (fun q => no (fun z => z q))
  · exact lv_icmp_lt hx hb hd ht yes no
  · exact lv_icmp_ge hx hb hd ht yes no
  · exact lv_icmp_gt hx hb hd ht yes no
  · exact lv_icmp_le hx hb hd ht yes no
set_option maxHeartbeats 4000000 in
theorem s_br {n t : Nat} {i : Instr} {st cst : List Value} {q : Option Int × List Value} {ad : List Nat} (hx : p.tables.exec = Jvm.exec) (hb : c.code = cc)
    (hd : decode cc pc = .ok (i, n)) (hn : n = mLen n i) (h : mBr pc st i = some q) (ht : mOff pc n q.1 = some t) (hr : rl ad st cst)
    (k : ∀ cst', rl ad q.2 cst' → W p l e R s m args below meth c H locs cells slots Q (F0 m t ls cst')) : W p l e R s m args below meth c H locs cells slots Q (F0 m pc ls cst) := by
  cases i with
  | goto d => simp only [mLen] at hn; subst hn; cases h; exact lv_goto hx hb hd (mOff_spec ht) (k _ hr)
  | ifCond cd d =>
    simp only [mLen] at hn; subst hn
    simp only [mBr] at h
    split at h
    · next x r =>
      split at h
      · next h0 =>
        cases h
        obtain ⟨_, cr, rfl, rfl, hr⟩ := hr
        refine s_if hx hb hd h0 (fun t' ht' => ?_)
        rw [show mOff pc 3 _ = some t from ht] at ht'
        cases ht'
        exact k _ hr
      · cases h
    · cases h
  | if_icmp cd d =>
    simp only [mLen] at hn; subst hn
    simp only [mBr] at h
    split at h
    · next y x r =>
      split at h
      · next h0 =>
        cases h
        obtain ⟨_, _, rfl, rfl, _, cr, rfl, rfl, hr⟩ := hr
        refine s_icmp hx hb hd h0 (fun t' ht' => ?_)
        rw [show mOff pc 3 _ = some t from ht] at ht'
        cases ht'
        exact k _ hr
      · cases h
    · cases h
  | ifnull d =>
    simp only [mLen] at hn; subst hn
    simp only [mBr] at h
    split at h
    · next r => cases h; obtain ⟨_, cr, rfl, rfl, hr⟩ := hr; exact lv_ifnullN hx hb hd (mOff_spec ht) (k _ hr)
    · next j r => cases h; obtain ⟨_, cr, rfl, ⟨a, -, rfl⟩, hr⟩ := hr; cases mOff_none ht; exact lv_ifnull hx hb hd (k _ hr)
    · cases h
  | ifnonnull d =>
    simp only [mLen] at hn; subst hn
    simp only [mBr] at h
    split at h
    · next r => cases h; obtain ⟨_, cr, rfl, rfl, hr⟩ := hr; cases mOff_none ht; exact lv_ifnonnullN hx hb hd (k _ hr)
    · next j r => cases h; obtain ⟨_, cr, rfl, ⟨a, -, rfl⟩, hr⟩ := hr; exact lv_ifnonnull hx hb hd (mOff_spec ht) (k _ hr)
    · cases h
  | tableswitch df lo hi offs =>
    simp only [mBr] at h
    split at h
    · next x r =>
      obtain ⟨_, cr, rfl, rfl, hr⟩ := hr
      split at h
      · next ho => cases h; exact lv_tableOut hx hb hd ho (mOff_spec ht) (k _ hr)
      · next ho =>
        split at h
        · next d hq => cases h; exact lv_tableIn hx hb hd (fun q => ho (Or.inl q)) (fun q => ho (Or.inr q)) hq (mOff_spec ht) (k _ hr)
        · cases h
    · cases h
  | lookupswitch df ps =>
    simp only [mBr] at h
    split at h
    · next x r =>
      obtain ⟨_, cr, rfl, rfl, hr⟩ := hr
      split at h
      · next ho => cases h; exact lv_lookup hx hb hd ho rfl (mOff_spec ht) (k _ hr)
      · cases h
    · cases h
  | _ => simp only [mBr] at h; cases h
end SVB
