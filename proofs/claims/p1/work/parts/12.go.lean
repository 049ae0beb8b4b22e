/-! A step, a run, a method. -/
theorem narrow_ret {t : FieldType} {x : Int32} (ho : okTy t = true ∨ t = .char) (h : fits t (.int x) = true) : narrow t (.int x) = .int x := by
  rcases ho with ho | rfl
  · exact narrow_fits ho h
  · simp only [fits, Bool.and_eq_true, decide_eq_true_eq] at h
    obtain ⟨j, hj0, rfl⟩ := nI_of (x := x) (fun q => absurd h.1 (by simpa using q))
    have hj : j < 65536 := by
      have h2 := h.2
      rw [Int32.le_iff_toInt_le] at h2
      rw [nI_toInt (by omega)] at h2
      have : (65535 : Int32).toInt = 65535 := by decide
      omega
    exact (pk_charN hj).1
/-- what the law's own script is, where a run may read it -/
def scF (sc : Bool) (s : State) (H0 : Heap) (A : Nat → Prop) (ad : List Nat) (h : mHp) : Prop := sc = true → ∃ bs L xs, va_X bs L xs s H0 ∧ bs < H0.size ∧ ¬ A bs ∧ ad[0]? = some bs ∧ h.2.2 0 = (106, L, fun j => .int (xs j))
theorem scF.next {sc : Bool} {s : State} {H0 : Heap} {A : Nat → Prop} {ad ad' : List Nat} {h h' : mHp} (g : scF sc s H0 A ad h) (hl : ad.length = h.1) (ha : ∃ x, ad' = ad ++ x) (hh : le3 h h') : scF sc s H0 A ad' h' := by
  intro hsc
  obtain ⟨bs, L, xs, g1, g2, g3, g4, g5⟩ := g hsc
  obtain ⟨x, rfl⟩ := ha
  have h0 : 0 < h.1 := by rw [← hl]; exact (List.getElem?_eq_some_iff.mp g4).1
  exact ⟨bs, L, xs, g1, g2, g3, getElem?_app g4, by rw [hh.2.2 0 h0 (by unfold hTag; rw [g5]), g5]⟩
section SVF
variable {p : Program} {l : Launch} {e : Env} {R : Room} {s : State} {m : MethodId} {args : Array Value} {below : List Frame} {meth : Method} {c : Code} {Q : State → Prop}
variable {cc : ByteArray} {D : va_G} {A : Nat → Prop} {H0 : Heap}
/-- what a run knows of its state -/
def mAt (D : va_G) (A : Nat → Prop) (H0 : Heap) (s : State) (sc : Bool) (nL : Nat) (h0 : Nat × Nat) (ad0 : List Nat) (S : mSt) (H : Heap) (locs : List Loc) (cells slots : Nat) (ls : Array Slot) (cst : List Value) (ad : List Nat) : Prop :=
  (∃ x, ad = ad0 ++ x) ∧ lvR ad nL ls S.2.1 ∧ rl ad S.2.2.1 cst ∧ mW D A H0 s ad S.2.2.2 H locs ∧ scF sc s H0 A ad S.2.2.2 ∧ h0.1 + cells = S.2.2.2.1 ∧ h0.2 + slots = S.2.2.2.2.1
theorem mW.len {ad : List Nat} {h : mHp} {H : Heap} {locs : List Loc} (hW : mW D A H0 s ad h H locs) : ad.length = h.1 := by
  obtain ⟨ws, tys, -, -, -, -, hH⟩ := hW
  exact hH.1
set_option maxHeartbeats 4000000 in
theorem s_step {F d y : Nat} {q : mMI} {sc : Bool} {h0 : Nat × Nat} {ad0 : List Nat} {S S' : mSt} {H : Heap} {locs : List Loc} {cells slots : Nat} {ls : Array Slot} {cst : List Value} {ad : List Nat} (hq : mTab[y]? = some q)
    (hx : p.tables.exec = Jvm.exec) (hb : c.code = q.2.1) (hown : s.vm.findClass q.1.cls = some m.cls) (hoy : ownN[mOwn y]? = some q.1.cls) (hts : ∀ w ∈ gtbl, w.before args s = true) (hnw : nwOK s)
    (hA : ∀ q, H0.size ≤ q → A q) (hinit : (mInf y).1.name = "<init>" → meth.name = "<init>")
    (hst : mStep (mEx F d) sc y S = some (.inl S')) (hAt : mAt D A H0 s sc q.2.2.1 h0 ad0 S H locs cells slots ls cst ad) (hcells : S'.2.2.2.1 ≤ h0.1 + R.cells) (hslots : S'.2.2.2.2.1 ≤ h0.2 + R.slots)
    (hinv : ∀ (i : Instr) (n a b w : Nat), mcd y S.1 = some (i, n, a, b, w) → mGrp a i = 4 → mInv (mEx F d) y S.1 a b S.2.1 S.2.2.1 S.2.2.2 i = some S' →
      (∀ ad' cst' H' locs', (∃ x, ad' = ad ++ x) → rl ad' S'.2.2.1 cst' → mW D A H0 s ad' S'.2.2.2 H' locs' → lvR ad' q.2.2.1 ls S'.2.1 → W p l e R s m args below meth c H' locs' (cells + (S'.2.2.2.1 - S.2.2.2.1)) (slots + (S'.2.2.2.2.1 - S.2.2.2.2.1)) Q (F0 m S'.1 ls cst')) → W p l e R s m args below meth c H locs cells slots Q (F0 m S.1 ls cst))
    (k : ∀ (H' : Heap) (locs' : List Loc) (cells' slots' : Nat) (ls' : Array Slot) (cst' : List Value) (ad' : List Nat), mAt D A H0 s sc q.2.2.1 h0 ad0 S' H' locs' cells' slots' ls' cst' ad' → W p l e R s m args below meth c H' locs' cells' slots' Q (F0 m S'.1 ls' cst')) : W p l e R s m args below meth c H locs cells slots Q (F0 m S.1 ls cst) := by
  obtain ⟨a1, a2, a3, a4, a5, a6, a7⟩ := hAt
  have hle := le3.step (le3.ex d) hst
  have hlen := a4.len
  have next : ∀ {H' locs' ls' cst' ad'}, (∃ x, ad' = ad ++ x) → lvR ad' q.2.2.1 ls' S'.2.1 → rl ad' S'.2.2.1 cst' → mW D A H0 s ad' S'.2.2.2 H' locs' → W p l e R s m args below meth c H' locs' (cells + (S'.2.2.2.1 - S.2.2.2.1)) (slots + (S'.2.2.2.2.1 - S.2.2.2.2.1)) Q (F0 m S'.1 ls' cst') := by
    intro H' locs' ls' cst' ad' b1 b2 b3 b4
    refine k _ _ _ _ _ _ ad' ⟨?_, b2, b3, b4, a5.next hlen b1 hle, ?_, ?_⟩
    · obtain ⟨x, rfl⟩ := a1
      obtain ⟨x', rfl⟩ := b1
      exact ⟨x ++ x', List.append_assoc _ _ _⟩
    · have := hle.1; have e0 : outHp (.inl S') = S'.2.2.2 := rfl; rw [e0] at this; omega
    · have := hle.2.1; have e0 : outHp (.inl S') = S'.2.2.2 := rfl; rw [e0] at this; omega
  have nil : ∃ x, ad = ad ++ x := ⟨[], (List.append_nil _).symm⟩
  obtain ⟨pc, lv, st, h⟩ := S
  dsimp only at *
  unfold mStep at hst
  dsimp only at hst
  cases hcd : mcd y pc with
  | none => rw [hcd] at hst; cases hst
  | some en =>
    obtain ⟨i, n, a, b, w⟩ := en
    rw [hcd] at hst
    dsimp only at hst
    obtain ⟨hd, hn, hl⟩ := mcd_ok hcd hq
    have hst0 := hst
    unfold mIns at hst
    split at hst
    · obtain ⟨st', h1, h2⟩ := Option.map_eq_some_iff.mp hst
      cases h2
      exact s_pure hx hb hown hts hd hn hl h1 a3 (fun cst' hr' => W.widen (Nat.le_add_right _ _) (Nat.le_add_right _ _) (next nil a2 hr' a4))
    · obtain ⟨q', h1, h2⟩ := Option.map_eq_some_iff.mp hst
      cases h2
      have hnL : mMaxL y = q.2.2.1 := by unfold mMaxL; rw [mInf_at hq]
      rw [hnL] at h1
      exact s_loc hx hb hd hn h1 a2 a3 (fun ls' cst' hL' hr' => W.widen (Nat.le_add_right _ _) (Nat.le_add_right _ _) (next nil hL' hr' a4))
    · obtain ⟨q', h1, h2⟩ := Option.bind_eq_some_iff.mp hst
      obtain ⟨t, h3, h4⟩ := Option.map_eq_some_iff.mp h2
      cases h4
      exact s_br hx hb hd hn h1 h3 a3 (fun cst' hr' => W.widen (Nat.le_add_right _ _) (Nat.le_add_right _ _) (next nil a2 hr' a4))
    · split at hst
      · next st' hs =>
        cases hst
        cases sc with
        | false => simp at hs
        | true =>
          simp only [if_true] at hs
          obtain ⟨bs, L, xs, g1, g2, g3, g4, g5⟩ := a5 rfl
          obtain ⟨ws, tys, hK, hP, hD, hS, hH⟩ := a4
          have a4 : mW D A H0 s ad h H locs := ⟨ws, tys, hK, hP, hD, hS, hH⟩
          have e1 : hLen h 0 = L := by unfold hLen; rw [g5]
          have e2 : ∀ j, hAt h 0 j = .int (xs j) := fun j => by unfold hAt; rw [g5]
          cases i with
          | iaload =>
            simp only [mLen] at hn; subst hn
            simp only [mScr] at hs
            split at hs
            · next j r =>
              split at hs
              · next hc =>
                cases hs
                obtain ⟨_, _, rfl, rfl, _, cr, rfl, ⟨a', hia, rfl⟩, hr⟩ := a3
                rw [g4] at hia
                cases hia
                exact va_sld hx hb g1 g2 g3 hS (show vp_in j L by rw [← e1]; exact hc.2) hd (W.widen (Nat.le_add_right _ _) (Nat.le_add_right _ _) (next nil a2 ⟨_, _, rfl, by rw [e2]; rfl, hr⟩ a4))
              · cases hs
            · cases hs
          | arraylength =>
            simp only [mLen] at hn; subst hn
            simp only [mScr] at hs
            split at hs
            · next r =>
              split at hs
              · next hc =>
                cases hs
                obtain ⟨_, cr, rfl, ⟨a', hia, rfl⟩, hr⟩ := a3
                rw [g4] at hia
                cases hia
                exact va_slen hx hb g1 g2 g3 hS hd (W.widen (Nat.le_add_right _ _) (Nat.le_add_right _ _) (next nil a2 ⟨_, _, rfl, by rw [e1]; rfl, hr⟩ a4))
              · cases hs
            · cases hs
          | _ => simp only [mScr] at hs; cases hs
      · obtain ⟨q', h1, h2⟩ := Option.map_eq_some_iff.mp hst
        cases h2
        have m1 := (le3.mem h1).1
        have m2 := (le3.mem h1).2.1
        dsimp only [mGoOn] at hcells hslots next
        exact s_mem hx hb hown hts hnw hA hinit hoy hd hn hl h1 a3 a4 (by omega) (by omega) (fun ad' cst' H' locs' b1 b2 b3 => next b1 (by obtain ⟨x, rfl⟩ := b1; exact a2.app) b2 b3)
    · next hg =>
      obtain ⟨q', h1, h2⟩ := Option.map_eq_some_iff.mp hst
      cases h2
      exact hinv i n a b w hcd hg h1 (fun ad' cst' H' locs' b1 b2 b3 b4 => next b1 b4 b2 b3)
    · obtain ⟨q', h1, h2⟩ := Option.map_eq_some_iff.mp hst
      cases h2
    · split at hst
      · cases hst
      · cases hst
end SVF
