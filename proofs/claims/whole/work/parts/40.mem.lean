/-! The static ints as a memory of integers: 'put h σ' is the heap h with the ints of σ at its static places. -/
abbrev Mem : Type := Nat → Int → Int
def mup (σ : Mem) (i : Nat) (k z : Int) : Mem := fun a b => if a = i then (if b = k then z else σ a b) else σ a b
def shA (i : Nat) : Bool := shI i && (Nat.ble 100 (shT i) && Nat.ble (shT i) 102)
def shJl : List (Nat × Nat) := [(1, 8), (2, 1), (5, 7), (5, 8), (20, 7), (20, 8), (35, 3), (35, 4), (35, 5), (35, 6), (38, 5), (38, 6), (38, 7), (49, 4), (49, 5), (49, 6), (54, 2), (54, 3), (54, 4), (54, 7), (54, 8), (54, 9), (54, 10), (58, 0), (58, 2), (58, 3), (58, 7), (58, 11), (58, 14), (58, 21), (58, 22), (58, 23), (58, 24), (58, 30), (58, 35), (58, 37), (58, 38), (58, 39), (58, 41), (58, 43), (58, 44), (58, 45), (58, 49), (58, 51), (58, 54), (58, 57), (58, 58), (58, 61), (58, 63), (58, 64), (58, 65), (58, 66), (58, 67), (58, 68), (58, 70)]
def shJ (i k : Nat) : Bool := shA i || shJl.contains (i, k)
def put (h : mHp) (σ : Mem) : mHp := (h.1, h.2.1, fun i => ((h.2.2 i).1, (h.2.2 i).2.1, fun k => if shJ i k = true then vi (σ i k) else (h.2.2 i).2.2 k))
def RM (σ : Mem) : Prop := ∀ i k, rg (σ i k)
def rgo (o : Option Int) : Prop := ∀ z, o = some z → rg z
/-- the method y runs over the memory σ, answers o, leaves σ' -/
def Rn (d y : Nat) (as : List Value) (σ : Mem) (o : Option Int) (σ' : Mem) : Prop := RM σ → RM σ' ∧ rgo o ∧ ∀ h, Sh h → Ru d y as (put h σ) (.inl (o.map vi), put h σ')
/-- so does its body from pc -/
def Wk (d y pc : Nat) (lv : List (Nat × Value)) (st : List Value) (σ : Mem) (o : Option Int) (σ' : Mem) : Prop := RM σ' ∧ rgo o ∧ ∀ h, Sh h → Go d false y (pc, lv, st, put h σ) (.inl (o.map vi), put h σ')
def Lb (d y pc : Nat) (lv : List (Nat × Value)) (st : List Value) (σ : Mem) (o : Option Int) (σ' : Mem) : Prop := RM σ → Wk d y pc lv st σ o σ'
section PUT
variable {h : mHp} {σ : Mem} {i k : Nat} {z : Int}
theorem put_tag : hTag (put h σ) i = hTag h i := rfl
theorem put_len : hLen (put h σ) i = hLen h i := rfl
theorem put_at (hj : shJ i k = true) : hAt (put h σ) i k = vi (σ i k) := if_pos hj
theorem put_no (hj : shJ i k = false) : hAt (put h σ) i k = hAt h i k := by
  show (if shJ i k = true then _ else _) = _
  rw [hj]; rfl
theorem put_set (hj : shJ i k = true) : hSet (put h σ) i k (vi z) = put h (mup σ i k z) := by
  unfold hSet put
  refine congrArg (fun f => (h.1, h.2.1, f)) (funext fun j => ?_)
  by_cases e : j = i
  · subst e
    rw [if_pos rfl]
    refine congrArg (fun f => ((h.2.2 j).1, (h.2.2 j).2.1, f)) (funext fun x => ?_)
    dsimp only
    by_cases q : x = k
    · subst q; rw [if_pos rfl, if_pos hj]; simp only [mup, if_pos]
    · rw [if_neg q]
      simp only [mup, if_pos, if_neg (show ¬ ((x : Int) = k) by omega)]
  · rw [if_neg e]
    simp only [mup, if_neg e]
theorem shJ_no : (shR.all (fun q => !(shJ q.1 q.2.1))) = true := by decide +kernel
theorem put_sh (S : Sh h) : Sh (put h σ) := ⟨S.1, S.2.1, fun q hq => (put_no (by
  have := List.all_eq_true.mp shJ_no q hq
  simpa using this)).trans (S.2.2 q hq)⟩
theorem RM.up (H : RM σ) {k : Int} (hz : rg z) : RM (mup σ i k z) := fun a b => by
  unfold mup
  split
  · split
    · exact hz
    · exact H a b
  · exact H a b
theorem rgk (h : decide (-2147483648 ≤ z ∧ z < 2147483648) = true) : rg z := by have q := of_decide_eq_true h; exact q
theorem mup_eq {k : Int} : mup σ i k z i k = z := by simp only [mup, if_pos]
theorem mup_ne {j : Nat} {k x : Int} (h : j ≠ i) : mup σ i k z j x = σ j x := by simp only [mup, if_neg h]
theorem mup_nk {k x : Int} (h : x ≠ k) : mup σ i k z i x = σ i x := by simp only [mup, if_pos, if_neg h]
end PUT
/-- rows: outside nothing is written, and -1 is read -/
def rowv (n : Nat) (σ : Mem) (a : Nat) (z : Int) : Int := if 0 ≤ z ∧ z < n then σ a z else -1
def rows (n : Nat) (σ : Mem) (a : Nat) (z v : Int) : Mem := if 0 ≤ z ∧ z < n then mup σ a z v else σ
theorem RM.rv {σ : Mem} (H : RM σ) {n a : Nat} {z : Int} : rg (rowv n σ a z) := by
  unfold rowv
  split
  · exact H _ _
  · exact rgk rfl
theorem RM.rs {σ : Mem} (H : RM σ) {n a : Nat} {z v : Int} (hv : rg v) : RM (rows n σ a z v) := by
  unfold rows
  split
  · exact H.up hv
  · exact H
theorem rows_ne {n a j : Nat} {σ : Mem} {z v x : Int} (h : j ≠ a) : rows n σ a z v j x = σ j x := by
  unfold rows
  split
  · exact mup_ne h
  · rfl
/-- locals that say more hold the run, too -/
def lvS (lv lv' : List (Nat × Value)) : Prop := (lv.map Prod.fst).Nodup ∧ ∀ j v, lv.lookup j = some v → lv'.lookup j = some v
theorem lookup_mem {lv : List (Nat × Value)} {j : Nat} {v : Value} (h : lv.lookup j = some v) : (j, v) ∈ lv := by
  induction lv with
  | nil => cases h
  | cons q l ih =>
    obtain ⟨a, b⟩ := q
    rw [List.lookup_cons] at h
    split at h
    · next e => cases h; rw [beq_iff_eq] at e; subst e; exact List.mem_cons_self
    · exact List.mem_cons_of_mem _ (ih h)
theorem mem_lookup {lv : List (Nat × Value)} {j : Nat} {v : Value} (hn : (lv.map Prod.fst).Nodup) (h : (j, v) ∈ lv) : lv.lookup j = some v := by
  induction lv with
  | nil => cases h
  | cons q l ih =>
    obtain ⟨a, b⟩ := q
    rw [List.map_cons, List.nodup_cons] at hn
    rw [List.lookup_cons]
    rcases List.mem_cons.mp h with e | h'
    · cases e; rw [beq_self_eq_true]
    · have hne : (j == a) = false := by
        rw [beq_eq_false_iff_ne]
        intro e
        exact hn.1 (List.mem_map.mpr ⟨(j, v), h', e⟩)
      rw [hne]; exact ih hn.2 h'
theorem lvf_lookup {lv : List (Nat × Value)} {j : Nat} {v : Value} {p : Nat × Value → Bool} (h : lv.lookup j = some v) (hp : p (j, v) = true) : (lv.filter p).lookup j = some v := by
  induction lv with
  | nil => cases h
  | cons q l ih =>
    obtain ⟨a, b⟩ := q
    rw [List.lookup_cons] at h
    split at h
    · next e =>
      cases h; rw [beq_iff_eq] at e; subst e
      rw [List.filter_cons_of_pos hp, List.lookup_cons, beq_self_eq_true]
    · next e =>
      rw [List.filter_cons]
      split
      · rw [List.lookup_cons, e]; exact ih h
      · exact ih h
theorem lvS.sto {lv lv' : List (Nat × Value)} (H : lvS lv lv') (i : Nat) (v : Value) (p : Nat × Value → Bool) (hp : ∀ w, p (i, w) = false) : lvS ((i, v) :: lv.filter p) ((i, v) :: lv'.filter p) := by
  refine ⟨?_, fun j w hw => ?_⟩
  · rw [List.map_cons, List.nodup_cons]
    refine ⟨fun hm => ?_, H.1.sublist (List.Sublist.map _ List.filter_sublist)⟩
    obtain ⟨⟨a, b⟩, h1, h2⟩ := List.mem_map.mp hm
    cases h2
    have := (List.mem_filter.mp h1).2
    rw [hp] at this; cases this
  · rw [List.lookup_cons] at hw ⊢
    split at hw
    · exact hw
    · next e =>
      have h1 := List.mem_filter.mp (lookup_mem hw)
      exact lvf_lookup (H.2 j w (mem_lookup H.1 h1.1)) h1.2
theorem lvS.s1 {lv lv' : List (Nat × Value)} (H : lvS lv lv') (i : Nat) (v : Value) : lvS (mSto1 lv i v) (mSto1 lv' i v) := H.sto i v _ (fun w => by simp)
theorem lvS.s2 {lv lv' : List (Nat × Value)} (H : lvS lv lv') (i : Nat) (v : Value) : lvS (mSto2 lv i v) (mSto2 lv' i v) := H.sto i v _ (fun w => by simp)
theorem lvS_loc {nL : Nat} {lv lv' : List (Nat × Value)} {st : List Value} {i : Instr} {q : List (Nat × Value) × List Value} (H : lvS lv lv') (hm : mLoc nL lv st i = some q) : ∃ l2, mLoc nL lv' st i = some (l2, q.2) ∧ lvS q.1 l2 := by
  have L : ∀ {k : Nat} {ok : Value → Bool}, mLd lv st k ok = some q → ∃ l2, mLd lv' st k ok = some (l2, q.2) ∧ lvS q.1 l2 := by
    intro k ok hq
    unfold mLd at hq ⊢
    split at hq
    · next v hv =>
      rw [H.2 _ _ hv]
      dsimp only
      split at hq
      · next hk => cases hq; rw [if_pos hk]; exact ⟨lv', rfl, H⟩
      · cases hq
    · cases hq
  have S1 : ∀ {k : Nat} {ok : Value → Bool}, mSt1 lv st nL k ok = some q → ∃ l2, mSt1 lv' st nL k ok = some (l2, q.2) ∧ lvS q.1 l2 := by
    intro k ok hq
    unfold mSt1 at hq ⊢
    split at hq
    · next hk =>
      split at hq
      · next hk => cases hq; rw [if_pos hk]; exact ⟨_, rfl, H.s1 _ _⟩
      · cases hq
    · cases hq
  have S2 : ∀ {k : Nat} {ok : Value → Bool}, mSt2 lv st nL k ok = some q → ∃ l2, mSt2 lv' st nL k ok = some (l2, q.2) ∧ lvS q.1 l2 := by
    intro k ok hq
    unfold mSt2 at hq ⊢
    split at hq
    · next hk =>
      split at hq
      · next hk => cases hq; rw [if_pos hk]; exact ⟨_, rfl, H.s2 _ _⟩
      · cases hq
    · cases hq
  cases i with
  | iload_n k => exact L hm
  | iload k => exact L hm
  | lload_n k => exact L hm
  | lload k => exact L hm
  | dload_n k => exact L hm
  | dload k => exact L hm
  | aload_n k => exact L hm
  | aload k => exact L hm
  | istore_n k => exact S1 hm
  | istore k => exact S1 hm
  | astore_n k => exact S1 hm
  | astore k => exact S1 hm
  | lstore_n k => exact S2 hm
  | lstore k => exact S2 hm
  | dstore_n k => exact S2 hm
  | dstore k => exact S2 hm
  | iinc k n =>
    simp only [mLoc] at hm ⊢
    split at hm
    · next x hx =>
      rw [H.2 _ _ hx]
      dsimp only
      split at hm
      · next hk => cases hm; rw [if_pos hk]; exact ⟨_, rfl, H.s1 _ _⟩
      · cases hm
    · cases hm
  | _ => simp only [mLoc] at hm; cases hm
/-- a state with more in its locals -/
def stS (S S' : mSt) : Prop := S.1 = S'.1 ∧ lvS S.2.1 S'.2.1 ∧ S.2.2 = S'.2.2
theorem lvS_back {y pc : Nat} {lv lv' : List (Nat × Value)} {rest : List Value} {o : mRes × mHp} {S : mSt} (H : lvS lv lv') (hm : mBack y pc lv rest o = some S) : ∃ S', mBack y pc lv' rest o = some S' ∧ stS S S' := by
  obtain ⟨r, h⟩ := o
  cases r with
  | inl v => simp only [mBack] at hm ⊢; cases hm; exact ⟨_, rfl, rfl, H, rfl⟩
  | inr k =>
    simp only [mBack] at hm ⊢
    obtain ⟨t, h1, rfl⟩ := Option.map_eq_some_iff.mp hm
    rw [h1]
    exact ⟨_, rfl, rfl, H, rfl⟩
theorem lvS_inv {call : Nat → List Value → mHp → Option (mRes × mHp)} {y pc a b : Nat} {lv lv' : List (Nat × Value)} {st : List Value} {h : mHp} {i : Instr} {S : mSt} (H : lvS lv lv') (hm : mInv call y pc a b lv st h i = some S) : ∃ S', mInv call y pc a b lv' st h i = some S' ∧ stS S S' := by
  have bnd : ∀ {as rest : List Value}, (call b as h).bind (mBack y pc lv rest) = some S → ∃ S', (call b as h).bind (mBack y pc lv' rest) = some S' ∧ stS S S' := by
    intro as rest hb
    obtain ⟨o, h1, h2⟩ := Option.bind_eq_some_iff.mp hb
    rw [h1, Option.bind_some]
    exact lvS_back H h2
  cases i with
  | invokevirtual ix =>
    simp only [mInv] at hm ⊢
    split at hm
    · split at hm
      · next hcd => rw [if_pos hcd]; exact bnd hm
      · cases hm
    · cases hm
  | invokestatic ix =>
    simp only [mInv] at hm ⊢
    split at hm
    · next ha =>
      rw [if_pos ha]
      split at hm
      · split at hm
        · next hcd => rw [if_pos hcd]; cases hm; exact ⟨_, rfl, rfl, H, rfl⟩
        · cases hm
      · cases hm
    · next ha =>
      rw [if_neg ha]
      split at hm
      · next hcd => rw [if_pos hcd]; exact bnd hm
      · cases hm
  | invokespecial ix =>
    simp only [mInv] at hm ⊢
    split at hm
    · next ha =>
      rw [if_pos ha]
      split at hm
      · split at hm
        · next hcd => rw [if_pos hcd]; cases hm; exact ⟨_, rfl, rfl, H, rfl⟩
        · cases hm
      · cases hm
    · next ha =>
      rw [if_neg ha]
      split at hm
      · cases hm
      · next ha9 =>
        rw [if_neg ha9]
        split at hm
        · split at hm
          · next hcd => rw [if_pos hcd]; exact bnd hm
          · cases hm
        · cases hm
  | _ => simp only [mInv] at hm; cases hm
def stX (X X' : mSt ⊕ (mRes × mHp)) : Prop := match X, X' with
  | .inl S, .inl S' => stS S S'
  | .inr r, .inr r' => r = r'
  | _, _ => False
theorem lvS_step {call : Nat → List Value → mHp → Option (mRes × mHp)} {sc : Bool} {y : Nat} {S S' : mSt} {X : mSt ⊕ (mRes × mHp)} (H : stS S S') (hm : mStep call sc y S = some X) : ∃ X', mStep call sc y S' = some X' ∧ stX X X' := by
  obtain ⟨pc, lv, st, h⟩ := S
  obtain ⟨pc', lv', st', h'⟩ := S'
  obtain ⟨e1, e2, e3⟩ := H
  cases e1; cases e3
  unfold mStep at hm ⊢
  dsimp only at hm ⊢
  split at hm
  · cases hm
  · next i n a b w hc =>
    unfold mIns at hm ⊢
    split at hm
    · obtain ⟨q, h1, rfl⟩ := Option.map_eq_some_iff.mp hm
      rw [h1]; exact ⟨_, rfl, rfl, e2, rfl⟩
    · obtain ⟨q, h1, rfl⟩ := Option.map_eq_some_iff.mp hm
      obtain ⟨l2, h2, h3⟩ := lvS_loc e2 h1
      dsimp only at h2 ⊢
      rw [h2]; exact ⟨_, rfl, rfl, h3, rfl⟩
    · obtain ⟨q, h1, h2⟩ := Option.bind_eq_some_iff.mp hm
      obtain ⟨t, h3, rfl⟩ := Option.map_eq_some_iff.mp h2
      rw [h1, Option.bind_some, h3]; exact ⟨_, rfl, rfl, e2, rfl⟩
    · split at hm
      · next q hq => cases hm; exact ⟨_, rfl, rfl, e2, rfl⟩
      · next hq =>
        obtain ⟨q, h1, rfl⟩ := Option.map_eq_some_iff.mp hm
        rw [h1]; exact ⟨_, rfl, rfl, e2, rfl⟩
    · obtain ⟨q, h1, rfl⟩ := Option.map_eq_some_iff.mp hm
      obtain ⟨S', h2, h3⟩ := lvS_inv e2 h1
      rw [h2]; exact ⟨_, rfl, h3⟩
    · obtain ⟨q, h1, rfl⟩ := Option.map_eq_some_iff.mp hm
      rw [h1]; exact ⟨_, rfl, rfl⟩
    · split at hm
      · next hq => cases hm; rw [if_pos hq]; exact ⟨_, rfl, rfl⟩
      · cases hm
theorem lvS_go {call : Nat → List Value → mHp → Option (mRes × mHp)} {sc : Bool} {y : Nat} : ∀ (k : Nat) {S S' : mSt} {r : mRes × mHp}, stS S S' → mGo call sc y k S = some r → mGo call sc y k S' = some r
  | 0, _, _, _, _, h => by cases h
  | k + 1, S, S', r, H, h => by
    simp only [mGo] at h ⊢
    split at h
    · cases h
    · next S1 hS =>
      obtain ⟨X', h1, h2⟩ := lvS_step H hS
      rw [h1]
      cases X' with
      | inl S2 => exact lvS_go k h2 h
      | inr r2 => cases h2
    · next r1 hS =>
      obtain ⟨X', h1, h2⟩ := lvS_step H hS
      rw [h1]
      cases X' with
      | inl S2 => cases h2
      | inr r2 => rw [← h2]; exact h
theorem lvS_nil {lv : List (Nat × Value)} : lvS [] lv := ⟨List.nodup_nil, fun _ _ h => by cases h⟩
theorem lvS_cons {l lv : List (Nat × Value)} {i : Nat} {v : Value} (h1 : lv.lookup i = some v) (hn : (l.map Prod.fst).contains i = false) (H : lvS l lv) : lvS ((i, v) :: l) lv := by
  refine ⟨?_, fun j w hw => ?_⟩
  · rw [List.map_cons, List.nodup_cons]
    refine ⟨fun hm => ?_, H.1⟩
    rw [List.contains_iff_mem.mpr hm] at hn
    cases hn
  · rw [List.lookup_cons] at hw
    split at hw
    · next e => cases hw; rw [beq_iff_eq] at e; subst e; exact h1
    · exact H.2 j w hw
/-- to a label, with the locals that it asks for -/
theorem k_lab {d y pc : Nat} {lv lv' : List (Nat × Value)} {st : List Value} {σ σ' : Mem} {o : Option Int} (L : Lb d y pc lv st σ o σ') (hM : RM σ) (H : lvS lv lv') : Wk d y pc lv' st σ o σ' := by
  obtain ⟨h1, h2, h3⟩ := L hM
  refine ⟨h1, h2, fun h S => ?_⟩
  obtain ⟨F, k, hk⟩ := h3 h S
  exact ⟨F, k, lvS_go k (S := (pc, lv, st, put h σ)) ⟨rfl, H, rfl⟩ hk⟩
section KK
variable {d y pc n a b w : Nat} {lv lv' : List (Nat × Value)} {st st' : List Value} {σ σ' σ1 : Mem} {o : Option Int} {i : Instr}
theorem k_p (hc : mcd y pc = some (i, n, a, b, w)) (hg : mGrp a i = 0) (hp : mPure a b st i = some st') (K : Wk d y (pc + n) lv st' σ o σ') : Wk d y pc lv st σ o σ' := ⟨K.1, K.2.1, fun h S => g_p hc hg hp (K.2.2 h S)⟩
theorem k_l (hc : mcd y pc = some (i, n, a, b, w)) (hg : mGrp a i = 1) (hp : mLoc (mMaxL y) lv st i = some (lv', st')) (K : Wk d y (pc + n) lv' st' σ o σ') : Wk d y pc lv st σ o σ' := ⟨K.1, K.2.1, fun h S => g_l hc hg hp (K.2.2 h S)⟩
theorem k_b {q : Option Int} {t : Nat} (hc : mcd y pc = some (i, n, a, b, w)) (hg : mGrp a i = 2) (hp : mBr pc st i = some (q, st')) (ht : mOff pc n q = some t) (K : Wk d y t lv st' σ o σ') : Wk d y pc lv st σ o σ' := ⟨K.1, K.2.1, fun h S => g_b hc hg hp ht (K.2.2 h S)⟩
theorem k_k {x : Int} {v : Value} (hc : mcd y pc = some (i, n, a, b, w)) (hg : mGrp a i = 0) (hp : mPure a b st i = some (v :: st)) (hv : v = vi x) (K : Wk d y (pc + n) lv (vi x :: st) σ o σ') : Wk d y pc lv st σ o σ' := by
  subst hv; exact k_p hc hg hp K
theorem k_add {u v : Int} (hc : mcd y pc = some (.iadd, n, a, b, w)) (K : Wk d y (pc + n) lv (vi (u + v) :: st) σ o σ') : Wk d y pc lv (vi v :: vi u :: st) σ o σ' := ⟨K.1, K.2.1, fun h S => gi_add hc (K.2.2 h S)⟩
theorem k_sub {u v : Int} (hc : mcd y pc = some (.isub, n, a, b, w)) (K : Wk d y (pc + n) lv (vi (u - v) :: st) σ o σ') : Wk d y pc lv (vi v :: vi u :: st) σ o σ' := ⟨K.1, K.2.1, fun h S => gi_sub hc (K.2.2 h S)⟩
theorem k_mul {u v : Int} (hc : mcd y pc = some (.imul, n, a, b, w)) (K : Wk d y (pc + n) lv (vi (u * v) :: st) σ o σ') : Wk d y pc lv (vi v :: vi u :: st) σ o σ' := ⟨K.1, K.2.1, fun h S => gi_mul hc (K.2.2 h S)⟩
theorem k_inc {k : Nat} {m z : Int} (hc : mcd y pc = some (.iinc k m, n, a, b, w)) (hl : lv.lookup k = some (vi z)) (hk : k < mMaxL y) (K : Wk d y (pc + n) (mSto1 lv k (vi (z + m))) st σ o σ') : Wk d y pc lv st σ o σ' := ⟨K.1, K.2.1, fun h S => gi_inc hc rfl hl hk (K.2.2 h S)⟩
theorem k_c {u v z : Int} {cn : ClassFile.Cond} {q : Bool} {t : Nat} (hc : mcd y pc = some (.if_icmp cn z, n, a, b, w)) (hd : 0 ≤ (pc : Int) + z) (ru : rg u) (rv : rg v) (hq : cndI u v cn = q) (ht : mOff pc n (if q = true then some z else none) = some t) (K : Wk d y t lv st σ o σ') : Wk d y pc lv (vi v :: vi u :: st) σ o σ' := ⟨K.1, K.2.1, fun h S => gi_c hc hd ru rv hq ht (K.2.2 h S)⟩
theorem k_z {u z : Int} {cn : ClassFile.Cond} {q : Bool} {t : Nat} (hc : mcd y pc = some (.ifCond cn z, n, a, b, w)) (hd : 0 ≤ (pc : Int) + z) (ru : rg u) (hq : cndI u 0 cn = q) (ht : mOff pc n (if q = true then some z else none) = some t) (K : Wk d y t lv st σ o σ') : Wk d y pc lv (vi u :: st) σ o σ' := ⟨K.1, K.2.1, fun h S => gi_z hc hd ru hq ht (K.2.2 h S)⟩
/-- a field that is an int -/
theorem k_gf {ix j : Nat} {z : Int} (hc : mcd y pc = some (.getfield ix, n, a, b, w)) (hi : shI j = true) (ht : shT j = a) (ha : a < 12) (hj : shJ j b = true) (he : σ j b = z) (K : Wk d y (pc + n) lv (vi z :: st) σ o σ') : Wk d y pc lv (.ref j :: st) σ o σ' := ⟨K.1, K.2.1, fun h S => g_gf hc ((S.t j hi).trans ht) ha ((put_at hj).trans (congrArg vi he)) (K.2.2 h S)⟩
/-- a field that is a reference -/
theorem k_gr {ix j t : Nat} (hc : mcd y pc = some (.getfield ix, n, a, b, w)) (hi : shI j = true) (ht : shT j = a) (ha : a < 12) (hr : shR.contains (j, b, t) = true) (K : Wk d y (pc + n) lv (.ref t :: st) σ o σ') : Wk d y pc lv (.ref j :: st) σ o σ' := ⟨K.1, K.2.1, fun h S => g_gf hc ((S.t j hi).trans ht) ha ((put_sh S).r j b t hr) (K.2.2 h S)⟩
theorem k_pf {ix j : Nat} {z : Int} (hc : mcd y pc = some (.putfield ix, n, a, b, w)) (hi : shI j = true) (ht : shT j = a) (ha : a < 12) (hj : shJ j b = true) (h1 : okTy (clsTy a b) = true) (h2 : fits (clsTy a b) (vi z) = true) (h3 : ((cls.getD a (mR0, mT0, 0)).2.1 b).2.2.2 = false) (K : Wk d y (pc + n) lv st (mup σ j b z) o σ') : Wk d y pc lv (vi z :: .ref j :: st) σ o σ' := ⟨K.1, K.2.1, fun h S => g_pf hc ((S.t j hi).trans ht) ha h1 h2 h3 (by rw [put_set hj]; exact K.2.2 h S)⟩
theorem fitb {z : Int} (hz : z = 0 ∨ z = 1) : fits .boolean (vi z) = true := by rcases hz with rfl | rfl <;> rfl
theorem fitc {z : Int} (hz : 0 ≤ z ∧ z < 65536) : fits .char (vi z) = true := vi_char hz
theorem sh_len {h : mHp} {j : Nat} (S : Sh h) (hi : shI j = true) : hLen (put h σ) j = shL j := S.l j hi
theorem shA_I {j : Nat} (hj : shA j = true) : shI j = true := (Bool.and_eq_true_iff.mp hj).1
theorem shA_J {j k : Nat} (hj : shA j = true) : shJ j k = true := by unfold shJ; rw [hj]; rfl
/-- reading of an array of ints, chars, booleans -/
theorem k_al {t j : Nat} {z e : Int} (hc : mcd y pc = some (i, n, a, b, w)) (hg : mGrp a i = 3) (hm : ∀ h, mMem y a b (vi z :: .ref j :: st) h i = mArrL h (vi z :: .ref j :: st) t) (hj : shA j = true) (ht : shT j = t) (h0 : 0 ≤ z ∧ z < (shL j : Int)) (h2 : shL j ≤ 100000) (he : σ j z = e) (K : Wk d y (pc + n) lv (vi e :: st) σ o σ') : Wk d y pc lv (vi z :: .ref j :: st) σ o σ' := ⟨K.1, K.2.1, fun h S => gi_al hc hg rfl (hm _) ((S.t j (shA_I hj)).trans ht) h0.1 (by rw [sh_len S (shA_I hj)]; exact h0.2) (by rw [sh_len S (shA_I hj)]; exact h2) (by rw [put_at (shA_J hj), Int.toNat_of_nonneg h0.1, he]) (K.2.2 h S)⟩
theorem k_as {t j : Nat} {z v : Int} {ok : Value → Bool} (hc : mcd y pc = some (i, n, a, b, w)) (hg : mGrp a i = 3) (hm : ∀ h, mMem y a b (vi v :: vi z :: .ref j :: st) h i = mArrS h (vi v :: vi z :: .ref j :: st) t ok) (hj : shA j = true) (ht : shT j = t) (h0 : 0 ≤ z ∧ z < (shL j : Int)) (h2 : shL j ≤ 100000) (hv : ok (vi v) = true) (K : Wk d y (pc + n) lv st (mup σ j z v) o σ') : Wk d y pc lv (vi v :: vi z :: .ref j :: st) σ o σ' := ⟨K.1, K.2.1, fun h S => gi_as hc hg rfl (hm _) ((S.t j (shA_I hj)).trans ht) h0.1 (by rw [sh_len S (shA_I hj)]; exact h0.2) (by rw [sh_len S (shA_I hj)]; exact h2) hv (by rw [put_set (shA_J hj), Int.toNat_of_nonneg h0.1]; exact K.2.2 h S)⟩
theorem k_len {j : Nat} (hc : mcd y pc = some (.arraylength, n, a, b, w)) (hj : shA j = true) (K : Wk d y (pc + n) lv (vi (shL j) :: st) σ o σ') : Wk d y pc lv (.ref j :: st) σ o σ' := ⟨K.1, K.2.1, fun h S => by
  have e := Bool.and_eq_true_iff.mp hj
  have e2 := Bool.and_eq_true_iff.mp e.2
  have t1 : hTag (put h σ) j = shT j := S.t j e.1
  have l1 : hLen (put h σ) j = shL j := S.l j e.1
  refine gi_len hc rfl (by rw [t1]; exact Nat.le_of_ble_eq_true e2.1) (by rw [t1]; exact Nat.le_trans (Nat.le_of_ble_eq_true e2.2) (by decide)) ?_
  rw [l1]; exact K.2.2 h S⟩
/-- calls that answer, calls that don't -/
theorem k_iv {ix j : Nat} {as rest : List Value} {v : Int} (hc : mcd y pc = some (.invokevirtual ix, n, a, b, w)) (hst : st.drop (mArgN b) = .ref j :: rest) (has : (st.take (mArgN b)).reverse = as) (hi : shI j = true) (ht : shT j = mOwn b) (ho : mOwn b < 12) (h8 : mRoom8 rest = true) (hM : RM σ) (R : Rn d b (.ref j :: as) σ (some v) σ1) (K : RM σ1 → rg v → Wk d y (pc + 3) lv (vi v :: rest) σ1 o σ') : Wk d y pc lv st σ o σ' := by
  obtain ⟨r1, r2, r3⟩ := R hM
  obtain ⟨k1, k2, k3⟩ := K r1 (r2 v rfl)
  exact ⟨k1, k2, fun h S => g_iv hc hst has ((S.t j hi).trans ht) ho h8 (r3 h S) (k3 h S)⟩
theorem k_iw {ix j : Nat} {as rest : List Value} (hc : mcd y pc = some (.invokevirtual ix, n, a, b, w)) (hst : st.drop (mArgN b) = .ref j :: rest) (has : (st.take (mArgN b)).reverse = as) (hi : shI j = true) (ht : shT j = mOwn b) (ho : mOwn b < 12) (h8 : mRoom8 rest = true) (hM : RM σ) (R : Rn d b (.ref j :: as) σ none σ1) (K : RM σ1 → Wk d y (pc + 3) lv rest σ1 o σ') : Wk d y pc lv st σ o σ' := by
  obtain ⟨r1, r2, r3⟩ := R hM
  obtain ⟨k1, k2, k3⟩ := K r1
  exact ⟨k1, k2, fun h S => g_iv hc hst has ((S.t j hi).trans ht) ho h8 (r3 h S) (k3 h S)⟩
theorem k_is {ix : Nat} {as rest : List Value} {v : Int} (hc : mcd y pc = some (.invokestatic ix, n, a, b, w)) (ha : a ≠ 5) (hl : mArgN b ≤ st.length) (hst : st.drop (mArgN b) = rest) (has : (st.take (mArgN b)).reverse = as) (h8 : mRoom8 rest = true) (hM : RM σ) (R : Rn d b as σ (some v) σ1) (K : RM σ1 → rg v → Wk d y (pc + 3) lv (vi v :: rest) σ1 o σ') : Wk d y pc lv st σ o σ' := by
  obtain ⟨r1, r2, r3⟩ := R hM
  obtain ⟨k1, k2, k3⟩ := K r1 (r2 v rfl)
  exact ⟨k1, k2, fun h S => g_is hc ha hl hst has h8 (r3 h S) (k3 h S)⟩
/-- the end -/
theorem k_r1 {v : Int} (hM : RM σ) (hv : rg v) (hc : mcd y pc = some (i, n, a, b, w)) (hg : mGrp a i = 5) (hp : mRet y st i = some (some (vi v))) : Wk d y pc lv st σ (some v) σ := ⟨hM, fun z h => by cases h; exact hv, fun h S => g_r hc hg hp⟩
theorem k_r0 (hM : RM σ) (hc : mcd y pc = some (i, n, a, b, w)) (hg : mGrp a i = 5) (hp : mRet y st i = some none) : Wk d y pc lv st σ none σ := ⟨hM, (fun z h => by cases h), fun h S => g_r hc hg hp⟩
/-- a method out of its body -/
theorem k_m {args : List Value} (hl : (lg_sl args).length ≤ mMaxL y) (K : RM σ → Wk d y 0 (lv_args 0 args) [] σ o σ') : Rn (d + 1) y args σ o σ' := fun hM => ⟨(K hM).1, (K hM).2.1, fun h S => ru_go hl ((K hM).2.2 h S)⟩
end KK
theorem Rn.deep {d e y : Nat} {as : List Value} {σ σ' : Mem} {o : Option Int} (hd : d ≤ e) (R : Rn d y as σ o σ') : Rn e y as σ o σ' := fun hM => ⟨(R hM).1, (R hM).2.1, fun h S => ((R hM).2.2 h S).deep hd⟩
/-- rows are read and written -/
theorem rn_get {d r : Nat} {σ : Mem} {z : Int} (h1 : shI r = true) (h2 : shT r = 2) (h3 : shR.contains (r, 0, r + 1) = true) (h4 : shA (r + 1) = true) (h5 : shT (r + 1) = 100) (h6 : shL (r + 1) ≤ 100000) (hz : rg z) : Rn (d + 1) 14 [.ref r, vi z] σ (some (rowv (shL (r + 1)) σ (r + 1) z)) σ := fun hM => by
  refine ⟨hM, (fun v e => by cases e; exact hM.rv), fun h S => ?_⟩
  have S' := put_sh (σ := σ) S
  have e : rget (shL (r + 1)) (r + 1) (put h σ) z = vi (rowv (shL (r + 1)) σ (r + 1) z) := by
    unfold rget rowv
    split
    · next q => rw [put_at (shA_J h4), Int.toNat_of_nonneg q.1]
    · rfl
  have := row_getv (d := d) ((S'.t r h1).trans h2) (S'.r r 0 (r + 1) h3) ((S'.t (r + 1) (shA_I h4)).trans h5) (S'.l (r + 1) (shA_I h4)) h6 hz (by rw [e]; rfl)
  rw [e] at this
  exact this
theorem rn_set {d r : Nat} {σ : Mem} {z v : Int} (h1 : shI r = true) (h2 : shT r = 2) (h3 : shR.contains (r, 0, r + 1) = true) (h4 : shA (r + 1) = true) (h5 : shT (r + 1) = 100) (h6 : shL (r + 1) ≤ 100000) (hz : rg z) (hv : rg v) : Rn (d + 1) 10 [.ref r, vi z, vi v] σ none (rows (shL (r + 1)) σ (r + 1) z v) := fun hM => by
  refine ⟨hM.rs hv, (fun v e => by cases e), fun h S => ?_⟩
  have S' := put_sh (σ := σ) S
  have e : rset (shL (r + 1)) (r + 1) (put h σ) z (vi v) = put h (rows (shL (r + 1)) σ (r + 1) z v) := by
    unfold rset rows
    split
    · next q => rw [put_set (shA_J h4), Int.toNat_of_nonneg q.1]
    · rfl
  have := row_setv (d := d) ((S'.t r h1).trans h2) (S'.r r 0 (r + 1) h3) ((S'.t (r + 1) (shA_I h4)).trans h5) (S'.l (r + 1) (shA_I h4)) h6 hz (v := Int32.ofInt v)
  rw [e] at this
  exact this
/-- other operations on ints: what the machine's comes to -/
def zAnd (u v : Int) : Int := (Int32.ofInt u &&& Int32.ofInt v).toInt
def zOr (u v : Int) : Int := (Int32.ofInt u ||| Int32.ofInt v).toInt
def zShl (u v : Int) : Int := (Int32.ofInt u <<< (Int32.ofInt v &&& 31)).toInt
def zShr (u v : Int) : Int := (Int32.ofInt u >>> (Int32.ofInt v &&& 31)).toInt
def zNeg (u : Int) : Int := (-Int32.ofInt u).toInt
def zChr (u : Int) : Int := ((Int32.ofInt u).toUInt32 % 65536).toInt32.toInt
def zDiv (u v : Int) : Int := (Int32.ofInt u / Int32.ofInt v).toInt
def zRem (u v : Int) : Int := (Int32.ofInt u - Int32.ofInt u / Int32.ofInt v * Int32.ofInt v).toInt
def zMin (u v : Int) : Int := if v < u then v else u
theorem vi_toInt {x : Int32} : vi x.toInt = .int x := by unfold vi; rw [Int32.ofInt_toInt]
theorem rg_toInt {x : Int32} : rg x.toInt := ⟨x.le_toInt, x.toInt_lt⟩
theorem rg_zAnd {u v : Int} : rg (zAnd u v) := rg_toInt
theorem rg_zOr {u v : Int} : rg (zOr u v) := rg_toInt
theorem rg_zShl {u v : Int} : rg (zShl u v) := rg_toInt
theorem rg_zShr {u v : Int} : rg (zShr u v) := rg_toInt
theorem rg_zNeg {u : Int} : rg (zNeg u) := rg_toInt
theorem rg_zChr {u : Int} : rg (zChr u) := rg_toInt
theorem rg_zDiv {u v : Int} : rg (zDiv u v) := rg_toInt
theorem rg_zRem {u v : Int} : rg (zRem u v) := rg_toInt
theorem rg_zMin {u v : Int} (hu : rg u) (hv : rg v) : rg (zMin u v) := by
  unfold zMin
  split
  · exact hv
  · exact hu
theorem ret_b {y : Nat} {v : Int} (hr : mRetT y = some .boolean) (hv : v = 0 ∨ v = 1) : mRet y [vi v] .ireturn = some (some (vi v)) := by
  unfold mRet
  rw [hr]
  exact if_pos ⟨Or.inl rfl, fitb hv⟩
theorem ret_c {y : Nat} {v : Int} (hr : mRetT y = some .char) (hv : 0 ≤ v ∧ v < 65536) : mRet y [vi v] .ireturn = some (some (vi v)) := by
  unfold mRet
  rw [hr]
  exact if_pos ⟨Or.inr rfl, fitc hv⟩
section K2
variable {d y pc n a b w : Nat} {lv lv' : List (Nat × Value)} {st st' : List Value} {σ σ' σ1 : Mem} {o : Option Int} {u v : Int}
theorem k_and (hc : mcd y pc = some (.iand, n, a, b, w)) (K : Wk d y (pc + n) lv (vi (zAnd u v) :: st) σ o σ') : Wk d y pc lv (vi v :: vi u :: st) σ o σ' := k_p hc rfl (by simp only [mPure, mII, Option.map_some, zAnd, vi_toInt]) K
theorem k_or (hc : mcd y pc = some (.ior, n, a, b, w)) (K : Wk d y (pc + n) lv (vi (zOr u v) :: st) σ o σ') : Wk d y pc lv (vi v :: vi u :: st) σ o σ' := k_p hc rfl (by simp only [mPure, mII, Option.map_some, zOr, vi_toInt]) K
theorem k_shl (hc : mcd y pc = some (.ishl, n, a, b, w)) (K : Wk d y (pc + n) lv (vi (zShl u v) :: st) σ o σ') : Wk d y pc lv (vi v :: vi u :: st) σ o σ' := k_p hc rfl (by simp only [mPure, mII, Option.map_some, zShl, vi_toInt]) K
theorem k_shr (hc : mcd y pc = some (.ishr, n, a, b, w)) (K : Wk d y (pc + n) lv (vi (zShr u v) :: st) σ o σ') : Wk d y pc lv (vi v :: vi u :: st) σ o σ' := k_p hc rfl (by simp only [mPure, mII, Option.map_some, zShr, vi_toInt]) K
theorem k_neg (hc : mcd y pc = some (.ineg, n, a, b, w)) (K : Wk d y (pc + n) lv (vi (zNeg u) :: st) σ o σ') : Wk d y pc lv (vi u :: st) σ o σ' := k_p hc rfl (by simp only [mPure, mIx1, zNeg, vi_toInt]) K
theorem k_chr (hc : mcd y pc = some (.i2c, n, a, b, w)) (K : Wk d y (pc + n) lv (vi (zChr u) :: st) σ o σ') : Wk d y pc lv (vi u :: st) σ o σ' := k_p hc rfl (by simp only [mPure, mIx1, zChr, vi_toInt]) K
theorem z_ne (hv : rg v) (h : v ≠ 0) : ¬ (Int32.ofInt v = 0) := fun e => h (by have := congrArg Int32.toInt e; rw [hv.to] at this; exact this)
theorem k_div (hc : mcd y pc = some (.idiv, n, a, b, w)) (hv : rg v) (h : v ≠ 0) (K : Wk d y (pc + n) lv (vi (zDiv u v) :: st) σ o σ') : Wk d y pc lv (vi v :: vi u :: st) σ o σ' := k_p hc rfl (by simp only [mPure, mII, if_neg (z_ne hv h), Option.map_some, zDiv, vi_toInt]) K
theorem k_rem (hc : mcd y pc = some (.irem, n, a, b, w)) (hv : rg v) (h : v ≠ 0) (K : Wk d y (pc + n) lv (vi (zRem u v) :: st) σ o σ') : Wk d y pc lv (vi v :: vi u :: st) σ o σ' := k_p hc rfl (by simp only [mPure, mII, if_neg (z_ne hv h), Option.map_some, zRem, vi_toInt]) K
theorem k_min {ix : Nat} (hc : mcd y pc = some (.invokestatic ix, n, 5, b, w)) (h8 : mRoom8 st = true) (hu : rg u) (hv : rg v) (K : Wk d y (pc + 3) lv (vi (zMin u v) :: st) σ o σ') : Wk d y pc lv (vi v :: vi u :: st) σ o σ' := ⟨K.1, K.2.1, fun h S => g_mn hc h8 (by
  have e : (.int (if Int32.ofInt v < Int32.ofInt u then Int32.ofInt v else Int32.ofInt u) : Value) = vi (zMin u v) := by
    unfold zMin
    by_cases q : v < u
    · rw [if_pos q, if_pos (by rw [Int32.lt_iff_toInt_lt, hu.to, hv.to]; exact q)]
    · rw [if_neg q, if_neg (by rw [Int32.lt_iff_toInt_lt, hu.to, hv.to]; exact q)]
  rw [e]; exact K.2.2 h S)⟩
/-- switches: a value that is met; none -/
theorem k_sw {c : Int} {i : Instr} {q : Option Int} {t : Nat} (hc : mcd y pc = some (i, n, a, b, w)) (hg : mGrp a i = 2) (hu : u = c) (hp : mBr pc (vi c :: st) i = some (q, st)) (ht : mOff pc n q = some t) (K : Wk d y t lv st σ o σ') : Wk d y pc lv (vi u :: st) σ o σ' := by
  subst hu; exact k_b hc hg hp ht K
theorem lsw_no : ∀ (l : List (Int × Int)) (df k : Int), (∀ q ∈ l, k ≠ q.1) → Op.lookupswitch.offset l df k = df
  | [], _, _, _ => rfl
  | (a, o) :: r, df, k, h => by
    rw [Op.lookupswitch.offset_cons, if_neg (fun e => h (a, o) List.mem_cons_self e.symm)]
    exact lsw_no r df k (fun q hq => h q (List.mem_cons_of_mem _ hq))
theorem k_lsd {df : Int} {ps : Array (Int × Int)} {t : Nat} (hc : mcd y pc = some (.lookupswitch df ps, n, a, b, w)) (hu : rg u) (hso : (ps.toList.zip (ps.toList.drop 1)).all (fun (a, next) => a.1 < next.1) = true) (hno : ∀ q ∈ ps.toList, u ≠ q.1) (ht : mOff pc n (some df) = some t) (K : Wk d y t lv st σ o σ') : Wk d y pc lv (vi u :: st) σ o σ' := k_b hc rfl (by simp only [mBr]; rw [if_pos hso, hu.to, lsw_no _ _ _ hno]) ht K
theorem k_tsd {df lo hi : Int} {ps : Array Int} {t : Nat} (hc : mcd y pc = some (.tableswitch df lo hi ps, n, a, b, w)) (hu : rg u) (hno : u < lo ∨ hi < u) (ht : mOff pc n (some df) = some t) (K : Wk d y t lv st σ o σ') : Wk d y pc lv (vi u :: st) σ o σ' := k_b hc rfl (by simp only [mBr]; rw [hu.to, if_pos hno]) ht K
end K2
