/-! The class's new objects. -/
/-- one cell more, the others as they were -/
def neC (h h' : mHp) : Prop := h'.1 = h.1 + 1 ∧ (∀ i, i ≠ h.1 → hTag h' i = hTag h i ∧ ∀ k, hAt h' i k = hAt h i k) ∧ ∀ i, i ≠ h.1 → hLen h' i = hLen h i
def hvI (h : mHp) (k z : Int) : mHp := hSet (hSet (nwO h 8) h.1 0 (vi k)) h.1 1 (vi z)
def hvR (h : mHp) (b : UInt64) : mHp := hSet (hvI h 2 0) h.1 2 (.double b)
def hvL (h : mHp) (n : Int) (x w : Value) : mHp := hSet (hSet (hvI h 3 n) h.1 3 x) h.1 4 w
def hvF (h : mHp) (m : Int) (s : Value) : mHp := hSet (hvI h 4 m) h.1 5 s
def hSc (h : mHp) (z : Int) (v o : Value) : mHp := hSet (hSet (hSet (nwO h 10) h.1 0 (vi z)) h.1 1 v) h.1 2 o
def hFr (h : mHp) (a : Int) (s c : Value) : mHp := hSet (hSet (hSet (nwO h 9) h.1 0 (vi a)) h.1 1 s) h.1 2 c
section CNEW
variable {h h' : mHp} {σ : Mem} {d : Nat}
theorem neC.nw {a : Nat} : neC h (nwO h a) := ⟨rfl, fun i hi => by
  unfold nwO hNew hTag hAt
  dsimp only
  rw [if_neg hi]
  exact ⟨rfl, fun _ => rfl⟩, fun i hi => by
  unfold nwO hNew hLen
  dsimp only
  rw [if_neg hi]⟩
theorem nw_tag {a : Nat} : hTag (nwO h a) h.1 = a := by unfold nwO hNew hTag; dsimp only; rw [if_pos rfl]
theorem neC.set (e : neC h h') {k : Nat} {v : Value} : neC h (hSet h' h.1 k v) := ⟨e.1, fun i hi => ⟨tag_set.trans (e.2.1 i hi).1, fun x => (at_ne hi x).trans ((e.2.1 i hi).2 x)⟩, fun i hi => len_set.trans (e.2.2 i hi)⟩
theorem neC.sm (e : neC h h') : smC h.1 h h' := fun i _ h1 => e.2.1 i (Nat.ne_of_lt h1)
theorem neC.I {k z : Int} : neC h (hvI h k z) := neC.nw.set.set
theorem neC.R {b : UInt64} : neC h (hvR h b) := neC.I.set
theorem neC.L {n : Int} {x w : Value} : neC h (hvL h n x w) := neC.I.set.set
theorem neC.F {m : Int} {s : Value} : neC h (hvF h m s) := neC.I.set
theorem neC.S {z : Int} {v o : Value} : neC h (hSc h z v o) := neC.nw.set.set.set
theorem neC.Fr {a : Int} {s c : Value} : neC h (hFr h a s c) := neC.nw.set.set.set
theorem hvI_at {k z : Int} : hTag (hvI h k z) h.1 = 8 ∧ hAt (hvI h k z) h.1 0 = vi k ∧ hAt (hvI h k z) h.1 1 = vi z := ⟨tag_set.trans (tag_set.trans nw_tag), (at_nk (by decide)).trans at_eq, at_eq⟩
theorem hvR_at {b : UInt64} : hTag (hvR h b) h.1 = 8 ∧ hAt (hvR h b) h.1 0 = vi 2 ∧ hAt (hvR h b) h.1 1 = vi 0 ∧ hAt (hvR h b) h.1 2 = .double b := ⟨tag_set.trans hvI_at.1, (at_nk (by decide)).trans hvI_at.2.1, (at_nk (by decide)).trans hvI_at.2.2, at_eq⟩
theorem hvL_at {n : Int} {x w : Value} : hTag (hvL h n x w) h.1 = 8 ∧ hAt (hvL h n x w) h.1 0 = vi 3 ∧ hAt (hvL h n x w) h.1 1 = vi n ∧ hAt (hvL h n x w) h.1 3 = x ∧ hAt (hvL h n x w) h.1 4 = w := ⟨tag_set.trans (tag_set.trans hvI_at.1), (at_nk (by decide)).trans ((at_nk (by decide)).trans hvI_at.2.1), (at_nk (by decide)).trans ((at_nk (by decide)).trans hvI_at.2.2), (at_nk (by decide)).trans at_eq, at_eq⟩
theorem hvF_at {m : Int} {s : Value} : hTag (hvF h m s) h.1 = 8 ∧ hAt (hvF h m s) h.1 0 = vi 4 ∧ hAt (hvF h m s) h.1 1 = vi m ∧ hAt (hvF h m s) h.1 5 = s := ⟨tag_set.trans hvI_at.1, (at_nk (by decide)).trans hvI_at.2.1, (at_nk (by decide)).trans hvI_at.2.2, at_eq⟩
theorem hSc_at {z : Int} {v o : Value} : hTag (hSc h z v o) h.1 = 10 ∧ hAt (hSc h z v o) h.1 0 = vi z ∧ hAt (hSc h z v o) h.1 1 = v ∧ hAt (hSc h z v o) h.1 2 = o := ⟨tag_set.trans (tag_set.trans (tag_set.trans nw_tag)), (at_nk (by decide)).trans ((at_nk (by decide)).trans at_eq), (at_nk (by decide)).trans at_eq, at_eq⟩
theorem hFr_at {a : Int} {s c : Value} : hTag (hFr h a s c) h.1 = 9 ∧ hAt (hFr h a s c) h.1 0 = vi a ∧ hAt (hFr h a s c) h.1 1 = s ∧ hAt (hFr h a s c) h.1 2 = c := ⟨tag_set.trans (tag_set.trans (tag_set.trans nw_tag)), (at_nk (by decide)).trans ((at_nk (by decide)).trans at_eq), (at_nk (by decide)).trans at_eq, at_eq⟩
theorem rh_s {y : Nat} {as : List Value} {r : mRes} {σ' : Mem} (f : RM σ → Sh h → Rh d y as h σ r h' σ') : Rh d y as h σ r h' σ' := fun M S => f M S M S
/-- a value's own cells -/
theorem r_vinit {j : Nat} {k z : Int} (hj : 100 ≤ j) (ht : hTag h j = 8) (hk : rg k) (hz : rg z) : Rh (d + 2) yVa_init [.ref j, vi k, vi z] h σ (.inl none) (hSet (hSet h j 0 (vi k)) j 1 (vi z)) σ := M_Va_init hk hz ⟨hj, ht, rfl, rfl, rfl⟩
theorem r_vnew {k z : Int} (H : 100 ≤ h.1) (hk : rg k) (hz : rg z) : Rh (d + 2) yVa_init [.ref h.1, vi k, vi z] (nwO h 8) σ (.inl none) (hvI h k z) σ := r_vinit H nw_tag hk hz
theorem r_real {b : UInt64} : Rh (d + 3) yVa_ofReal [.double b] h σ (.inl (some (.ref h.1))) (hvR h b) σ := rh_s fun _ S => M_Va_ofReal ⟨S.1, nw_tag, _, _, r_vnew S.1 (rgk rfl) (rgk rfl), S.1, hvI_at.1, rfl, rfl, rfl⟩
theorem r_list {x : Value} {j : Nat} {n : Int} (hx : isQ x) (hj : 100 ≤ j ∧ j < h.1) (ht : hTag h j = 8) (e : hAt h j 1 = vi n) (hn : rg n) (hn1 : rg (n + 1)) : Rh (d + 3) yVa_ofList [x, .ref j] h σ (.inl (some (.ref h.1))) (hvL h (n + 1) x (.ref j)) σ := rh_s fun _ S => M_Va_ofList hx isQ.j (by
  have ne := Nat.ne_of_lt hj.2
  refine ⟨j, rfl, hj.1, ?_, n, ?_, hn, S.1, nw_tag, _, _, r_vnew S.1 (rgk rfl) hn1, S.1, hvI_at.1, rfl, rfl, rfl⟩
  · rw [(neC.nw.2.1 j ne).1]; exact ht
  · rw [(neC.nw.2.1 j ne).2]; exact e)
theorem r_fun {m : Int} {s : Value} (hm : rg m) (hs : isQ s) : Rh (d + 3) yVa_ofFunction [vi m, s] h σ (.inl (some (.ref h.1))) (hvF h m s) σ := rh_s fun _ S => M_Va_ofFunction hm hs ⟨S.1, nw_tag, _, _, r_vnew S.1 (rgk rfl) hm, S.1, hvI_at.1, rfl, rfl, rfl⟩
theorem r_scope {z : Int} {v o : Value} (H : 100 ≤ h.1) (hz : rg z) (hv : isQ v) (ho : isQ o) : Rh (d + 2) ySc_init [.ref h.1, vi z, v, o] (nwO h 10) σ (.inl none) (hSc h z v o) σ := M_Sc_init hz hv ho ⟨H, nw_tag, rfl, rfl, rfl⟩
theorem r_frame {a : Int} {s c : Value} (H : 100 ≤ h.1) (ha : rg a) (hs : isQ s) (hc : isQ c) : Rh (d + 2) yFr_init [.ref h.1, vi a, s, c] (nwO h 9) σ (.inl none) (hFr h a s c) σ := M_Fr_init ha hs hc ⟨H, nw_tag, rfl, rfl, rfl⟩
/-- the machine's own small steps -/
theorem r_fail {c : Int} (hc : rg c) : Rh (d + 2) yMc_fail [.ref 54, vi c] h σ (.inl none) h (mup (mup σ 54 7 3) 54 8 c) := M_Mc_fail hc ⟨rfl, rfl, rfl⟩
theorem r_into {a : Int} (ha : rg a) : Rh (d + 2) yMc_goInto [.ref 54, vi a] h σ (.inl none) h (mup (mup σ 54 3 a) 54 4 0) := M_Mc_goInto ha ⟨rfl, rfl, rfl⟩
/-- a value is known and can wait -/
theorem r_settle {j : Nat} {n : Int} (e : σ 54 2 = n) (h0 : 0 ≤ n ∧ n < 200) (ht : hTag h j = 8) : Rh (d + 3) yMc_settle [.ref 54, .ref j] h σ (.inl none) (hSet h 55 n.toNat (.ref j)) (mup (mup σ 54 2 (n + 1)) 54 4 1) := M_Mc_settle (by
  unfold B_Mc_settle
  rw [e, if_neg (by omega), if_pos (by omega)]
  exact ⟨by unfold rg; omega, h0, ht, by unfold rg; omega, rfl, rfl, rfl⟩)
/-- it can't -/
theorem r_settle5 {j : Nat} (e : σ 54 2 = 200) : Rh (d + 3) yMc_settle [.ref 54, .ref j] h σ (.inl none) h (mup (mup σ 54 7 3) 54 8 5) := M_Mc_settle (by
  unfold B_Mc_settle B_Mc_settle_19
  rw [e, if_neg (by omega), if_neg (by omega)]
  exact ⟨by unfold rg; omega, _, _, r_fail (rgk rfl), rfl, rfl, rfl⟩)
/-- the value that waits last -/
theorem r_take {j : Nat} {n : Int} (e : σ 54 2 = n + 1) (h0 : 0 ≤ n ∧ n < 200) (a : hAt h 55 n.toNat = .ref j) : Rh (d + 3) yMc_take [.ref 54] h σ (.inl (some (.ref j))) h (mup σ 54 2 n) := M_Mc_take (by
  unfold B_Mc_take
  have e2 : σ 54 2 - 1 = n := by omega
  rw [e2, if_neg (by omega), if_neg (by omega), mup_eq]
  refine ⟨by rw [e]; unfold rg; omega, by unfold rg; omega, by unfold rg; omega, ⟨by omega, by omega⟩, _, a, isQ.j, Or.inr ⟨j, rfl, rfl, rfl, rfl⟩⟩)
end CNEW
