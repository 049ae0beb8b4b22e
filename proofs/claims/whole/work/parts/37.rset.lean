/-! Rows as functions: outside nothing is written, and -1 is read. -/
def rset (n r : Nat) (h : mHp) (z : Int) (v : Value) : mHp := if 0 ≤ z ∧ z < n then hSet h r z.toNat v else h
def rget (n r : Nat) (h : mHp) (z : Int) : Value := if 0 ≤ z ∧ z < n then hAt h r z.toNat else vi (-1)
section RS
variable {d r n : Nat} {h : mHp} {z : Int}
theorem rset_tag {v : Value} {i : Nat} : hTag (rset n r h z v) i = hTag h i := by unfold rset; split <;> first | exact tag_set | exact rfl
theorem rset_len {v : Value} {i : Nat} : hLen (rset n r h z v) i = hLen h i := by unfold rset; split <;> first | exact len_set | exact rfl
theorem rset_ne {v : Value} {i : Nat} (hi : i ≠ r) (x : Nat) : hAt (rset n r h z v) i x = hAt h i x := by unfold rset; split <;> first | exact at_ne hi x | exact rfl
theorem rset_sh {v : Value} (S : Sh h) (hf : ∀ k, shF r k = false) : Sh (rset n r h z v) := by unfold rset; split <;> first | exact S.set (hf _) | exact S
theorem rset_kp {W : Nat → Nat → Bool} {h0 : mHp} {v : Value} (K : kp W h0 h) (hw : ∀ k, W r k = true) : kp W h0 (rset n r h z v) := by unfold rset; split <;> first | exact K.set (hw _) | exact K
theorem row_setv (t1 : hTag h r = 2) (c1 : hAt h r 0 = .ref (r + 1)) (t2 : hTag h (r + 1) = 100) (l2 : hLen h (r + 1) = n) (hn : n ≤ 100000) (hz : rg z) {v : Int32} : Ru (d + 1) 10 [.ref r, vi z, .int v] h (.inl none, rset n (r + 1) h z (.int v)) := by
  by_cases q : 0 ≤ z ∧ z < n
  · unfold rset; rw [if_pos q]; exact row_set t1 c1 t2 l2 hn hz q.1 q.2
  · unfold rset; rw [if_neg q]; exact row_out t1 c1 t2 l2 hn hz (by omega)
theorem row_getv (t1 : hTag h r = 2) (c1 : hAt h r 0 = .ref (r + 1)) (t2 : hTag h (r + 1) = 100) (l2 : hLen h (r + 1) = n) (hn : n ≤ 100000) (hz : rg z) (hi : isI (rget n (r + 1) h z) = true) : Ru (d + 1) 14 [.ref r, vi z] h (.inl (some (rget n (r + 1) h z)), h) := by
  by_cases q : 0 ≤ z ∧ z < n
  · unfold rget at hi ⊢; rw [if_pos q] at hi ⊢; exact row_get t1 c1 t2 l2 hn hz q.1 q.2 rfl hi
  · unfold rget; rw [if_neg q]; exact row_none t1 c1 t2 l2 hn hz (by omega)
theorem rget_int (H : tyH h) (hr : r < h.1) (ht : hTag h r = 100) : isI (rget n r h z) = true := by
  unfold rget
  split
  · obtain ⟨x, -, e⟩ := H.int (k := z.toNat) hr ht
    rw [e]; rfl
  · rfl
end RS
