/-! The class's values and scopes on its heap. -/
section CVAL
/-- cell i is an object of class t, made after the start, below n -/
def ceL (h : mHp) (n t i : Nat) : Prop := (100 ≤ i ∧ i < n) ∧ hTag h i = t
def llen : Va → Nat
  | .append _ w => llen w + 1
  | _ => 0
/-- u stands for a value (false) or for what is bound (true); P: which node of the program a tree is -/
def RPv (h : mHp) (P : Tr → Int → Prop) (n : Nat) : Std.Format → Bool → Value → Prop
  | .nil, true => fun u => u = .null
  | .nest z (.append v ρ), true => fun u => ∃ s, u = .ref s ∧ ceL h n 10 s ∧ hAt h s 0 = vi z ∧ rg z ∧ RPv h P n v false (hAt h s 1) ∧ RPv h P n ρ true (hAt h s 2)
  | .tag 0 (.nest z _), false => fun u => ∃ i, u = .ref i ∧ ceL h n 8 i ∧ hAt h i 0 = vi 0 ∧ hAt h i 1 = vi z ∧ rg z
  | .tag 1 (.nest z _), false => fun u => ∃ i, u = .ref i ∧ ceL h n 8 i ∧ hAt h i 0 = vi 1 ∧ hAt h i 1 = vi z ∧ rg z
  | .tag 2 (.nest z _), false => fun u => ∃ i, u = .ref i ∧ ceL h n 8 i ∧ hAt h i 0 = vi 2 ∧ hAt h i 1 = vi 0 ∧ hAt h i 2 = .double (UInt64.ofNat z.toNat)
  | .tag 3 _, false => fun u => ∃ i, u = .ref i ∧ ceL h n 8 i ∧ hAt h i 0 = vi 3 ∧ hAt h i 1 = vi 0
  | .append x w, false => fun u => ∃ i, u = .ref i ∧ ceL h n 8 i ∧ hAt h i 0 = vi 3 ∧ hAt h i 1 = vi (llen w + 1 : Nat) ∧ llen w + 100 ≤ i ∧ RPv h P n x false (hAt h i 3) ∧ RPv h P n w false (hAt h i 4)
  | .tag 4 (.nest z _), false => fun u => ∃ i m, u = .ref i ∧ ceL h n 8 i ∧ hAt h i 0 = vi 4 ∧ hAt h i 1 = vi m ∧ rg m ∧ P (nd 4 z nl nl nl) m
  | .tag 5 (.append lam ρ), false => fun u => ∃ i m, u = .ref i ∧ ceL h n 8 i ∧ hAt h i 0 = vi 4 ∧ hAt h i 1 = vi m ∧ rg m ∧ P lam m ∧ RPv h P n ρ true (hAt h i 5)
  | .tag 6 (.nest f (.append lam ρ)), false => fun u => ∃ i m s, u = .ref i ∧ ceL h n 8 i ∧ hAt h i 0 = vi 4 ∧ hAt h i 1 = vi m ∧ rg m ∧ P lam m ∧ hAt h i 5 = .ref s ∧ ceL h n 10 s ∧ hAt h s 0 = vi f ∧ rg f ∧ hAt h s 1 = .ref i ∧ RPv h P n ρ true (hAt h s 2)
  | _, _ => fun _ => False
variable {h h' : mHp} {P : Tr → Int → Prop} {n n' : Nat}
/-- the cells from 100 on below n are the same -/
def smC (n : Nat) (h h' : mHp) : Prop := ∀ i, 100 ≤ i → i < n → hTag h' i = hTag h i ∧ ∀ k, hAt h' i k = hAt h i k
theorem ceL.mv {t i : Nat} (s : smC n h h') (hn : n ≤ n') (c : ceL h n t i) : ceL h' n' t i := ⟨⟨c.1.1, Nat.lt_of_lt_of_le c.1.2 hn⟩, (s i c.1.1 c.1.2).1.trans c.2⟩
theorem ceL.at {t i k : Nat} (s : smC n h h') (c : ceL h n t i) : hAt h' i k = hAt h i k := (s i c.1.1 c.1.2).2 k
theorem RPv.mv (s : smC n h h') (hn : n ≤ n') {f : Std.Format} {b : Bool} : ∀ {u : Value}, RPv h P n f b u → RPv h' P n' f b u := by
  fun_induction RPv h P n f b with
  | case1 => intro u r; exact r
  | case2 z v ρ ih1 ih2 =>
    intro u ⟨i, e, c, a, g, x, y⟩
    exact ⟨i, e, c.mv s hn, (c.at s).trans a, g, by rw [c.at s]; exact ih1 x, by rw [c.at s]; exact ih2 y⟩
  | case3 z f => intro u ⟨i, e, c, a, x, g⟩; exact ⟨i, e, c.mv s hn, (c.at s).trans a, (c.at s).trans x, g⟩
  | case4 z f => intro u ⟨i, e, c, a, x, g⟩; exact ⟨i, e, c.mv s hn, (c.at s).trans a, (c.at s).trans x, g⟩
  | case5 z f => intro u ⟨i, e, c, a, x, y⟩; exact ⟨i, e, c.mv s hn, (c.at s).trans a, (c.at s).trans x, (c.at s).trans y⟩
  | case6 f => intro u ⟨i, e, c, a, x⟩; exact ⟨i, e, c.mv s hn, (c.at s).trans a, (c.at s).trans x⟩
  | case7 x w ih1 ih2 =>
    intro u ⟨i, e, c, a, l, ll, x, y⟩
    exact ⟨i, e, c.mv s hn, (c.at s).trans a, (c.at s).trans l, ll, by rw [c.at s]; exact ih1 x, by rw [c.at s]; exact ih2 y⟩
  | case8 z f => intro u ⟨i, m, e, c, a, x, g, p⟩; exact ⟨i, m, e, c.mv s hn, (c.at s).trans a, (c.at s).trans x, g, p⟩
  | case9 lam ρ ih =>
    intro u ⟨i, m, e, c, a, x, g, p, y⟩
    exact ⟨i, m, e, c.mv s hn, (c.at s).trans a, (c.at s).trans x, g, p, by rw [c.at s]; exact ih y⟩
  | case10 f lam ρ ih =>
    intro u ⟨i, m, j, e, c, a, x, g, p, y, c2, q1, gf, q2, w⟩
    exact ⟨i, m, j, e, c.mv s hn, (c.at s).trans a, (c.at s).trans x, g, p, (c.at s).trans y, c2.mv s hn, (c2.at s).trans q1, gf, (c2.at s).trans q2, by rw [c2.at s]; exact ih w⟩
  | case11 => intro u r; exact r.elim
/-- a new cell changes nothing below -/
theorem smC.new {t m : Nat} {f : Nat → Value} : smC h.1 h (hNew h t m f) := fun i _ h1 => ⟨tag_new h1, fun k => at_new h1 k⟩
theorem smC.set {i k : Nat} {v : Value} (hi : i < 100 ∨ n ≤ i) : smC n h (hSet h i k v) := fun j h0 h1 => ⟨tag_set, fun x => at_ne (by omega) x⟩
theorem smC.put {σ : Mem} : smC n h (put h σ) := fun i h0 _ => ⟨rfl, fun k => put_no (shJ_hi h0)⟩
theorem smC.tr {h2 : mHp} (a : smC n h h') (b : smC n h' h2) : smC n h h2 := fun i h0 h1 => ⟨(b i h0 h1).1.trans (a i h0 h1).1, fun k => ((b i h0 h1).2 k).trans ((a i h0 h1).2 k)⟩
end CVAL
