/-! The model's values and bindings: numbers in its arrays. -/
section MVAL
def vlg (x : Int) : Value := .long (Int64.ofInt x)
/-- the names that are bound, the innermost first -/
def nmEn : En → List Int
  | .nest z (.append _ ρ) => z :: nmEn ρ
  | _ => []
/-- how many lists, reals, bindings are made -/
abbrev MBd : Type := Int × Int × Int
/-- x stands for a value (false) or for what is bound (true); P: which place of the code a function is at, among which names -/
def RMv (h : mHp) (σ : Mem) (P : Tr → List Int → Int → Prop) (m : MBd) : Std.Format → Bool → Int → Prop
  | .nil, true => fun x => x = 0
  | .nest _ (.append v ρ), true => fun x => (1 ≤ x ∧ x ≤ m.2.2) ∧ ∃ y, hAt h 92 x.toNat = vlg y ∧ RMv h σ P m v false y ∧ RMv h σ P m ρ true (σ 93 x)
  | .tag 0 (.nest z _), false => fun x => x = 8 * z ∧ rg z
  | .tag 1 (.nest z _), false => fun x => x = 8 * z ∧ rg z
  | .tag 2 (.nest z _), false => fun x => (∃ y, x = 8 * y + 1 ∧ (0 ≤ y ∧ y ≤ 9999999) ∧ UInt64.ofNat z.toNat = FP.ddiv (FP.i2d (Int32.ofInt y)) (FP.i2d 1000)) ∨ ∃ k, x = 8 * k + 2 ∧ (0 ≤ k ∧ k < m.2.1) ∧ hAt h 96 k.toNat = .double (UInt64.ofNat z.toNat)
  | .tag 3 _, false => fun x => x = 3
  | .append a w, false => fun x => ∃ k y z, x = 8 * k + 4 ∧ (0 ≤ k ∧ k < m.1) ∧ hAt h 94 k.toNat = vlg y ∧ hAt h 95 k.toNat = vlg z ∧ RMv h σ P m a false y ∧ RMv h σ P m w false z
  | .tag 4 (.nest z _), false => fun x => x = 8 * z + 5 ∧ rg z
  | .tag 5 (.append lam ρ), false => fun x => ∃ p e, x = 8 * (8192 * p + e) + 6 ∧ (0 ≤ p ∧ p ≤ 124) ∧ (0 ≤ e ∧ e ≤ m.2.2) ∧ P lam (nmEn ρ) p ∧ RMv h σ P m ρ true e
  | .tag 6 (.nest f (.append lam ρ)), false => fun x => ∃ p e, x = 8 * (8192 * p + e) + 6 ∧ (0 ≤ p ∧ p ≤ 124) ∧ (1 ≤ e ∧ e ≤ m.2.2) ∧ P lam (f :: nmEn ρ) p ∧ hAt h 92 e.toNat = vlg x ∧ RMv h σ P m ρ true (σ 93 e)
  | _, _ => fun _ => False
variable {h h' : mHp} {σ σ' : Mem} {P : Tr → List Int → Int → Prop} {m m' : MBd}
/-- what is made stays -/
def smM (m : MBd) (h h' : mHp) (σ σ' : Mem) : Prop := (∀ k : Int, 0 ≤ k → k < m.1 → hAt h' 94 k.toNat = hAt h 94 k.toNat ∧ hAt h' 95 k.toNat = hAt h 95 k.toNat) ∧ (∀ k : Int, 0 ≤ k → k < m.2.1 → hAt h' 96 k.toNat = hAt h 96 k.toNat) ∧ ∀ k : Int, 1 ≤ k → k ≤ m.2.2 → hAt h' 92 k.toNat = hAt h 92 k.toNat ∧ σ' 93 k = σ 93 k
theorem RMv.mv (s : smM m h h' σ σ') (h1 : m.1 ≤ m'.1) (h2 : m.2.1 ≤ m'.2.1) (h3 : m.2.2 ≤ m'.2.2) {f : Std.Format} {b : Bool} : ∀ {x : Int}, RMv h σ P m f b x → RMv h' σ' P m' f b x := by
  fun_induction RMv h σ P m f b with
  | case1 => intro x r; exact r
  | case2 z v ρ ih1 ih2 =>
    intro x ⟨r, y, e, a, c⟩
    refine ⟨⟨r.1, by omega⟩, y, ((s.2.2 x r.1 r.2).1).trans e, ih1 a, ?_⟩
    rw [(s.2.2 x r.1 r.2).2]; exact ih2 c
  | case3 z f => intro x r; exact r
  | case4 z f => intro x r; exact r
  | case5 z f =>
    intro x r
    rcases r with r | ⟨k, e, r, a⟩
    · exact Or.inl r
    · exact Or.inr ⟨k, e, ⟨r.1, by omega⟩, (s.2.1 k r.1 r.2).trans a⟩
  | case6 f => intro x r; exact r
  | case7 a w ih1 ih2 =>
    intro x ⟨k, y, z, e, r, p, q, c, d⟩
    exact ⟨k, y, z, e, ⟨r.1, by omega⟩, ((s.1 k r.1 r.2).1).trans p, ((s.1 k r.1 r.2).2).trans q, ih1 c, ih2 d⟩
  | case8 z f => intro x r; exact r
  | case9 lam ρ ih =>
    intro x ⟨p, e, a, r, q, c, d⟩
    exact ⟨p, e, a, r, ⟨q.1, by omega⟩, c, ih d⟩
  | case10 f lam ρ ih =>
    intro x ⟨p, e, a, r, q, c, g, d⟩
    refine ⟨p, e, a, r, ⟨q.1, by omega⟩, c, ((s.2.2 e q.1 q.2).1).trans g, ?_⟩
    rw [(s.2.2 e q.1 q.2).2]; exact ih d
  | case11 => intro x r; exact r.elim
end MVAL
