/-! The class's machine and working out with places: what stands for what. -/
def cVal (h : mHp) (P : Tr → Int → Prop) (n : Nat) : List Va → Prop
  | [] => True
  | v :: vs => RPv h P n v false (hAt h 55 vs.length) ∧ cVal h P n vs
/-- the node a has this way up; E: within a function that was called -/
def cPs (σ : Mem) (E : Bool) : Cx → Int → Prop
  | [], a => if E = true then (0 ≤ σ 32 a ∧ σ 32 a < σ 20 7) ∧ σ 22 (σ 32 a) = 12 else σ 32 a = -1
  | (j, N) :: cx, a => nT σ N (σ 32 a) ∧ (0 ≤ σ 32 a ∧ σ 32 a < σ 20 7) ∧ ((j = 1 ∧ σ 26 (σ 32 a) = a) ∨ (j ≠ 1 ∧ σ 26 (σ 32 a) ≠ a)) ∧ (if σ 22 (σ 32 a) = 17 then ((0 ≤ σ 32 (σ 32 a) ∧ σ 32 (σ 32 a) < σ 20 7) ∧ σ 22 (σ 32 (σ 32 a)) = 16) ∧ cPs σ E cx (σ 32 (σ 32 a)) else cPs σ E cx (σ 32 a))
def cFrm (σ : Mem) (h : mHp) (P : Tr → Int → Prop) (n : Nat) : List (Cx × En) → Value → Prop
  | [], u => u = .null
  | f :: fs, u => ∃ i a, u = .ref i ∧ ceL h n 9 i ∧ hAt h i 0 = vi a ∧ ((0 ≤ a ∧ a < σ 20 7) ∧ σ 22 a = 11) ∧ cPs σ (!fs.isEmpty) f.1 a ∧ RPv h P n f.2 true (hAt h i 1) ∧ cFrm σ h P n fs (hAt h i 2)
/-- what is bound, the values, the callers, the place; c: what the pile's counter says -/
def cB (σ0 : Mem) (n : Nat) (h : mHp) (σ : Mem) (c : Int) (cx : Cx) (ρ : En) (vs : List Va) (fs : List (Cx × En)) (a : Int) : Prop := (100 ≤ n ∧ n ≤ h.1) ∧ spg σ0 σ ∧ RPv h (nT σ0) n ρ true (hAt h 54 5) ∧ cVal h (nT σ0) n vs ∧ σ 54 2 = c ∧ cFrm σ0 h (nT σ0) n fs (hAt h 54 6) ∧ σ 54 3 = a ∧ (0 ≤ a ∧ a < σ0 20 7) ∧ cPs σ0 (!fs.isEmpty) cx a
section CREL
variable {h h' h1 : mHp} {σ0 σ σ' : Mem} {d n n' k : Nat} {P : Tr → Int → Prop} {c a : Int} {cx : Cx} {ρ ρ' : En} {vs : List Va} {v : Va} {fs : List (Cx × En)}
theorem cVal.mv (s : smC n h h') (hn : n ≤ n') : ∀ {vs : List Va}, (∀ i, i < vs.length → hAt h' 55 i = hAt h 55 i) → cVal h P n vs → cVal h' P n' vs
  | [], _, _ => trivial
  | v :: vs, e, ⟨r, q⟩ => ⟨by rw [e _ (Nat.lt_succ_self _)]; exact r.mv s hn, cVal.mv s hn (fun i hi => e i (Nat.lt_succ_of_lt hi)) q⟩
theorem cFrm.mv (s : smC n h h') (hn : n ≤ n') : ∀ {fs : List (Cx × En)} {u : Value}, cFrm σ0 h P n fs u → cFrm σ0 h' P n' fs u
  | [], _, e => e
  | f :: fs, u, ⟨i, a, e, c, e0, ra, p, r, q⟩ => ⟨i, a, e, c.mv s hn, (c.at s).trans e0, ra, p, by rw [c.at s]; exact r.mv s hn, by rw [c.at s]; exact cFrm.mv s hn q⟩
theorem cFrm.q {fs : List (Cx × En)} {u : Value} (r : cFrm σ0 h P n fs u) : isQ u := by
  cases fs with
  | nil => exact Or.inl r
  | cons f fs => obtain ⟨i, a, e, -⟩ := r; exact Or.inr ⟨i, e⟩
/-- more cells -/
theorem cB.ex (x : exB k h h1) (b : cB σ0 n h σ c cx ρ vs fs a) : cB σ0 n h1 σ c cx ρ vs fs a := by
  obtain ⟨⟨b0, b1⟩, sp, e, v, cc, f, at', ra, p⟩ := b
  have s : smC n h h1 := x.sm.le b1
  have l54 : 54 < h.1 := by omega
  have l55 : 55 < h.1 := by omega
  refine ⟨⟨b0, Nat.le_trans b1 x.1.1⟩, sp, ?_, v.mv s (Nat.le_refl _) (fun i _ => (x.2.2.1 55 l55).2 i), cc, ?_, at', ra, p⟩
  · rw [(x.2.2.1 54 l54).2]; exact e.mv s (Nat.le_refl _)
  · rw [(x.2.2.1 54 l54).2]; exact f.mv s (Nat.le_refl _)
/-- a field of the machine is written -/
theorem cB.m {j z : Int} (h2 : j ≠ 2) (h3 : j ≠ 3) (b : cB σ0 n h σ c cx ρ vs fs a) : cB σ0 n h (mup σ 54 j z) c cx ρ vs fs a := by
  obtain ⟨b0, sp, e, v, cc, f, at', ra, p⟩ := b
  exact ⟨b0, sp.up, e, v, (mup_nk (Ne.symm h2)).trans cc, f, (mup_nk (Ne.symm h3)).trans at', ra, p⟩
theorem cB.ct {z : Int} (b : cB σ0 n h σ c cx ρ vs fs a) : cB σ0 n h (mup σ 54 2 z) z cx ρ vs fs a := by
  obtain ⟨b0, sp, e, v, cc, f, at', ra, p⟩ := b
  exact ⟨b0, sp.up, e, v, mup_eq, f, (mup_nk (by decide)).trans at', ra, p⟩
theorem cB.at {z : Int} {cx' : Cx} (b : cB σ0 n h σ c cx ρ vs fs a) (ra : 0 ≤ z ∧ z < σ0 20 7) (p : cPs σ0 (!fs.isEmpty) cx' z) : cB σ0 n h (mup σ 54 3 z) c cx' ρ vs fs z := by
  obtain ⟨b0, sp, e, v, cc, f, -, -, -⟩ := b
  exact ⟨b0, sp.up, e, v, (mup_nk (by decide)).trans cc, f, mup_eq, ra, p⟩
theorem cB.env {u : Value} (b : cB σ0 n h σ c cx ρ vs fs a) (e : RPv h (nT σ0) n ρ' true u) : cB σ0 n (hSet h 54 5 u) σ c cx ρ' vs fs a := by
  obtain ⟨b0, sp, -, v, cc, f, at', ra, p⟩ := b
  have s : smC n h (hSet h 54 5 u) := smC.set (Or.inl (by decide))
  refine ⟨b0, sp, ?_, v.mv s (Nat.le_refl _) (fun i _ => at_ne (by decide) i), cc, ?_, at', ra, p⟩
  · rw [at_eq]; exact e.mv s (Nat.le_refl _)
  · rw [at_nk (by decide)]; exact f.mv s (Nat.le_refl _)
theorem cB.up (b : cB σ0 n h σ c cx ρ vs fs a) (hn : n ≤ n') (hh : n' ≤ h.1) : cB σ0 n' h σ c cx ρ vs fs a := by
  obtain ⟨⟨b0, -⟩, sp, e, v, cc, f, at', ra, p⟩ := b
  exact ⟨⟨Nat.le_trans b0 hn, hh⟩, sp, e.mv smC.rf hn, v.mv smC.rf hn (fun _ _ => rfl), cc, f.mv smC.rf hn, at', ra, p⟩
/-- a cell of the pile is written above the values -/
theorem cB.pile {i : Nat} {u : Value} (b : cB σ0 n h σ c cx ρ vs fs a) (hi : vs.length ≤ i) : cB σ0 n (hSet h 55 i u) σ c cx ρ vs fs a := by
  obtain ⟨b0, sp, e, v, cc, f, at', ra, p⟩ := b
  have s : smC n h (hSet h 55 i u) := smC.set (Or.inl (by decide))
  refine ⟨b0, sp, ?_, v.mv s (Nat.le_refl _) (fun j hj => at_nk (by omega)), cc, ?_, at', ra, p⟩
  · rw [at_ne (by decide)]; exact e.mv s (Nat.le_refl _)
  · rw [at_ne (by decide)]; exact f.mv s (Nat.le_refl _)
/-- what a move leaves alone; k cells more at most -/
def frWk (k : Nat) (h h' : mHp) (σ σ' : Mem) : Prop := (h.1 ≤ h'.1 ∧ h'.1 ≤ h.1 + k) ∧ h'.2.1 ≤ h.2.1 + 6 * k ∧ (∀ i, i < 100 → i ≠ 54 → i ≠ 55 → ∀ x, hAt h' i x = hAt h i x) ∧ (∀ i, i ≠ 54 → σ' i = σ i) ∧ σ' 54 9 = σ 54 9 ∧ σ' 54 10 = σ 54 10 ∧ (hTag h' 0 = hTag h 0 ∧ hLen h' 0 = hLen h 0)
theorem frWk.rf : frWk 0 h h σ σ := ⟨⟨Nat.le_refl _, Nat.le_refl _⟩, Nat.le_refl _, fun _ _ _ _ _ => rfl, fun _ _ => rfl, rfl, rfl, rfl, rfl⟩
theorem frWk.tr {m : Nat} {h2 : mHp} {σ2 : Mem} (a : frWk k h h' σ σ') (b : frWk m h' h2 σ' σ2) : frWk (k + m) h h2 σ σ2 := ⟨⟨Nat.le_trans a.1.1 b.1.1, by have := a.1.2; have := b.1.2; omega⟩, by have := a.2.1; have := b.2.1; omega, fun i h1 h2 h3 x => (b.2.2.1 i h1 h2 h3 x).trans (a.2.2.1 i h1 h2 h3 x), fun i hi => (b.2.2.2.1 i hi).trans (a.2.2.2.1 i hi), b.2.2.2.2.1.trans a.2.2.2.2.1, b.2.2.2.2.2.1.trans a.2.2.2.2.2.1, b.2.2.2.2.2.2.1.trans a.2.2.2.2.2.2.1, b.2.2.2.2.2.2.2.trans a.2.2.2.2.2.2.2⟩
theorem frWk.le {m : Nat} (a : frWk k h h' σ σ') (hm : k ≤ m) : frWk m h h' σ σ' := ⟨⟨a.1.1, by have := a.1.2; omega⟩, by have := a.2.1; omega, a.2.2⟩
theorem frWk.m4 {j z : Int} (h9 : j ≠ 9) (h10 : j ≠ 10) : frWk 0 h h σ (mup σ 54 j z) := ⟨⟨Nat.le_refl _, Nat.le_refl _⟩, Nat.le_refl _, fun _ _ _ _ _ => rfl, fun _ hi => mup_obj hi, mup_nk (Ne.symm h9), mup_nk (Ne.symm h10), rfl, rfl⟩
theorem frWk.s4 {x : Nat} {u : Value} : frWk 0 h (hSet h 54 x u) σ σ := ⟨⟨Nat.le_refl _, Nat.le_refl _⟩, Nat.le_refl _, fun _ _ h4 _ _ => at_ne h4 _, fun _ _ => rfl, rfl, rfl, tag_set, len_set⟩
theorem frWk.s5 {x : Nat} {u : Value} : frWk 0 h (hSet h 55 x u) σ σ := ⟨⟨Nat.le_refl _, Nat.le_refl _⟩, Nat.le_refl _, fun _ _ _ h5 _ => at_ne h5 _, fun _ _ => rfl, rfl, rfl, tag_set, len_set⟩
theorem frWk.hi {j x : Nat} {u : Value} (hj : 100 ≤ j) : frWk 0 h (hSet h j x u) σ σ := ⟨⟨Nat.le_refl _, Nat.le_refl _⟩, Nat.le_refl _, fun _ h1 _ _ _ => at_ne (by omega) _, fun _ _ => rfl, rfl, rfl, tag_set, len_set⟩
/-- a value comes on the pile -/
theorem c_push {j : Nat} (hc : c = vs.length) (b : cB σ0 n h σ c cx ρ vs fs a) (hl : vs.length < 200) (r : RPv h (nT σ0) h.1 v false (.ref j)) : ∃ h' σ', Rh (d + 3) yMc_settle [.ref 54, .ref j] h σ (.inl none) h' σ' ∧ frWk 0 h h' σ σ' ∧ cB σ0 n h' σ' (vs.length + 1) cx ρ vs fs a ∧ σ' 54 4 = 1 ∧ (RPv h' (nT σ0) h'.1 v false (hAt h' 55 vs.length) ∧ hAt h' 55 vs.length = .ref j) ∧ σ' 54 7 = σ 54 7 ∧ σ' 54 8 = σ 54 8 ∧ hAt h' 54 11 = hAt h 54 11 := by
  obtain ⟨j', e, cj⟩ := r.v
  cases e
  have b2 := b
  obtain ⟨-, -, -, -, cc, -⟩ := b2
  have en : (c.toNat) = vs.length := by omega
  refine ⟨_, _, r_settle (d := d) (n := c) cc (by omega) cj.2, ?_, ?_, mup_eq, ?_, ?_, ?_, at_ne (by decide) _⟩
  · exact (frWk.s5.tr (frWk.m4 (by decide) (by decide))).tr (frWk.m4 (by decide) (by decide))
  · rw [en, hc]
    exact ((b.pile (Nat.le_refl _)).ct).m (by decide) (by decide)
  · rw [en, at_eq]
    exact ⟨r.mv (smC.set (Or.inl (by decide))) (Nat.le_refl _), rfl⟩
  · rw [mup_nk (by decide), mup_nk (by decide)]
  · rw [mup_nk (by decide), mup_nk (by decide)]
/-- it can't -/
theorem c_push5 {j : Nat} (b : cB σ0 n h σ c cx ρ vs fs a) (hl : c = 200) : ∃ σ', Rh (d + 3) yMc_settle [.ref 54, .ref j] h σ (.inl none) h σ' ∧ frWk 0 h h σ σ' ∧ σ' 54 7 = 3 ∧ σ' 54 8 = 5 := by
  obtain ⟨-, -, -, -, cc, -⟩ := b
  exact ⟨_, r_settle5 (d := d) (cc.trans hl), (frWk.m4 (by decide) (by decide)).tr (frWk.m4 (by decide) (by decide)), (mup_nk (by decide)).trans mup_eq, mup_eq⟩
/-- the last value is taken -/
theorem c_take (b : cB σ0 n h σ (vs.length + 1) cx ρ vs fs a) (hl : vs.length < 200) (r : RPv h (nT σ0) n' v false (hAt h 55 vs.length)) : ∃ j σ', Rh (d + 3) yMc_take [.ref 54] h σ (.inl (some (.ref j))) h σ' ∧ hAt h 55 vs.length = .ref j ∧ frWk 0 h h σ σ' ∧ cB σ0 n h σ' vs.length cx ρ vs fs a ∧ (∀ x, x ≠ 2 → σ' 54 x = σ 54 x) := by
  obtain ⟨j, e, -⟩ := r.v
  have b2 := b
  obtain ⟨-, -, -, -, cc, -⟩ := b2
  refine ⟨j, _, r_take (d := d) (n := vs.length) cc (by omega) (by rw [Int.toNat_natCast]; exact e), e, frWk.m4 (by decide) (by decide), b.ct, fun x hx => mup_nk hx⟩
end CREL
