/-! The model's reader: goals. Sim: what the loop makes of the later state, it makes of the earlier. -/
def moP (i : Nat) : Bool := i == 58 || i == 60 || i == 61 || i == 62 || i == 66 || i == 67 || i == 70 || i == 71 || i == 72 || i == 73 || i == 74
def mfP (k : Int) : Prop := k = 3 ∨ k = 7 ∨ k = 14 ∨ k = 21 ∨ k = 22 ∨ k = 23 ∨ k = 24
def frM (σ σ' : Mem) : Prop := (∀ i, moP i = false → σ' i = σ i) ∧ ∀ k, ¬mfP k → σ' 58 k = σ 58 k
section FRM
variable {σ σ1 σ2 : Mem}
theorem frM.rf : frM σ σ := ⟨fun _ _ => rfl, fun _ _ => rfl⟩
theorem frM.tr (a : frM σ σ1) (b : frM σ1 σ2) : frM σ σ2 := ⟨fun i h => (b.1 i h).trans (a.1 i h), fun k h => (b.2 k h).trans (a.2 k h)⟩
theorem frM.mu {i : Nat} {k z : Int} (h : moP i = true) (h8 : i ≠ 58) : frM σ (mup σ i k z) := ⟨fun j hj => mup_obj (fun e => by rw [e, h] at hj; cases hj), fun _ _ => mup_ne h8.symm⟩
theorem frM.m8 {k z : Int} (h : mfP k) : frM σ (mup σ 58 k z) := ⟨fun j hj => mup_obj (fun e => by rw [e] at hj; cases hj), fun l hl => mup_nk (fun e => hl (by rw [e]; exact h))⟩
theorem frM.len (a : frM σ σ1) : σ1 58 2 = σ 58 2 := a.2 2 (by unfold mfP; omega)
theorem frM.txt (a : frM σ σ1) : σ1 59 = σ 59 := a.1 59 rfl
theorem frM.ch (a : frM σ σ1) : mch σ1 = mch σ := by
  funext x; unfold mch; rw [a.len, a.txt]
theorem frM.mi (a : frM σ σ1) (h : MI σ) : MI σ1 := by
  unfold MI at h ⊢; rw [a.len, a.txt]; exact h
theorem frM.Z {q b : Int} : frM σ (Zm σ q b) := (frM.m8 (by unfold mfP; omega)).tr (frM.m8 (by unfold mfP; omega))
theorem frM.dft {x y z : Int} : frM σ (dft σ x y z) := (((frM.mu rfl (by decide)).tr (frM.mu rfl (by decide))).tr (frM.mu rfl (by decide))).tr (frM.m8 (by unfold mfP; omega))
theorem frM.sgn {x y : Int} : frM σ (sgn σ x y) := ((frM.mu rfl (by decide)).tr (frM.mu rfl (by decide))).tr (frM.m8 (by unfold mfP; omega))
theorem frM.bgn {g : Int} : frM σ (bgn σ g) := ((((frM.mu rfl (by decide)).tr (frM.mu rfl (by decide))).tr (frM.mu rfl (by decide))).tr (frM.mu rfl (by decide))).tr (frM.m8 (by unfold mfP; omega))
theorem frM.aft {s g : Int} : frM σ (aft σ s g) := (frM.mu rfl (by decide)).tr frM.bgn
theorem frM.dpr : frM σ (dpr σ) := (frM.m8 (by unfold mfP; omega)).tr (frM.m8 (by unfold mfP; omega))
theorem frM.eDp : frM σ (eDp σ) := (frM.m8 (by unfold mfP; omega)).tr (frM.m8 (by unfold mfP; omega))
end FRM
/-- the loop from its head -/
def Mw (σ : Mem) (o : Option Int) (s' : Mem) : Prop := Lb 15 yMo_reads 35 [(0, .ref 58)] [] σ o s'
def Sim (σ τ : Mem) : Prop := ∀ o s', Mw τ o s' → Mw σ o s'
/-- it ends, and the line isn't one -/
def Fl (σ : Mem) : Prop := ∃ s', Mw σ (some 0) s' ∧ frM σ s'
theorem Sim.rf {σ : Mem} : Sim σ σ := fun _ _ h => h
theorem Sim.tr {σ σ1 σ2 : Mem} (a : Sim σ σ1) (b : Sim σ1 σ2) : Sim σ σ2 := fun o s' h => a o s' (b o s' h)
theorem Fl.of {σ τ : Mem} (a : Sim σ τ) (f : frM σ τ) (h : Fl τ) : Fl σ := by
  obtain ⟨s', h1, h2⟩ := h
  exact ⟨s', a _ _ h1, f.tr h2⟩
theorem Fl.bad {σ : Mem} (h : σ 58 24 ≠ 0) : Fl σ := by
  have e : B_Mo_reads_146 12 σ (some 0) σ := by
    unfold B_Mo_reads_146
    rw [if_pos h]; exact ⟨rfl, rfl⟩
  refine ⟨σ, K_Mo_reads_35 (d := 12) ?_, frM.rf⟩
  unfold B_Mo_reads_35
  by_cases q : σ 58 21 ≤ 0
  · rw [if_pos q]; exact e
  · rw [if_neg q, if_pos h]; exact e
/-- the method that a goal asks for -/
def goM (g s : Int) : Nat := if g = 0 then (if s = 0 then yMo_exprBegins else yMo_exprGoesOn) else if g < 6 then yMo_operands else if g = 6 then yMo_atom else if g = 7 then yMo_pattern else yMo_part
theorem Sim.go {σ τ : Mem} {g s : Int} (h24 : σ 58 24 = 0) (h : 1 ≤ σ 58 21 ∧ σ 58 21 ≤ 180) (hg : σ 70 (σ 58 21 - 1) = g) (hs : σ 71 (σ 58 21 - 1) = s) (R : Rn 15 (goM g s) [.ref 58, vi (σ 58 21 - 1)] σ none τ) : Sim σ τ := by
  intro o s' hw
  have hw' : B_Mo_reads_143 12 τ o s' := hw
  refine K_Mo_reads_35 (d := 12) ?_
  unfold B_Mo_reads_35
  rw [if_neg (by omega), if_neg (fun w => w h24), hg, hs]
  refine ⟨⟨by omega, by omega⟩, ?_⟩
  unfold goM at R
  by_cases g0 : g = 0
  · rw [if_pos g0] at R
    rw [if_neg (fun w => w g0)]
    refine ⟨⟨by omega, by omega⟩, ?_⟩
    by_cases s0 : s = 0
    · rw [if_pos s0] at R
      rw [if_neg (fun w => w s0)]
      exact ⟨τ, R, hw'⟩
    · rw [if_neg s0] at R
      rw [if_pos s0]
      refine ⟨⟨by omega, by omega⟩, ?_⟩
      unfold B_Mo_reads_84
      rw [if_neg (fun w => w g0)]
      exact ⟨τ, R, hw'⟩
  · rw [if_neg g0] at R
    rw [if_pos g0]
    refine ⟨⟨by omega, by omega⟩, ?_⟩
    unfold B_Mo_reads_84
    rw [if_pos g0]
    by_cases g5 : g < 6
    · rw [if_pos g5] at R
      rw [if_neg (by omega)]
      exact ⟨τ, R, hw'⟩
    · rw [if_neg g5] at R
      rw [if_pos (by omega)]
      by_cases g6 : g = 6
      · rw [if_pos g6] at R
        rw [if_neg (fun w => w g6)]
        exact ⟨τ, R, hw'⟩
      · rw [if_neg g6] at R
        rw [if_pos g6]
        by_cases g7 : g = 7
        · rw [if_pos g7] at R
          rw [if_neg (fun w => w g7)]
          exact ⟨τ, R, hw'⟩
        · rw [if_neg g7] at R
          rw [if_pos g7]
          exact ⟨τ, R, hw'⟩
/-- how many goals may stand below and with the goal g -/
def gu (g : Int) : Int := if g = 0 ∨ g = 7 then 1 else if g = 8 then -5 else g - 6
/-- the goal g was begun -/
def GI (σ : Mem) (g : Int) : Prop := MI σ ∧ σ 58 24 = 0 ∧ (0 ≤ σ 58 3 ∧ σ 58 3 ≤ σ 58 2) ∧ (0 ≤ σ 58 7 ∧ σ 58 7 ≤ 2 * σ 58 3) ∧ (0 ≤ σ 58 14 ∧ σ 58 14 ≤ σ 58 3) ∧ (0 ≤ σ 58 22 ∧ σ 58 22 ≤ 16) ∧ (1 ≤ σ 58 21 ∧ σ 58 21 ≤ 7 * σ 58 22 + σ 58 3 + gu g) ∧ σ 70 (σ 58 21 - 1) = g ∧ σ 71 (σ 58 21 - 1) = 0 ∧ σ 72 (σ 58 21 - 1) = 0 ∧ σ 73 (σ 58 21 - 1) = 0
def kpG (n : Int) (σ τ : Mem) : Prop := ∀ x, 0 ≤ x → x < n → τ 70 x = σ 70 x ∧ τ 71 x = σ 71 x ∧ τ 72 x = σ 72 x ∧ τ 73 x = σ 73 x
def kpD (n : Int) (σ τ : Mem) : Prop := ∀ x, 0 ≤ x → x < n → τ 60 x = σ 60 x ∧ τ 61 x = σ 61 x ∧ τ 62 x = σ 62 x ∧ τ 74 x = σ 74 x
def kpS (n : Int) (σ τ : Mem) : Prop := ∀ x, 0 ≤ x → x < n → τ 66 x = σ 66 x ∧ τ 67 x = σ 67 x
section KP
variable {σ σ1 σ2 : Mem} {n m : Int}
theorem kpG.rf : kpG n σ σ := fun _ _ _ => ⟨rfl, rfl, rfl, rfl⟩
theorem kpD.rf : kpD n σ σ := fun _ _ _ => ⟨rfl, rfl, rfl, rfl⟩
theorem kpS.rf : kpS n σ σ := fun _ _ _ => ⟨rfl, rfl⟩
theorem kpG.tr (a : kpG n σ σ1) (b : kpG m σ1 σ2) (h : n ≤ m) : kpG n σ σ2 := fun x h0 h1 => by
  obtain ⟨a1, a2, a3, a4⟩ := a x h0 h1
  obtain ⟨b1, b2, b3, b4⟩ := b x h0 (by omega)
  exact ⟨b1.trans a1, b2.trans a2, b3.trans a3, b4.trans a4⟩
theorem kpD.tr (a : kpD n σ σ1) (b : kpD m σ1 σ2) (h : n ≤ m) : kpD n σ σ2 := fun x h0 h1 => by
  obtain ⟨a1, a2, a3, a4⟩ := a x h0 h1
  obtain ⟨b1, b2, b3, b4⟩ := b x h0 (by omega)
  exact ⟨b1.trans a1, b2.trans a2, b3.trans a3, b4.trans a4⟩
theorem kpS.tr (a : kpS n σ σ1) (b : kpS m σ1 σ2) (h : n ≤ m) : kpS n σ σ2 := fun x h0 h1 => by
  obtain ⟨a1, a2⟩ := a x h0 h1
  obtain ⟨b1, b2⟩ := b x h0 (by omega)
  exact ⟨b1.trans a1, b2.trans a2⟩
theorem kpD.isC {T : Tr} {a s : Int} (a0 : 0 ≤ a) (s0 : 0 ≤ s) (hD : kpD n σ σ1) (hS : kpS m σ σ1) (h1 : a + ln T ≤ n) (h2 : s + sn T ≤ m) (h : isC σ T a s) : isC σ1 T a s :=
  isC.mv (fun x u v => by obtain ⟨e1, e2, e3, e4⟩ := hD x (by omega) (by omega); exact ⟨e1, fun _ => e2, e3, e4⟩) (fun x u v => hS x (by omega) (by omega)) h
end KP
/-- the goal is done: T was read, its code stands, q is the place behind -/
def Dn (σ τ : Mem) (T : Tr) (q : Int) : Prop := frM σ τ ∧ τ 58 24 = 0 ∧ τ 58 3 = q ∧ (σ 58 3 ≤ q ∧ q ≤ σ 58 2) ∧ τ 58 21 = σ 58 21 - 1 ∧ τ 58 22 = σ 58 22 ∧ kpG (σ 58 21 - 1) σ τ ∧ kpD (σ 58 7) σ τ ∧ kpS (σ 58 14) σ τ ∧ τ 58 7 = σ 58 7 + ln T ∧ τ 58 14 = σ 58 14 + sn T ∧ isC τ T (σ 58 7) (σ 58 14)
def DnM (Q : Option (Tr × Int)) (σ : Mem) : Prop := match Q with
  | none => Fl σ
  | some (T, q) => ∃ τ, Sim σ τ ∧ Dn σ τ T q
/-- at the depth D -/
def GSp (D g : Int) (P : (Int → Int) → Int → Option (Tr × Int)) : Prop := ∀ σ, GI σ g → σ 58 22 = D → DnM (P (mch σ) (σ 58 3)) σ
/-- the goal goes on: q is the place, dp how much deeper it is, a and b what drafts and signs came -/
def Pg (σ τ : Mem) (q dp a b : Int) : Prop := frM σ τ ∧ τ 58 24 = 0 ∧ τ 58 3 = q ∧ (σ 58 3 ≤ q ∧ q ≤ σ 58 2) ∧ τ 58 21 = σ 58 21 ∧ τ 58 22 = σ 58 22 + dp ∧ kpG (σ 58 21 - 1) σ τ ∧ kpD (σ 58 7) σ τ ∧ kpS (σ 58 14) σ τ ∧ τ 58 7 = σ 58 7 + a ∧ τ 58 14 = σ 58 14 + b ∧ τ 70 (σ 58 21 - 1) = σ 70 (σ 58 21 - 1)
/-- what begins a goal changes -/
theorem aft_at {σ : Mem} {s g : Int} : (∀ k, k ≠ 21 → (aft σ s g) 58 k = σ 58 k) ∧ (aft σ s g) 58 21 = σ 58 21 + 1 ∧ (aft σ s g) 70 (σ 58 21) = g ∧ (aft σ s g) 71 (σ 58 21) = 0 ∧ (aft σ s g) 72 (σ 58 21) = 0 ∧ (aft σ s g) 73 (σ 58 21) = 0 ∧ (∀ x, x ≠ σ 58 21 → (aft σ s g) 70 x = σ 70 x ∧ (aft σ s g) 71 x = (if x = σ 58 21 - 1 then s else σ 71 x) ∧ (aft σ s g) 72 x = σ 72 x ∧ (aft σ s g) 73 x = σ 73 x) ∧ (∀ i, i ≠ 58 → i ≠ 70 → i ≠ 71 → i ≠ 72 → i ≠ 73 → (aft σ s g) i = σ i) := by
  have e : (mup σ 71 (σ 58 21 - 1) s) 58 21 = σ 58 21 := mup_ne (by decide)
  unfold aft bgn
  rw [e]
  refine ⟨fun k hk => ?_, mup_eq, ?_, ?_, ?_, ?_, fun x hx => ⟨?_, ?_, ?_, ?_⟩, fun i h1 h2 h3 h4 h5 => ?_⟩
  · rw [mup_nk hk, mup_ne (by decide), mup_ne (by decide), mup_ne (by decide), mup_ne (by decide), mup_ne (by decide)]
  · rw [mup_ne (by decide), mup_ne (by decide), mup_ne (by decide), mup_ne (by decide), mup_eq]
  · rw [mup_ne (by decide), mup_ne (by decide), mup_ne (by decide), mup_eq]
  · rw [mup_ne (by decide), mup_ne (by decide), mup_eq]
  · rw [mup_ne (by decide), mup_eq]
  · rw [mup_ne (by decide), mup_ne (by decide), mup_ne (by decide), mup_ne (by decide), mup_nk hx, mup_ne (by decide)]
  · rw [mup_ne (by decide), mup_ne (by decide), mup_ne (by decide), mup_nk hx, mup_ne (by decide)]
    by_cases w : x = σ 58 21 - 1
    · rw [if_pos w, w, mup_eq]
    · rw [if_neg w, mup_nk w]
  · rw [mup_ne (by decide), mup_ne (by decide), mup_nk hx, mup_ne (by decide), mup_ne (by decide), mup_ne (by decide)]
  · rw [mup_ne (by decide), mup_nk hx, mup_ne (by decide), mup_ne (by decide), mup_ne (by decide), mup_ne (by decide)]
  · rw [mup_obj h1, mup_obj h5, mup_obj h4, mup_obj h3, mup_obj h2, mup_obj h3]
