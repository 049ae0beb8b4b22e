/-! Ground types; stores of types (a node: kind, two parts; kind 0 a variable, linked if its first part isn't -1; 1 2 3 without parts; 4 a list; 5 an arrow). -/
abbrev GT : Type := Std.Format
def gK (k : Int) : GT := .tag k.toNat .nil
def gL (a : GT) : GT := .nest 0 a
def gA (a b : GT) : GT := .append a b
def gz : GT → Nat
  | .nest _ a => gz a + 1
  | .append a b => gz a + gz b + 1
  | _ => 0
/-- how wide it is shown -/
def gw : GT → Int
  | .nest _ a => 2 + gw a
  | .append a b => 3 + gw a + gw b
  | _ => 1
theorem gw_ge : ∀ {t : GT}, 1 ≤ gw t := by
  intro t
  fun_induction gw t <;> omega
abbrev Sto : Type := Int → Int × Int × Int
abbrev lkd (s : Sto) (n : Int) : Prop := (s n).1 = 0 ∧ 0 ≤ (s n).2.1
def nOk (s : Sto) (ρ : Int → GT) (n : Int) : Prop := (lkd s n → ρ n = ρ (s n).2.1) ∧ ((1 ≤ (s n).1 ∧ (s n).1 ≤ 3) → ρ n = gK (s n).1) ∧ ((s n).1 = 4 → ρ n = gL (ρ (s n).2.1)) ∧ ((s n).1 = 5 → ρ n = gA (ρ (s n).2.1) (ρ (s n).2.2))
/-- what the nodes may be -/
def VS (s : Sto) (c : Int) (ρ : Int → GT) : Prop := ∀ n, 0 ≤ n → n < c → nOk s ρ n
def WS (s : Sto) (c : Int) : Prop := ∀ n, 0 ≤ n → n < c → (0 ≤ (s n).1 ∧ (s n).1 ≤ 5) ∧ (lkd s n → (s n).2.1 < c) ∧ ((s n).1 = 4 → 0 ≤ (s n).2.1 ∧ (s n).2.1 < c) ∧ ((s n).1 = 5 → (0 ≤ (s n).2.1 ∧ (s n).2.1 < c) ∧ 0 ≤ (s n).2.2 ∧ (s n).2.2 < c)
/-- links go to what was linked later -/
def SS (s : Sto) (c : Int) (L : Nat) (st : Int → Nat) : Prop := ∀ n, 0 ≤ n → n < c → lkd s n → 1 ≤ st n ∧ st n ≤ L ∧ (lkd s (s n).2.1 → st n < st (s n).2.1)
/-- k links on -/
def rv (s : Sto) : Nat → Int → Int
  | 0, n => n
  | k + 1, n => if lkd s n then rv s k (s n).2.1 else n
section STO
variable {s : Sto} {c : Int} {L : Nat} {st : Int → Nat} {ρ : Int → GT}
theorem rv_in (W : WS s c) : ∀ (k : Nat) (n : Int), 0 ≤ n → n < c → 0 ≤ rv s k n ∧ rv s k n < c
  | 0, n, h0, h1 => ⟨h0, h1⟩
  | k + 1, n, h0, h1 => by
    unfold rv
    split
    · next h => exact rv_in W k _ h.2 ((W n h0 h1).2.1 h)
    · exact ⟨h0, h1⟩
theorem rv_val (W : WS s c) (V : VS s c ρ) : ∀ (k : Nat) (n : Int), 0 ≤ n → n < c → ρ (rv s k n) = ρ n
  | 0, n, h0, h1 => rfl
  | k + 1, n, h0, h1 => by
    unfold rv
    split
    · next h => exact (rv_val W V k _ h.2 ((W n h0 h1).2.1 h)).trans ((V n h0 h1).1 h).symm
    · rfl
theorem rv_root (W : WS s c) (S : SS s c L st) : ∀ (k : Nat) (n : Int), 0 ≤ n → n < c → (lkd s n → L + 1 ≤ k + st n) → ¬ lkd s (rv s k n)
  | 0, n, h0, h1, h => fun w => by
    have w : lkd s n := w
    have := S n h0 h1 w
    have := h w
    omega
  | k + 1, n, h0, h1, h => by
    unfold rv
    split
    · next w =>
      have a := S n h0 h1 w
      have b := h w
      exact rv_root W S k _ w.2 ((W n h0 h1).2.1 w) (fun w2 => by have := a.2.2 w2; omega)
    · next w => exact w
theorem rv_stop {n : Int} (h : ¬ lkd s n) : ∀ k, rv s k n = n
  | 0 => rfl
  | k + 1 => by unfold rv; rw [if_neg h]
/-- a measure that falls from a node to its parts -/
def mu (s : Sto) (ρ : Int → GT) (L : Nat) (st : Int → Nat) (n : Int) : Nat := gz (ρ n) * (L + 2) + (if lkd s n then L + 1 - st n else 0)
theorem mu_link (V : VS s c ρ) (S : SS s c L st) {n : Int} (h0 : 0 ≤ n) (h1 : n < c) (h : lkd s n) : mu s ρ L st (s n).2.1 < mu s ρ L st n := by
  have e := (V n h0 h1).1 h
  have a := S n h0 h1 h
  unfold mu
  rw [← e, if_pos h]
  split
  · next w => have := a.2.2 w; omega
  · omega
theorem mu_le {n : Int} : mu s ρ L st n ≤ gz (ρ n) * (L + 2) + (L + 1) := by
  unfold mu
  split <;> omega
theorem mu_part {n m : Int} (h : gz (ρ m) + 1 ≤ gz (ρ n)) : mu s ρ L st m < mu s ρ L st n := by
  have a := mu_le (s := s) (ρ := ρ) (L := L) (st := st) (n := m)
  have b : gz (ρ n) * (L + 2) ≤ mu s ρ L st n := by unfold mu; omega
  have d : (gz (ρ m) + 1) * (L + 2) ≤ gz (ρ n) * (L + 2) := Nat.mul_le_mul_right _ h
  rw [Nat.add_mul] at d
  omega
theorem mu_4 (V : VS s c ρ) {n : Int} (h0 : 0 ≤ n) (h1 : n < c) (h : (s n).1 = 4) : mu s ρ L st (s n).2.1 < mu s ρ L st n := by
  refine mu_part ?_
  rw [(V n h0 h1).2.2.1 h]
  exact Nat.le_refl _
theorem mu_5 (V : VS s c ρ) {n : Int} (h0 : 0 ≤ n) (h1 : n < c) (h : (s n).1 = 5) : mu s ρ L st (s n).2.1 < mu s ρ L st n ∧ mu s ρ L st (s n).2.2 < mu s ρ L st n := by
  have e := (V n h0 h1).2.2.2 h
  have ez : gz (ρ n) = gz (ρ (s n).2.1) + gz (ρ (s n).2.2) + 1 := by rw [e]; rfl
  exact ⟨mu_part (by omega), mu_part (by omega)⟩
/-- what a node is when the variables are α -/
def evF (s : Sto) (α : Int → GT) : Nat → Int → GT
  | 0, _ => .nil
  | k + 1, n => if lkd s n then evF s α k (s n).2.1 else if (s n).1 = 0 then α n else if (s n).1 = 4 then gL (evF s α k (s n).2.1) else if (s n).1 = 5 then gA (evF s α k (s n).2.1) (evF s α k (s n).2.2) else gK (s n).1
theorem ev_st {α : Int → GT} (W : WS s c) (V : VS s c ρ) (S : SS s c L st) : ∀ (k k' : Nat) (n : Int), 0 ≤ n → n < c → mu s ρ L st n < k → mu s ρ L st n < k' → evF s α k n = evF s α k' n
  | 0, _, _, _, _, h, _ => by omega
  | _, 0, _, _, _, _, h => by omega
  | k + 1, k' + 1, n, h0, h1, h, h' => by
    have w := W n h0 h1
    unfold evF
    split
    · next q =>
      have := mu_link V S h0 h1 q
      exact ev_st W V S k k' _ q.2 (w.2.1 q) (by omega) (by omega)
    split
    · rfl
    split
    · next q =>
      have := mu_4 (L := L) (st := st) V h0 h1 q
      rw [ev_st W V S k k' _ (w.2.2.1 q).1 (w.2.2.1 q).2 (by omega) (by omega)]
    split
    · next q =>
      have := mu_5 (L := L) (st := st) V h0 h1 q
      have ww := w.2.2.2 q
      rw [ev_st W V S k k' _ ww.1.1 ww.1.2 (by omega) (by omega), ev_st W V S k k' _ ww.2.1 ww.2.2 (by omega) (by omega)]
    · rfl
/-- the variables can be anything -/
theorem EvS (W : WS s c) (V : VS s c ρ) (S : SS s c L st) (α : Int → GT) : ∃ ρ', VS s c ρ' ∧ ∀ n, 0 ≤ n → n < c → (s n).1 = 0 → ¬ lkd s n → ρ' n = α n := by
  refine ⟨fun n => evF s α (mu s ρ L st n + 1) n, fun n h0 h1 => ?_, fun n h0 h1 h2 h3 => ?_⟩
  · have w := W n h0 h1
    refine ⟨fun q => ?_, fun q => ?_, fun q => ?_, fun q => ?_⟩
    · have := mu_link V S h0 h1 q
      show evF s α (mu s ρ L st n + 1) n = _
      rw [evF, if_pos q]
      exact ev_st W V S _ _ _ q.2 (w.2.1 q) (by omega) (by omega)
    · show evF s α (mu s ρ L st n + 1) n = _
      have nl : ¬ lkd s n := fun h => by have := h.1; omega
      rw [evF, if_neg nl, if_neg (by omega), if_neg (by omega), if_neg (by omega)]
    · have := mu_4 (L := L) (st := st) V h0 h1 q
      show evF s α (mu s ρ L st n + 1) n = gL (evF s α _ _)
      have nl : ¬ lkd s n := fun h => by have := h.1; omega
      rw [evF, if_neg nl, if_neg (by omega), if_pos q, ev_st W V S _ (mu s ρ L st (s n).2.1 + 1) _ (w.2.2.1 q).1 (w.2.2.1 q).2 (by omega) (by omega)]
    · have := mu_5 (L := L) (st := st) V h0 h1 q
      have ww := w.2.2.2 q
      show evF s α (mu s ρ L st n + 1) n = gA (evF s α _ _) (evF s α _ _)
      have nl : ¬ lkd s n := fun h => by have := h.1; omega
      rw [evF, if_neg nl, if_neg (by omega), if_neg (by omega), if_pos q, ev_st W V S _ (mu s ρ L st (s n).2.1 + 1) _ ww.1.1 ww.1.2 (by omega) (by omega), ev_st W V S _ (mu s ρ L st (s n).2.2 + 1) _ ww.2.1 ww.2.2 (by omega) (by omega)]
  · show evF s α (mu s ρ L st n + 1) n = α n
    rw [evF, if_neg h3, if_pos h2]
end STO
