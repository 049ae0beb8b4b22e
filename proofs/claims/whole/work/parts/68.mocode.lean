/-! The model's drafts: the code of a tree (isC), the signs of a pattern (isP). -/
def cell (σ : Mem) (a x y z : Int) : Prop := σ 60 a = x ∧ σ 61 a = y ∧ σ 62 a = z
def sg (σ : Mem) (s x y : Int) : Prop := σ 66 s = x ∧ σ 67 s = y
/-- how many drafts a tree has -/
def ln : Tr → Int
  | .tag k (.nest _ (.append A (.append B C))) => match k with
    | 8 => ln A + 1
    | 9 => ln A + ln B + 1
    | 10 => ln A + ln B + 1
    | 11 => ln A + ln B + 1
    | 12 => ln A + 2
    | 13 => ln A + ln B + 2
    | 14 => ln A + ln B + 3
    | 15 => ln A + ln B + ln C + 3
    | 16 => ln A + ln B + 2
    | 17 => ln B + ln C + 3
    | _ => 1
  | _ => 0
/-- how many signs a pattern has -/
def pn : Tr → Int
  | .tag k (.nest _ (.append A (.append B _))) => match k with
    | 10 => pn A + pn B + 1
    | _ => 1
  | _ => 0
/-- how many signs a tree has -/
def sn : Tr → Int
  | .tag k (.nest _ (.append A (.append B C))) => match k with
    | 17 => pn A + sn B + sn C
    | _ => sn A + sn B + sn C
  | _ => 0
def isP (σ : Mem) : Tr → Int → Prop
  | .tag k (.nest z (.append A (.append B _))), s => match k with
    | 6 => sg σ s 1 z
    | 7 => sg σ s 1 0
    | 0 => sg σ s 2 z
    | 2 => sg σ s 3 z
    | 3 => sg σ s 4 0
    | 10 => sg σ s 0 0 ∧ isP σ A (s + 1) ∧ isP σ B (s + 1 + pn A)
    | _ => False
  | _, _ => False
def isC (σ : Mem) : Tr → Int → Int → Prop
  | .tag k (.nest z (.append A (.append B C))), a, s => match k with
    | 0 => cell σ a 0 z 0
    | 1 => cell σ a 2 z 0
    | 2 => cell σ a 1 z 0
    | 3 => cell σ a 3 0 0
    | 4 => cell σ a 4 z 0
    | 5 => σ 60 a = 5 ∧ σ 62 a = z
    | 8 => isC σ A a s ∧ cell σ (a + ln A) 9 126 0
    | 9 => isC σ A a s ∧ isC σ B (a + ln A) (s + sn A) ∧ cell σ (a + ln A + ln B) 9 z 0
    | 10 => isC σ A a s ∧ isC σ B (a + ln A) (s + sn A) ∧ cell σ (a + ln A + ln B) 9 44 0
    | 11 => isC σ A a s ∧ isC σ B (a + ln A) (s + sn A) ∧ cell σ (a + ln A + ln B) 8 1 0
    | 12 => cell σ a 6 (a + ln A + 2) z ∧ isC σ A (a + 1) s ∧ cell σ (a + ln A + 1) 7 0 a
    | 13 => isC σ A a s ∧ cell σ (a + ln A) 10 0 z ∧ isC σ B (a + ln A + 1) (s + sn A) ∧ cell σ (a + ln A + ln B + 1) 12 1 z
    | 14 => cell σ a 19 0 z ∧ isC σ A (a + 1) s ∧ cell σ (a + ln A + 1) 11 0 z ∧ isC σ B (a + ln A + 2) (s + sn A) ∧ cell σ (a + ln A + ln B + 2) 12 1 z
    | 15 => isC σ A a s ∧ cell σ (a + ln A) 13 (a + ln A + ln B + 2) 0 ∧ isC σ B (a + ln A + 1) (s + sn A) ∧ cell σ (a + ln A + ln B + 1) 14 (a + ln A + ln B + ln C + 2) (a + ln A) ∧ isC σ C (a + ln A + ln B + 2) (s + sn A + sn B) ∧ cell σ (a + ln A + ln B + ln C + 2) 18 0 (a + ln A + ln B + 1)
    | 16 => isC σ A a s ∧ cell σ (a + ln A) 15 0 0 ∧ isC σ B (a + ln A + 1) (s + sn A) ∧ cell σ (a + ln A + ln B + 1) 17 0 0
    | 17 => cell σ a 16 s (s + pn A) ∧ σ 74 a = a + ln B + 3 ∧ isP σ A s ∧ isC σ B (a + 1) (s + pn A) ∧ cell σ (a + ln B + 1) 12 z 0 ∧ cell σ (a + ln B + 2) 14 (a + ln B + ln C + 4) 0 ∧ isC σ C (a + ln B + 3) (s + pn A + sn B)
    | _ => False
  | .nil, _, _ => True
  | _, _, _ => False
theorem pn_ge : ∀ {T : Tr}, 0 ≤ pn T := by
  intro T
  fun_induction pn T <;> omega
theorem sn_ge : ∀ {T : Tr}, 0 ≤ sn T := by
  intro T
  fun_induction sn T with
  | case1 z A B C i1 i2 => have := pn_ge (T := A); omega
  | case2 => omega
  | case3 => omega
theorem ln_ge : ∀ {T : Tr}, 0 ≤ ln T := by
  intro T
  fun_induction ln T <;> omega
/-- alike but for what a name's draft is given -/
def Da (σ σ' : Mem) (x : Int) : Prop := σ' 60 x = σ 60 x ∧ (σ 60 x ≠ 5 → σ' 61 x = σ 61 x) ∧ σ' 62 x = σ 62 x ∧ σ' 74 x = σ 74 x
theorem cell.mv {σ σ' : Mem} {a x y z : Int} (hx : x ≠ 5) (h : Da σ σ' a) (c : cell σ a x y z) : cell σ' a x y z := ⟨h.1.trans c.1, (h.2.1 (by rw [c.1]; exact hx)).trans c.2.1, h.2.2.1.trans c.2.2⟩
theorem isP.mv {σ σ' : Mem} : ∀ {T : Tr} {s : Int}, (∀ x, s ≤ x → x < s + pn T → σ' 66 x = σ 66 x ∧ σ' 67 x = σ 67 x) → isP σ T s → isP σ' T s := by
  intro T s
  fun_induction isP σ T s with
  | case6 z A B C s i1 i2 =>
    intro h c
    have e : pn (nd 10 z A B C) = pn A + pn B + 1 := rfl
    have g1 := pn_ge (T := A)
    have g2 := pn_ge (T := B)
    change ∀ x, s ≤ x → x < s + pn (nd 10 z A B C) → _ at h
    rw [e] at h
    obtain ⟨c1, c2, c3⟩ := c
    have h0 := h s (by omega) (by omega)
    exact ⟨⟨h0.1.trans c1.1, h0.2.trans c1.2⟩, i1 (fun x a b => h x (by omega) (by omega)) c2, i2 (fun x a b => h x (by omega) (by omega)) c3⟩
  | case7 => intro _ c; exact c.elim
  | case8 => intro _ c; exact c.elim
  | case1 | case2 | case3 | case4 | case5 =>
    intro h c
    have h0 := h _ (Int.le_refl _) (by show _ < _ + (1 : Int); omega)
    exact ⟨h0.1.trans c.1, h0.2.trans c.2⟩
theorem isC.mv {σ σ' : Mem} : ∀ {T : Tr} {a s : Int}, (∀ x, a ≤ x → x < a + ln T → Da σ σ' x) → (∀ x, s ≤ x → x < s + sn T → σ' 66 x = σ 66 x ∧ σ' 67 x = σ 67 x) → isC σ T a s → isC σ' T a s := by
  intro T a s
  fun_induction isC σ T a s with
  | case1 z A B C a s  =>
    intro hD hS c
    simp only [ln, sn] at hD hS
    have gA := ln_ge (T := A)
    have gB := ln_ge (T := B)
    have gC := ln_ge (T := C)
    have hA := sn_ge (T := A)
    have hB := sn_ge (T := B)
    have hC := sn_ge (T := C)
    have pA := pn_ge (T := A)
    exact cell.mv (by decide) (hD _ (by omega) (by omega)) c
  | case2 z A B C a s  =>
    intro hD hS c
    simp only [ln, sn] at hD hS
    have gA := ln_ge (T := A)
    have gB := ln_ge (T := B)
    have gC := ln_ge (T := C)
    have hA := sn_ge (T := A)
    have hB := sn_ge (T := B)
    have hC := sn_ge (T := C)
    have pA := pn_ge (T := A)
    exact cell.mv (by decide) (hD _ (by omega) (by omega)) c
  | case3 z A B C a s  =>
    intro hD hS c
    simp only [ln, sn] at hD hS
    have gA := ln_ge (T := A)
    have gB := ln_ge (T := B)
    have gC := ln_ge (T := C)
    have hA := sn_ge (T := A)
    have hB := sn_ge (T := B)
    have hC := sn_ge (T := C)
    have pA := pn_ge (T := A)
    exact cell.mv (by decide) (hD _ (by omega) (by omega)) c
  | case4 z A B C a s  =>
    intro hD hS c
    simp only [ln, sn] at hD hS
    have gA := ln_ge (T := A)
    have gB := ln_ge (T := B)
    have gC := ln_ge (T := C)
    have hA := sn_ge (T := A)
    have hB := sn_ge (T := B)
    have hC := sn_ge (T := C)
    have pA := pn_ge (T := A)
    exact cell.mv (by decide) (hD _ (by omega) (by omega)) c
  | case5 z A B C a s  =>
    intro hD hS c
    simp only [ln, sn] at hD hS
    have gA := ln_ge (T := A)
    have gB := ln_ge (T := B)
    have gC := ln_ge (T := C)
    have hA := sn_ge (T := A)
    have hB := sn_ge (T := B)
    have hC := sn_ge (T := C)
    have pA := pn_ge (T := A)
    exact cell.mv (by decide) (hD _ (by omega) (by omega)) c
  | case6 z A B C a s  =>
    intro hD hS c
    simp only [ln, sn] at hD hS
    have gA := ln_ge (T := A)
    have gB := ln_ge (T := B)
    have gC := ln_ge (T := C)
    have hA := sn_ge (T := A)
    have hB := sn_ge (T := B)
    have hC := sn_ge (T := C)
    have pA := pn_ge (T := A)
    have h := hD _ (Int.le_refl _) (by omega)
    exact ⟨h.1.trans c.1, h.2.2.1.trans c.2⟩
  | case7 z A B C a s i1 =>
    intro hD hS c
    simp only [ln, sn] at hD hS
    have gA := ln_ge (T := A)
    have gB := ln_ge (T := B)
    have gC := ln_ge (T := C)
    have hA := sn_ge (T := A)
    have hB := sn_ge (T := B)
    have hC := sn_ge (T := C)
    have pA := pn_ge (T := A)
    obtain ⟨c1, c2⟩ := c
    exact ⟨i1 (fun x u v => hD x (by omega) (by omega)) (fun x u v => hS x (by omega) (by omega)) c1, cell.mv (by decide) (hD _ (by omega) (by omega)) c2⟩
  | case8 z A B C a s i1 i2 =>
    intro hD hS c
    simp only [ln, sn] at hD hS
    have gA := ln_ge (T := A)
    have gB := ln_ge (T := B)
    have gC := ln_ge (T := C)
    have hA := sn_ge (T := A)
    have hB := sn_ge (T := B)
    have hC := sn_ge (T := C)
    have pA := pn_ge (T := A)
    obtain ⟨c1, c2, c3⟩ := c
    exact ⟨i1 (fun x u v => hD x (by omega) (by omega)) (fun x u v => hS x (by omega) (by omega)) c1, i2 (fun x u v => hD x (by omega) (by omega)) (fun x u v => hS x (by omega) (by omega)) c2, cell.mv (by decide) (hD _ (by omega) (by omega)) c3⟩
  | case9 z A B C a s i1 i2 =>
    intro hD hS c
    simp only [ln, sn] at hD hS
    have gA := ln_ge (T := A)
    have gB := ln_ge (T := B)
    have gC := ln_ge (T := C)
    have hA := sn_ge (T := A)
    have hB := sn_ge (T := B)
    have hC := sn_ge (T := C)
    have pA := pn_ge (T := A)
    obtain ⟨c1, c2, c3⟩ := c
    exact ⟨i1 (fun x u v => hD x (by omega) (by omega)) (fun x u v => hS x (by omega) (by omega)) c1, i2 (fun x u v => hD x (by omega) (by omega)) (fun x u v => hS x (by omega) (by omega)) c2, cell.mv (by decide) (hD _ (by omega) (by omega)) c3⟩
  | case10 z A B C a s i1 i2 =>
    intro hD hS c
    simp only [ln, sn] at hD hS
    have gA := ln_ge (T := A)
    have gB := ln_ge (T := B)
    have gC := ln_ge (T := C)
    have hA := sn_ge (T := A)
    have hB := sn_ge (T := B)
    have hC := sn_ge (T := C)
    have pA := pn_ge (T := A)
    obtain ⟨c1, c2, c3⟩ := c
    exact ⟨i1 (fun x u v => hD x (by omega) (by omega)) (fun x u v => hS x (by omega) (by omega)) c1, i2 (fun x u v => hD x (by omega) (by omega)) (fun x u v => hS x (by omega) (by omega)) c2, cell.mv (by decide) (hD _ (by omega) (by omega)) c3⟩
  | case11 z A B C a s i1 =>
    intro hD hS c
    simp only [ln, sn] at hD hS
    have gA := ln_ge (T := A)
    have gB := ln_ge (T := B)
    have gC := ln_ge (T := C)
    have hA := sn_ge (T := A)
    have hB := sn_ge (T := B)
    have hC := sn_ge (T := C)
    have pA := pn_ge (T := A)
    obtain ⟨c1, c2, c3⟩ := c
    exact ⟨cell.mv (by decide) (hD _ (by omega) (by omega)) c1, i1 (fun x u v => hD x (by omega) (by omega)) (fun x u v => hS x (by omega) (by omega)) c2, cell.mv (by decide) (hD _ (by omega) (by omega)) c3⟩
  | case12 z A B C a s i1 i2 =>
    intro hD hS c
    simp only [ln, sn] at hD hS
    have gA := ln_ge (T := A)
    have gB := ln_ge (T := B)
    have gC := ln_ge (T := C)
    have hA := sn_ge (T := A)
    have hB := sn_ge (T := B)
    have hC := sn_ge (T := C)
    have pA := pn_ge (T := A)
    obtain ⟨c1, c2, c3, c4⟩ := c
    exact ⟨i1 (fun x u v => hD x (by omega) (by omega)) (fun x u v => hS x (by omega) (by omega)) c1, cell.mv (by decide) (hD _ (by omega) (by omega)) c2, i2 (fun x u v => hD x (by omega) (by omega)) (fun x u v => hS x (by omega) (by omega)) c3, cell.mv (by decide) (hD _ (by omega) (by omega)) c4⟩
  | case13 z A B C a s i1 i2 =>
    intro hD hS c
    simp only [ln, sn] at hD hS
    have gA := ln_ge (T := A)
    have gB := ln_ge (T := B)
    have gC := ln_ge (T := C)
    have hA := sn_ge (T := A)
    have hB := sn_ge (T := B)
    have hC := sn_ge (T := C)
    have pA := pn_ge (T := A)
    obtain ⟨c1, c2, c3, c4, c5⟩ := c
    exact ⟨cell.mv (by decide) (hD _ (by omega) (by omega)) c1, i1 (fun x u v => hD x (by omega) (by omega)) (fun x u v => hS x (by omega) (by omega)) c2, cell.mv (by decide) (hD _ (by omega) (by omega)) c3, i2 (fun x u v => hD x (by omega) (by omega)) (fun x u v => hS x (by omega) (by omega)) c4, cell.mv (by decide) (hD _ (by omega) (by omega)) c5⟩
  | case14 z A B C a s i1 i2 i3 =>
    intro hD hS c
    simp only [ln, sn] at hD hS
    have gA := ln_ge (T := A)
    have gB := ln_ge (T := B)
    have gC := ln_ge (T := C)
    have hA := sn_ge (T := A)
    have hB := sn_ge (T := B)
    have hC := sn_ge (T := C)
    have pA := pn_ge (T := A)
    obtain ⟨c1, c2, c3, c4, c5, c6⟩ := c
    exact ⟨i1 (fun x u v => hD x (by omega) (by omega)) (fun x u v => hS x (by omega) (by omega)) c1, cell.mv (by decide) (hD _ (by omega) (by omega)) c2, i2 (fun x u v => hD x (by omega) (by omega)) (fun x u v => hS x (by omega) (by omega)) c3, cell.mv (by decide) (hD _ (by omega) (by omega)) c4, i3 (fun x u v => hD x (by omega) (by omega)) (fun x u v => hS x (by omega) (by omega)) c5, cell.mv (by decide) (hD _ (by omega) (by omega)) c6⟩
  | case15 z A B C a s i1 i2 =>
    intro hD hS c
    simp only [ln, sn] at hD hS
    have gA := ln_ge (T := A)
    have gB := ln_ge (T := B)
    have gC := ln_ge (T := C)
    have hA := sn_ge (T := A)
    have hB := sn_ge (T := B)
    have hC := sn_ge (T := C)
    have pA := pn_ge (T := A)
    obtain ⟨c1, c2, c3, c4⟩ := c
    exact ⟨i1 (fun x u v => hD x (by omega) (by omega)) (fun x u v => hS x (by omega) (by omega)) c1, cell.mv (by decide) (hD _ (by omega) (by omega)) c2, i2 (fun x u v => hD x (by omega) (by omega)) (fun x u v => hS x (by omega) (by omega)) c3, cell.mv (by decide) (hD _ (by omega) (by omega)) c4⟩
  | case16 z A B C a s i1 i2 =>
    intro hD hS c
    simp only [ln, sn] at hD hS
    have gA := ln_ge (T := A)
    have gB := ln_ge (T := B)
    have gC := ln_ge (T := C)
    have hA := sn_ge (T := A)
    have hB := sn_ge (T := B)
    have hC := sn_ge (T := C)
    have pA := pn_ge (T := A)
    obtain ⟨c1, c2, c3, c4, c5, c6, c7⟩ := c
    exact ⟨cell.mv (by decide) (hD _ (by omega) (by omega)) c1, (hD _ (Int.le_refl _) (by omega)).2.2.2.trans c2, isP.mv (fun x u v => hS x (by omega) (by omega)) c3, i1 (fun x u v => hD x (by omega) (by omega)) (fun x u v => hS x (by omega) (by omega)) c4, cell.mv (by decide) (hD _ (by omega) (by omega)) c5, cell.mv (by decide) (hD _ (by omega) (by omega)) c6, i2 (fun x u v => hD x (by omega) (by omega)) (fun x u v => hS x (by omega) (by omega)) c7⟩
  | case17 => intro _ _ c; exact c.elim
  | case18 => intro _ _ _; trivial
  | case19 => intro _ _ c; exact c.elim
