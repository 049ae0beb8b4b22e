/-! The model's reader: digits, operators, what begins an atom; drafts, signs and goals are put. -/
section MS2
variable {d : Nat} {σ : Mem} {q b : Int}
theorem s_begins (H : MI σ) (x : Int) {τ : Mem} : Rn (d + 4) yMo_atomBegins [vi (hr (mch σ x))] τ (some (if stb (mch σ x) = true then 1 else 0)) τ := by
  have hg := H.hr_rg x
  have e : ∀ {t : Int}, t ≠ -1 → t ≠ 10 → (hr (mch σ x) = t ↔ mch σ x = t) := fun h1 h2 => H.hr_eq h1 h2
  refine M_Mo_atomBegins (d := d) ⟨by omega, by omega⟩ ?_
  unfold B_Mo_atomBegins B_Mo_atomBegins_56
  by_cases k : stb (mch σ x) = true
  · rw [if_pos k]
    unfold stb at k
    rw [decide_eq_true_eq] at k
    by_cases c1 : dgt (hr (mch σ x)) ≠ 0
    · rw [if_pos c1]; exact ⟨rfl, rfl⟩
    rw [if_neg c1]
    by_cases c2 : ltr (hr (mch σ x)) ≠ 0
    · rw [if_pos c2]; exact ⟨rfl, rfl⟩
    rw [if_neg c2]
    by_cases c3 : hr (mch σ x) = 84
    · rw [if_pos c3]; exact ⟨rfl, rfl⟩
    rw [if_neg c3]
    by_cases c4 : hr (mch σ x) = 70
    · rw [if_pos c4]; exact ⟨rfl, rfl⟩
    rw [if_neg c4]
    by_cases c5 : hr (mch σ x) = 82
    · rw [if_pos c5]; exact ⟨rfl, rfl⟩
    rw [if_neg c5]
    by_cases c6 : hr (mch σ x) = 73
    · rw [if_pos c6]; exact ⟨rfl, rfl⟩
    rw [if_neg c6]
    by_cases c7 : hr (mch σ x) = 126
    · rw [if_pos c7]; exact ⟨rfl, rfl⟩
    rw [if_neg c7]
    by_cases c8 : hr (mch σ x) = 91
    · rw [if_pos c8]; exact ⟨rfl, rfl⟩
    rw [if_neg c8]
    by_cases c9 : hr (mch σ x) = 40
    · rw [if_neg (fun h => h c9)]; exact ⟨rfl, rfl⟩
    · exfalso
      have c1' : ¬(48 ≤ hr (mch σ x) ∧ hr (mch σ x) ≤ 57) := fun h => c1 (by rw [dgt_1 h]; decide)
      have c2' : ¬(97 ≤ hr (mch σ x) ∧ hr (mch σ x) ≤ 122) := fun h => c2 (by rw [ltr_1 h]; decide)
      have ne : mch σ x ≠ -1 := by omega
      have eq : hr (mch σ x) = mch σ x := by unfold hr; rw [if_neg ne]
      rw [eq] at c1' c2' c3 c4 c5 c6 c7 c8 c9
      omega
  · rw [if_neg k]
    unfold stb at k
    rw [decide_eq_true_eq] at k
    have n1 : ¬(48 ≤ hr (mch σ x) ∧ hr (mch σ x) ≤ 57) := by unfold hr; split <;> omega
    have n2 : ¬(97 ≤ hr (mch σ x) ∧ hr (mch σ x) ≤ 122) := by unfold hr; split <;> omega
    have n3 : ∀ {t : Int}, t = 84 ∨ t = 70 ∨ t = 82 ∨ t = 73 ∨ t = 126 ∨ t = 91 ∨ t = 40 → hr (mch σ x) ≠ t := fun {t} ht h => by
      have := (e (t := t) (by omega) (by omega)).mp h
      omega
    rw [if_neg (by rw [dgt_0 n1]; exact fun h => h rfl), if_neg (by rw [ltr_0 n2]; exact fun h => h rfl), if_neg (n3 (by decide)), if_neg (n3 (by decide)), if_neg (n3 (by decide)), if_neg (n3 (by decide)), if_neg (n3 (by decide)), if_neg (n3 (by decide)), if_pos (n3 (by decide))]
    exact ⟨rfl, rfl⟩
/-- the broken flag behind digits -/
def dgB (most : Nat) (r : Int × Int × Int) (b : Int) : Int := if b = 0 ∧ ¬(r.2.1 = 0 ∨ (most : Int) < r.2.1) then 0 else 1
theorem modigits_l {x1 : Int} {most : Nat} (hm : x1 = most) (h4 : most ≤ 4) (H : MI σ) : ∀ (n k : Nat) (v c p : Int), n + k = most + 1 → 0 ≤ v → v + 1 ≤ 10 ^ k → c = k → 0 ≤ p → p ≤ 100000 → Lb (d + 4) yMo_digits 4 [(0, .ref 58), (1, vi x1), (2, vi v), (3, vi c)] [] (Zm σ p b) (some (dgf (mch σ) n v c p).1) (Zm σ (dgf (mch σ) n v c p).2.2 (dgB most (dgf (mch σ) n v c p) b)) := by
  have fin : ∀ {v c p : Int}, B_Mo_digits_48 (d + 1) x1 v c (Zm σ p b) (some v) (Zm σ p (dgB most (v, c, p) b)) := by
    intro v c p
    unfold B_Mo_digits_48 B_Mo_digits_65 B_Mo_digits_70 dgB
    rw [Zm_bad, Zm_24, Zm_24]
    by_cases w : b = 0
    · rw [if_neg (fun h => h w)]
      by_cases w1 : c = 0
      · rw [if_pos w1, if_neg (fun h => h.2 (Or.inl w1))]; exact ⟨Or.inr rfl, rfl, rfl⟩
      · rw [if_neg w1]
        by_cases w2 : c ≤ x1
        · rw [if_pos w2, if_pos ⟨w, by dsimp only; omega⟩]; exact ⟨Or.inl rfl, rfl, rfl⟩
        · rw [if_neg w2, if_neg (fun h => h.2 (Or.inr (by dsimp only; omega)))]; exact ⟨Or.inr rfl, rfl, rfl⟩
    · rw [if_pos w, if_neg (fun h => w h.1)]; exact ⟨Or.inr rfl, rfl, rfl⟩
  intro n
  induction n with
  | zero =>
    intro k v c p hn hv hk hc h0 h1
    have t1 := ten_pow (k := k) (by omega)
    refine K_Mo_digits_4 (d := d + 1) ⟨by omega, by omega⟩ ⟨by omega, by omega⟩ ⟨by omega, by omega⟩ ⟨_, _, s_here (d := d) H h0, ?_⟩
    have e : dgf (mch σ) 0 v c p = (v, c, p) := rfl
    rw [e]
    split
    · exact fin
    · rw [if_pos (by omega)]; exact fin
  | succ n ih =>
    intro k v c p hn hv hk hc h0 h1
    have t1 := ten_pow (k := k) (by omega)
    refine K_Mo_digits_4 (d := d + 1) ⟨by omega, by omega⟩ ⟨by omega, by omega⟩ ⟨by omega, by omega⟩ ⟨_, _, s_here (d := d) H h0, ?_⟩
    by_cases w : 48 ≤ mch σ p ∧ mch σ p ≤ 57
    · have e : dgf (mch σ) (n + 1) v c p = dgf (mch σ) n (v * 10 + mch σ p - 48) (c + 1) (p + 1) := by rw [dgf, if_pos w]
      have lt := mch_lt (σ := σ) (x := p) (by omega)
      have h60 := H.2.1
      have eh : hr (mch σ p) = mch σ p := by unfold hr; rw [if_neg (by omega)]
      rw [eh, dgt_1 w, if_neg (by decide), if_neg (by omega)]
      refine ⟨_, _, s_here (d := d) H h0, ?_⟩
      rw [eh, Zm_at, Zm_3, e]
      have e10 : 10 * v + mch σ p - 48 = v * 10 + mch σ p - 48 := by omega
      rw [e10]
      exact ⟨⟨by omega, by omega⟩, ⟨by omega, by omega⟩, ⟨by omega, by omega⟩, ih (k + 1) _ _ _ (by omega) (by omega) (by rw [Int.pow_succ]; omega) (by omega) (by omega) (by omega)⟩
    · have e : dgf (mch σ) (n + 1) v c p = (v, c, p) := by rw [dgf, if_neg w]
      have eh : ¬(48 ≤ hr (mch σ p) ∧ hr (mch σ p) ≤ 57) := by unfold hr; split <;> omega
      rw [dgt_0 eh, if_pos rfl, e]; exact fin
theorem s_modigits {x1 : Int} {most : Nat} (hm : x1 = most) (h4 : most ≤ 4) (H : MI σ) (hq : 0 ≤ q ∧ q ≤ 1000) : Rn (d + 5) yMo_digits [.ref 58, vi x1] (Zm σ q b) (some (dgf (mch σ) (most + 1) 0 0 q).1) (Zm σ (dgf (mch σ) (most + 1) 0 0 q).2.2 (dgB most (dgf (mch σ) (most + 1) 0 0 q) b)) :=
  M_Mo_digits (d := d + 1) ⟨by omega, by omega⟩ (modigits_l hm h4 H (most + 1) 0 0 0 q rfl (by decide) (by decide) rfl hq.1 (by omega))
/-- an operator: which, and the place behind -/
def opR (ch : Int → Int) (u v q : Int) : Int × Int := if nx ch q = u ∨ nx ch q = v then (if nx ch q ≠ 61 ∧ ch (sk ch q + 1) = 46 then (nx ch q + 128, sk ch q + 2) else (nx ch q, sk ch q + 1)) else (0, sk ch q)
theorem s_op71 (H : MI σ) (hq : 0 ≤ q ∧ q ≤ 2000) : B_Mo_operator_71 (d + 2) (hr (mch σ q)) 1 (Zm σ q b) (some (if hr (mch σ q) ≠ 61 ∧ mch σ (q + 1) = 46 then hr (mch σ q) + 128 else hr (mch σ q))) (Zm σ (if hr (mch σ q) ≠ 61 ∧ mch σ (q + 1) = 46 then q + 2 else q + 1) b) := by
  have hg := H.hr_rg q
  unfold B_Mo_operator_71
  rw [if_pos (by decide), Zm_at, Zm_3]
  refine ⟨⟨by omega, by omega⟩, ?_⟩
  by_cases c : hr (mch σ q) = 61
  · rw [if_pos c, if_neg (fun h => h.1 c), if_neg (fun h => h.1 c)]; exact ⟨rfl, rfl⟩
  · rw [if_neg c]
    refine ⟨_, _, (s_here (d := d + 1) H (show (0 : Int) ≤ q + 1 by omega)), ?_⟩
    by_cases w : mch σ (q + 1) = 46
    · rw [if_neg (fun h => h ((H.hr_eq (by decide) (by decide)).mpr w)), if_pos ⟨c, w⟩, if_pos ⟨c, w⟩, Zm_at, Zm_3]
      have : q + 1 + 1 = q + 2 := by omega
      rw [this]
      exact ⟨⟨by omega, by omega⟩, ⟨by omega, by omega⟩, rfl, rfl⟩
    · rw [if_pos (fun h => w ((H.hr_eq (by decide) (by decide)).mp h)), if_neg (fun h => w h.2), if_neg (fun h => w h.2)]; exact ⟨rfl, rfl⟩
theorem s_operator {k u v : Int} (H : MI σ) (hq : 0 ≤ q ∧ q ≤ 1000) (hk : (k = 0 ∧ u = 60 ∧ v = 61) ∨ (k = 1 ∧ u = 43 ∧ v = 45) ∨ (k = 2 ∧ u = 42 ∧ v = 47)) : Rn (d + 6) yMo_operator [.ref 58, vi k] (Zm σ q b) (some (opR (mch σ) u v q).1) (Zm σ (opR (mch σ) u v q).2 b) := by
  have l1 := sk_ge (ch := mch σ) (p := q)
  have l2 := sk_le (ch := mch σ) (p := q)
  have e : ∀ {t : Int}, t ≠ -1 → t ≠ 10 → (hr (nx (mch σ) q) = t ↔ nx (mch σ) q = t) := fun h1 h2 => H.hr_eq h1 h2
  have yes : nx (mch σ) q = u ∨ nx (mch σ) q = v → B_Mo_operator_71 (d + 2) (hr (nx (mch σ) q)) 1 (Zm σ (sk (mch σ) q) b) (some (opR (mch σ) u v q).1) (Zm σ (opR (mch σ) u v q).2 b) := by
    intro w
    have h := s_op71 (d := d) (b := b) H (q := sk (mch σ) q) ⟨by omega, by omega⟩
    have e1 : hr (mch σ (sk (mch σ) q)) = nx (mch σ) q := by
      show hr (nx (mch σ) q) = _
      unfold hr
      rw [if_neg (by omega)]
    unfold opR
    rw [if_pos w]
    rw [e1] at h
    have e2 : hr (nx (mch σ) q) = nx (mch σ) q := e1
    rw [e2]
    by_cases z : nx (mch σ) q ≠ 61 ∧ mch σ (sk (mch σ) q + 1) = 46
    · rw [if_pos z] at h ⊢; rw [if_pos z] at h; exact h
    · rw [if_neg z] at h ⊢; rw [if_neg z] at h; exact h
  have no : ¬(nx (mch σ) q = u ∨ nx (mch σ) q = v) → B_Mo_operator_71 (d + 2) (hr (nx (mch σ) q)) 0 (Zm σ (sk (mch σ) q) b) (some (opR (mch σ) u v q).1) (Zm σ (opR (mch σ) u v q).2 b) := by
    intro w
    unfold opR B_Mo_operator_71
    rw [if_neg w, if_neg (fun h => h rfl)]
    exact ⟨rfl, rfl⟩
  refine M_Mo_operator (d := d + 2) ⟨by omega, by omega⟩ ⟨_, _, s_peek H hq, ?_⟩
  rcases hk with ⟨rfl, rfl, rfl⟩ | ⟨rfl, rfl, rfl⟩ | ⟨rfl, rfl, rfl⟩
  · rw [if_neg (by decide)]
    unfold B_Mo_operator_21
    by_cases c : hr (nx (mch σ) q) = 60
    · rw [if_pos c]; exact yes (Or.inl ((e (by decide) (by decide)).mp c))
    · rw [if_neg c]
      by_cases c2 : hr (nx (mch σ) q) = 61
      · rw [if_neg (fun h => h c2)]; exact yes (Or.inr ((e (by decide) (by decide)).mp c2))
      · rw [if_pos c2]
        refine no (fun h => ?_)
        rcases h with h | h
        · exact c ((e (by decide) (by decide)).mpr h)
        · exact c2 ((e (by decide) (by decide)).mpr h)
  · rw [if_pos (by decide), if_neg (by decide)]
    unfold B_Mo_operator_46
    by_cases c : hr (nx (mch σ) q) = 43
    · rw [if_pos c]; exact yes (Or.inl ((e (by decide) (by decide)).mp c))
    · rw [if_neg c]
      by_cases c2 : hr (nx (mch σ) q) = 45
      · rw [if_neg (fun h => h c2)]; exact yes (Or.inr ((e (by decide) (by decide)).mp c2))
      · rw [if_pos c2]
        refine no (fun h => ?_)
        rcases h with h | h
        · exact c ((e (by decide) (by decide)).mpr h)
        · exact c2 ((e (by decide) (by decide)).mpr h)
  · rw [if_pos (by decide), if_pos (by decide)]
    unfold B_Mo_operator_66
    by_cases c : hr (nx (mch σ) q) = 42
    · rw [if_pos c]; exact yes (Or.inl ((e (by decide) (by decide)).mp c))
    · rw [if_neg c]
      by_cases c2 : hr (nx (mch σ) q) = 47
      · rw [if_neg (fun h => h c2)]; exact yes (Or.inr ((e (by decide) (by decide)).mp c2))
      · rw [if_pos c2]
        refine no (fun h => ?_)
        rcases h with h | h
        · exact c ((e (by decide) (by decide)).mpr h)
        · exact c2 ((e (by decide) (by decide)).mpr h)
/-- a draft is put -/
def dft (σ : Mem) (a b c : Int) : Mem := mup (mup (mup (mup σ 60 (σ 58 7) a) 61 (σ 58 7) b) 62 (σ 58 7) c) 58 7 (σ 58 7 + 1)
theorem s_put {x y z : Int} (hx : rg x) (hy : rg y) (hz : rg z) (h : 0 ≤ σ 58 7 ∧ σ 58 7 < 124) : Rn (d + 4) yMo_put [.ref 58, vi x, vi y, vi z] σ none (dft σ x y z) :=
  M_Mo_put hx hy hz ⟨h, h, h, ⟨by omega, by omega⟩, rfl, rfl⟩
/-- a sign is put -/
def sgn (σ : Mem) (a b : Int) : Mem := mup (mup (mup σ 66 (σ 58 14) a) 67 (σ 58 14) b) 58 14 (σ 58 14 + 1)
theorem s_putSign {x y : Int} (hx : rg x) (hy : rg y) (h : 0 ≤ σ 58 14 ∧ σ 58 14 < 80) : Rn (d + 4) yMo_putSign [.ref 58, vi x, vi y] σ none (sgn σ x y) :=
  M_Mo_putSign hx hy ⟨h, h, ⟨by omega, by omega⟩, rfl, rfl⟩
/-- a goal is begun -/
def bgn (σ : Mem) (g : Int) : Mem := mup (mup (mup (mup (mup σ 70 (σ 58 21) g) 71 (σ 58 21) 0) 72 (σ 58 21) 0) 73 (σ 58 21) 0) 58 21 (σ 58 21 + 1)
theorem s_begin {g : Int} (hg : rg g) (h : 0 ≤ σ 58 21 ∧ σ 58 21 < 180) : Rn (d + 4) yMo_begin [.ref 58, vi g] σ none (bgn σ g) :=
  M_Mo_begin hg ⟨h, h, h, h, ⟨by omega, by omega⟩, rfl, rfl⟩
def aft (σ : Mem) (s g : Int) : Mem := bgn (mup σ 71 (σ 58 21 - 1) s) g
theorem s_after {s g : Int} (hs : rg s) (hg : rg g) (h : 1 ≤ σ 58 21 ∧ σ 58 21 < 180) : Rn (d + 5) yMo_after [.ref 58, vi s, vi g] σ none (aft σ s g) := by
  have e : (mup σ 71 (σ 58 21 - 1) s) 58 21 = σ 58 21 := mup_ne (by decide)
  exact M_Mo_after (d := d + 1) hs hg ⟨⟨by omega, by omega⟩, _, s_begin hg (by rw [e]; omega), rfl, rfl⟩
/-- one deeper -/
def dpr (σ : Mem) : Mem := mup (mup σ 58 22 (σ 58 22 + 1)) 58 24 (if σ 58 24 = 0 ∧ σ 58 22 < 16 then 0 else 1)
theorem s_deeper (h : -1000 ≤ σ 58 22 ∧ σ 58 22 ≤ 1000) : Rn (d + 4) yMo_deeper [.ref 58] σ none (dpr σ) := by
  refine M_Mo_deeper ⟨⟨by omega, by omega⟩, ?_⟩
  unfold dpr B_Mo_deeper_27 B_Mo_deeper_32
  by_cases w : σ 58 24 = 0
  · rw [if_neg (fun h => h w)]
    by_cases k : σ 58 22 + 1 ≤ 16
    · rw [if_pos k, if_pos ⟨w, by omega⟩]; exact ⟨Or.inl rfl, rfl, rfl⟩
    · rw [if_neg k, if_neg (fun h => by omega)]; exact ⟨Or.inr rfl, rfl, rfl⟩
  · rw [if_pos w, if_neg (fun h => w h.1)]; exact ⟨Or.inr rfl, rfl, rfl⟩
def eDp (σ : Mem) : Mem := mup (mup σ 58 22 (σ 58 22 - 1)) 58 21 (σ 58 21 - 1)
theorem s_endsDeep (h : -1000 ≤ σ 58 22 ∧ σ 58 22 ≤ 1000) (h2 : 0 ≤ σ 58 21 ∧ σ 58 21 ≤ 1000) : Rn (d + 4) yMo_endsDeep [.ref 58] σ none (eDp σ) :=
  M_Mo_endsDeep ⟨⟨by omega, by omega⟩, ⟨by omega, by omega⟩, rfl, rfl⟩
end MS2
