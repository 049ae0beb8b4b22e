/-! The model's reader: signs, and what a goal within a goal leaves that reads a pattern. -/
section PAT0
variable {σ τ : Mem} {q dp a b s g x y z : Int}
theorem sgn_at : (∀ k, k ≠ 14 → (sgn τ x y) 58 k = τ 58 k) ∧ (sgn τ x y) 58 14 = τ 58 14 + 1 ∧ sg (sgn τ x y) (τ 58 14) x y ∧ (∀ k, k ≠ τ 58 14 → (sgn τ x y) 66 k = τ 66 k ∧ (sgn τ x y) 67 k = τ 67 k) ∧ (∀ i, i ≠ 58 → i ≠ 66 → i ≠ 67 → (sgn τ x y) i = τ i) := by
  unfold sgn
  refine ⟨fun k hk => ?_, mup_eq, ⟨?_, ?_⟩, fun k hk => ⟨?_, ?_⟩, fun i h1 h2 h3 => ?_⟩
  · rw [mup_nk hk, mup_ne (by decide), mup_ne (by decide)]
  · rw [mup_ne (by decide), mup_ne (by decide), mup_eq]
  · rw [mup_ne (by decide), mup_eq]
  · rw [mup_ne (by decide), mup_ne (by decide), mup_nk hk]
  · rw [mup_ne (by decide), mup_nk hk, mup_ne (by decide)]
  · rw [mup_obj h1, mup_obj h3, mup_obj h2]
theorem Pg.putS (S : Pg σ τ q dp a b) (hb : 0 ≤ b) : Pg σ (sgn τ x y) q dp a (b + 1) := by
  obtain ⟨f, s24, s3, s3b, s21, s22, k1, k2, k3, s7, s14, s70⟩ := S
  obtain ⟨d0, d7, -, d1, d2⟩ := sgn_at (τ := τ) (x := x) (y := y)
  have o : ∀ {i : Nat}, i ≠ 58 → i ≠ 66 → i ≠ 67 → (sgn τ x y) i = τ i := fun h1 h2 h3 => d2 _ h1 h2 h3
  refine ⟨f.tr frM.sgn, (d0 24 (by decide)).trans s24, (d0 3 (by decide)).trans s3, s3b, (d0 21 (by decide)).trans s21, (d0 22 (by decide)).trans s22, ?_, ?_, ?_, (d0 7 (by decide)).trans s7, by omega, ?_⟩
  · intro w h0 h1; rw [o (by decide) (by decide) (by decide), o (by decide) (by decide) (by decide), o (by decide) (by decide) (by decide), o (by decide) (by decide) (by decide)]; exact k1 w h0 h1
  · intro w h0 h1; rw [o (by decide) (by decide) (by decide), o (by decide) (by decide) (by decide), o (by decide) (by decide) (by decide), o (by decide) (by decide) (by decide)]; exact k2 w h0 h1
  · intro w h0 h1
    obtain ⟨e1, e2⟩ := d1 w (by omega)
    rw [e1, e2]; exact k3 w h0 h1
  · rw [o (by decide) (by decide) (by decide)]; exact s70
theorem Pg.m23 (S : Pg σ τ q dp a b) : Pg σ (mup τ 58 23 z) q dp a b := by
  obtain ⟨f, s24, s3, s3b, s21, s22, k1, k2, k3, s7, s14, s70⟩ := S
  have o : ∀ {i : Nat}, i ≠ 58 → (mup τ 58 23 z) i = τ i := fun h => mup_obj h
  refine ⟨f.tr (frM.m8 (by unfold mfP; omega)), (mup_nk (by decide)).trans s24, (mup_nk (by decide)).trans s3, s3b, (mup_nk (by decide)).trans s21, (mup_nk (by decide)).trans s22, ?_, ?_, ?_, (mup_nk (by decide)).trans s7, (mup_nk (by decide)).trans s14, ?_⟩
  · intro w h0 h1; rw [o (by decide), o (by decide), o (by decide), o (by decide)]; exact k1 w h0 h1
  · intro w h0 h1; rw [o (by decide), o (by decide), o (by decide), o (by decide)]; exact k2 w h0 h1
  · intro w h0 h1; rw [o (by decide), o (by decide)]; exact k3 w h0 h1
  · rw [o (by decide)]; exact s70
theorem isP.sh {σ' : Mem} : ∀ {T : Tr} {s : Int}, (∀ x, s ≤ x → x < s + pn T → σ' 66 (x + 1) = σ 66 x ∧ σ' 67 (x + 1) = σ 67 x) → isP σ T s → isP σ' T (s + 1) := by
  intro T s
  fun_induction isP σ T s with
  | case6 z A B C s i1 i2 =>
    intro h c
    have e : pn (nd 10 z A B C) = pn A + pn B + 1 := rfl
    have g1 := pn_ge (T := A)
    have g2 := pn_ge (T := B)
    change ∀ x, s ≤ x → x < s + pn (nd 10 z A B C) → _ at h
    rw [e] at h
    obtain ⟨c1, c2, c3⟩ := c
    have h0 := h s (by omega) (by omega)
    have j2 := i2 (fun x a b => h x (by omega) (by omega)) c3
    rw [show s + 1 + pn A + 1 = s + 1 + 1 + pn A by omega] at j2
    exact ⟨⟨h0.1.trans c1.1, h0.2.trans c1.2⟩, i1 (fun x a b => h x (by omega) (by omega)) c2, j2⟩
  | case7 => intro _ c; exact c.elim
  | case8 => intro _ c; exact c.elim
  | case1 | case2 | case3 | case4 | case5 =>
    intro h c
    have h0 := h _ (Int.le_refl _) (by show _ < _ + (1 : Int); omega)
    exact ⟨h0.1.trans c.1, h0.2.trans c.2⟩
/-- a sign is put in -/
def inS (σ τ : Mem) (p : Int) : Prop := (∀ i, i ≠ 58 → i ≠ 66 → i ≠ 67 → τ i = σ i) ∧ (∀ k, k ≠ 14 → τ 58 k = σ 58 k) ∧ τ 58 14 = σ 58 14 + 1 ∧ (∀ x, x < p → τ 66 x = σ 66 x ∧ τ 67 x = σ 67 x) ∧ sg τ p 0 0 ∧ ∀ x, p ≤ x → x < σ 58 14 → τ 66 (x + 1) = σ 66 x ∧ τ 67 (x + 1) = σ 67 x
theorem insS_l {d : Nat} {p : Int} (h14 : 0 ≤ p ∧ p ≤ σ 58 14 ∧ σ 58 14 < 80) : ∀ (n : Nat) (k : Int) (ρ : Mem), (n : Int) = k - p → k ≤ σ 58 14 → (∀ i, i ≠ 66 → i ≠ 67 → ρ i = σ i) → (∀ x, x ≤ k → ρ 66 x = σ 66 x ∧ ρ 67 x = σ 67 x) → (∀ x, k ≤ x → x < σ 58 14 → ρ 66 (x + 1) = σ 66 x ∧ ρ 67 (x + 1) = σ 67 x) → ∃ τ, Lb (d + 3) yMo_insertSign 5 [(0, .ref 58), (1, vi p), (2, vi k)] [] ρ none τ ∧ inS σ τ p := by
  intro n
  induction n with
  | zero =>
    intro k ρ hn hk h1 h2 h3
    have e14 : ρ 58 14 = σ 58 14 := by rw [h1 58 (by decide) (by decide)]
    have kp : k = p := by omega
    subst kp
    refine ⟨mup (mup (mup ρ 66 k 0) 67 k 0) 58 14 (ρ 58 14 + 1), K_Mo_insertSign_5 ⟨by omega, by omega⟩ ⟨by omega, by omega⟩ ?_, ?_, ?_, ?_, ?_, ⟨?_, ?_⟩, ?_⟩
    · unfold B_Mo_insertSign_5
      rw [if_pos (by omega)]
      exact ⟨⟨by omega, by omega⟩, ⟨by omega, by omega⟩, ⟨by omega, by omega⟩, rfl, rfl⟩
    · intro i a b c
      rw [mup_obj a, mup_obj c, mup_obj b]; exact h1 i b c
    · intro i hi
      rw [mup_nk hi, mup_ne (by decide), mup_ne (by decide), h1 58 (by decide) (by decide)]
    · rw [mup_eq, e14]
    · intro x hx
      rw [mup_ne (by decide), mup_ne (by decide), mup_nk (show x ≠ k by omega), mup_ne (by decide), mup_nk (show x ≠ k by omega), mup_ne (by decide)]
      exact h2 x (by omega)
    · rw [mup_ne (by decide), mup_ne (by decide), mup_eq]
    · rw [mup_ne (by decide), mup_eq]
    · intro x a b
      rw [mup_ne (by decide), mup_ne (by decide), mup_nk (show x + 1 ≠ k by omega), mup_ne (by decide), mup_nk (show x + 1 ≠ k by omega), mup_ne (by decide)]
      exact h3 x a b
  | succ n ih =>
    intro k ρ hn hk h1 h2 h3
    obtain ⟨τ, hL, hI⟩ := ih (k - 1) (mup (mup ρ 66 k (ρ 66 (k - 1))) 67 k (ρ 67 (k - 1))) (by omega) (by omega)
      (fun i a b => by rw [mup_obj b, mup_obj a]; exact h1 i a b)
      (fun x hx => by
        rw [mup_ne (by decide), mup_nk (show x ≠ k by omega), mup_nk (show x ≠ k by omega), mup_ne (by decide)]
        exact h2 x (by omega))
      (fun x a b => by
        by_cases w : x = k - 1
        · subst w
          have e := h2 (k - 1) (by omega)
          rw [show k - 1 + 1 = k by omega, mup_ne (by decide), mup_eq, mup_eq]
          exact e
        · rw [mup_ne (by decide), mup_nk (show x + 1 ≠ k by omega), mup_nk (show x + 1 ≠ k by omega), mup_ne (by decide)]
          exact h3 x (by omega) b)
    refine ⟨τ, K_Mo_insertSign_5 ⟨by omega, by omega⟩ ⟨by omega, by omega⟩ ?_, hI⟩
    unfold B_Mo_insertSign_5
    rw [if_neg (by omega), show k + (-1) = k - 1 by omega]
    exact ⟨⟨by omega, by omega⟩, ⟨by omega, by omega⟩, ⟨by omega, by omega⟩, ⟨by omega, by omega⟩, ⟨by omega, by omega⟩, hL⟩
theorem s_insertSign {d : Nat} {p : Int} (h14 : 0 ≤ p ∧ p ≤ σ 58 14 ∧ σ 58 14 < 80) : ∃ τ, Rn (d + 4) yMo_insertSign [.ref 58, vi p] σ none τ ∧ inS σ τ p := by
  obtain ⟨τ, hL, hI⟩ := insS_l (d := d) h14 (σ 58 14 - p).toNat (σ 58 14) σ (by omega) (Int.le_refl _) (fun _ _ _ => rfl) (fun _ _ => ⟨rfl, rfl⟩) (fun x a b => by omega)
  exact ⟨τ, M_Mo_insertSign ⟨by omega, by omega⟩ hL, hI⟩
/-- a pattern's goal is done: b signs came -/
def Dp (σ τ : Mem) (b q : Int) : Prop := frM σ τ ∧ τ 58 24 = 0 ∧ τ 58 3 = q ∧ (σ 58 3 ≤ q ∧ q ≤ σ 58 2) ∧ τ 58 21 = σ 58 21 - 1 ∧ τ 58 22 = σ 58 22 ∧ kpG (σ 58 21 - 1) σ τ ∧ kpD (σ 58 7) σ τ ∧ kpS (σ 58 14) σ τ ∧ τ 58 7 = σ 58 7 ∧ τ 58 14 = σ 58 14 + b
def DpM (Q : PaR) (σ : Mem) : Prop := match Q with
  | none => Fl σ
  | some (T, q, L) => ∃ τ, Sim σ τ ∧ Dp σ τ (pn T) q ∧ isP τ T (σ 58 14) ∧ mk (τ 58 23) L
def PSpM (D g : Int) (P : (Int → Int) → Int → List Int → PaR) : Prop := ∀ σ L, GI σ g → σ 58 22 = D → mk (σ 58 23) L → DpM (P (mch σ) (σ 58 3) L) σ
theorem Pg.popP (S : Pg σ τ q 0 0 b) : Dp σ (mup τ 58 21 (τ 58 21 - 1)) b q := by
  obtain ⟨f, s24, s3, s3b, s21, s22, k1, k2, k3, s7, s14, s70⟩ := S
  have o : ∀ {i : Nat}, i ≠ 58 → (mup τ 58 21 (τ 58 21 - 1)) i = τ i := fun h => mup_obj h
  refine ⟨f.tr (frM.m8 (by unfold mfP; omega)), (mup_nk (by decide)).trans s24, (mup_nk (by decide)).trans s3, s3b, ?_, ?_, ?_, ?_, ?_, ?_, (mup_nk (by decide)).trans s14⟩
  · rw [mup_eq, s21]
  · rw [mup_nk (by decide), s22]; omega
  · intro x h0 h1; rw [o (by decide), o (by decide), o (by decide), o (by decide)]; exact k1 x h0 h1
  · intro x h0 h1; rw [o (by decide), o (by decide), o (by decide), o (by decide)]; exact k2 x h0 h1
  · intro x h0 h1; rw [o (by decide), o (by decide)]; exact k3 x h0 h1
  · rw [mup_nk (by decide), s7]; omega
theorem Pg.popPD (S : Pg σ τ q 1 0 b) : Dp σ (eDp τ) b q := by
  obtain ⟨f, s24, s3, s3b, s21, s22, k1, k2, k3, s7, s14, s70⟩ := S
  have o : ∀ {i : Nat}, i ≠ 58 → (eDp τ) i = τ i := fun h => (mup_obj h).trans (mup_obj h)
  have u : ∀ {k : Int}, k ≠ 21 → k ≠ 22 → (eDp τ) 58 k = τ 58 k := fun h h' => (mup_nk h).trans (mup_nk h')
  refine ⟨f.tr frM.eDp, (u (by decide) (by decide)).trans s24, (u (by decide) (by decide)).trans s3, s3b, ?_, ?_, ?_, ?_, ?_, ?_, (u (by decide) (by decide)).trans s14⟩
  · unfold eDp; rw [mup_eq, s21]
  · unfold eDp; rw [mup_nk (by decide), mup_eq, s22]; omega
  · intro x h0 h1; rw [o (by decide), o (by decide), o (by decide), o (by decide)]; exact k1 x h0 h1
  · intro x h0 h1; rw [o (by decide), o (by decide), o (by decide), o (by decide)]; exact k2 x h0 h1
  · intro x h0 h1; rw [o (by decide), o (by decide)]; exact k3 x h0 h1
  · rw [u (by decide) (by decide), s7]; omega
/-- what stands when the pattern within the goal is done -/
def SpM (Q : PaR) (σ τ : Mem) (dp a b s g : Int) : Prop := match Q with
  | none => Fl (aft τ s g)
  | some (T, q2, L) => ∃ τ2, Sim (aft τ s g) τ2 ∧ (Pg σ τ2 q2 dp a (b + pn T) ∧ q2 ≤ σ 58 2 ∧ τ 58 3 ≤ q2 ∧ (τ2 71 (σ 58 21 - 1) = s ∧ τ2 72 (σ 58 21 - 1) = τ 72 (σ 58 21 - 1) ∧ τ2 73 (σ 58 21 - 1) = τ 73 (σ 58 21 - 1)) ∧ isP τ2 T (σ 58 14 + b) ∧ kpD (σ 58 7 + a) τ τ2 ∧ kpS (σ 58 14 + b) τ τ2) ∧ mk (τ2 58 23) L
theorem Pg.begunP {P : (Int → Int) → Int → List Int → PaR} {D : Int} {L : List Int} (S : Pg σ τ q dp a b) (ha : 0 ≤ a) (hb : 0 ≤ b) (h21 : 1 ≤ σ 58 21) (gi : GI (aft τ s g) g) (hD : σ 58 22 + dp = D) (hm : mk (τ 58 23) L) (G : PSpM D g P) : SpM (P (mch σ) q L) σ τ dp a b s g := by
  have a0 := aft_at (σ := τ) (s := s) (g := g)
  have h := G _ L gi (by rw [a0.1 22 (by decide), S.2.2.2.2.2.1]; exact hD) (by rw [a0.1 23 (by decide)]; exact hm)
  rw [(S.1.tr (frM.aft (s := s) (g := g))).ch, a0.1 3 (by decide), S.2.2.1] at h
  generalize P (mch σ) q L = Q at *
  obtain ⟨f, s24, s3, s3b, s21, s22, k1, k2, k3, s7, s14, s70⟩ := S
  obtain ⟨a1, a2, a3, a4, a5, a6, a7, a8⟩ := a0
  have fa := f.tr (frM.aft (s := s) (g := g))
  cases Q with
  | none => exact h
  | some t =>
    obtain ⟨T, q2, L'⟩ := t
    obtain ⟨τ2, sm, ⟨f2, t24, t3, t3b, t21, t22, g1, g2, g3, t7, t14⟩, tc, tm⟩ := h
    rw [a1 7 (by decide), s7] at t7 g2
    rw [a1 14 (by decide), s14] at t14 tc g3
    rw [a1 3 (by decide), s3, fa.len] at t3b
    rw [a2, s21] at t21 g1
    rw [a1 22 (by decide), s22] at t22
    have e21 : σ 58 21 + 1 - 1 = σ 58 21 := by omega
    rw [e21] at t21 g1
    have gk := g1 (σ 58 21 - 1) (by omega) (by omega)
    obtain ⟨b1, b2, b3, b4⟩ := a7 (σ 58 21 - 1) (by omega)
    rw [if_pos (by omega)] at b2
    have ad : kpD (σ 58 7 + a) τ (aft τ s g) := fun x _ _ => by
      rw [a8 60 (by decide) (by decide) (by decide) (by decide) (by decide), a8 61 (by decide) (by decide) (by decide) (by decide) (by decide), a8 62 (by decide) (by decide) (by decide) (by decide) (by decide), a8 74 (by decide) (by decide) (by decide) (by decide) (by decide)]
      exact ⟨rfl, rfl, rfl, rfl⟩
    have as : kpS (σ 58 14 + b) τ (aft τ s g) := fun x _ _ => by
      rw [a8 66 (by decide) (by decide) (by decide) (by decide) (by decide), a8 67 (by decide) (by decide) (by decide) (by decide) (by decide)]
      exact ⟨rfl, rfl⟩
    have ag : kpG (σ 58 21 - 1) τ (aft τ s g) := fun x _ h1 => by
      obtain ⟨c1, c2, c3, c4⟩ := a7 x (by omega)
      rw [if_neg (by omega)] at c2
      exact ⟨c1, c2, c3, c4⟩
    have kD := ad.tr g2 (Int.le_refl _)
    have kS := as.tr g3 (Int.le_refl _)
    refine ⟨τ2, sm, ⟨⟨fa.tr f2, t24, t3, ⟨by omega, by omega⟩, t21, t22, ?_, ?_, ?_, by omega, by omega, ?_⟩, t3b.2, by omega, ⟨?_, ?_, ?_⟩, tc, kD, kS⟩, tm⟩
    · exact (k1.tr ag (Int.le_refl _)).tr g1 (by omega)
    · exact k2.tr kD (by omega)
    · exact k3.tr kS (by omega)
    · rw [gk.1, b1, s70]
    · rw [gk.2.1, b2]
    · rw [gk.2.2.1, b3]
    · rw [gk.2.2.2, b4]
end PAT0
