/-! The model's reader: a goal within a goal, and the end of a goal. -/
section SUB
variable {σ τ : Mem} {q dp a b s g : Int} {P : (Int → Int) → Int → Option (Tr × Int)}
theorem Pg.rf (h24 : σ 58 24 = 0) (h3 : σ 58 3 ≤ σ 58 2) : Pg σ σ (σ 58 3) 0 0 0 := ⟨frM.rf, h24, rfl, ⟨Int.le_refl _, h3⟩, rfl, by omega, kpG.rf, kpD.rf, kpS.rf, by omega, by omega, rfl⟩
theorem GI.pg (H : GI σ g) : Pg σ σ (σ 58 3) 0 0 0 := Pg.rf H.2.1 H.2.2.1.2
theorem Pg.gi (H : MI σ) (S : Pg σ τ q dp a b) (h3 : 0 ≤ q) (h7 : 0 ≤ σ 58 7 + a ∧ σ 58 7 + a ≤ 2 * q) (h14 : 0 ≤ σ 58 14 + b ∧ σ 58 14 + b ≤ q) (hd : 0 ≤ σ 58 22 + dp ∧ σ 58 22 + dp ≤ 16) (ho : 1 ≤ σ 58 21 ∧ σ 58 21 + 1 ≤ 7 * (σ 58 22 + dp) + q + gu g) : GI (aft τ s g) g := by
  obtain ⟨f, s24, s3, s3b, s21, s22, -, -, -, s7, s14, -⟩ := S
  obtain ⟨a1, a2, a3, a4, a5, a6, -, -⟩ := aft_at (σ := τ) (s := s) (g := g)
  have e21 : (aft τ s g) 58 21 - 1 = τ 58 21 := by omega
  have fl := (f.tr (frM.aft (s := s) (g := g))).len
  refine ⟨(f.tr frM.aft).mi H, ?_, ?_, ?_, ?_, ?_, ?_, ?_, ?_, ?_, ?_⟩
  · rw [a1 24 (by decide)]; exact s24
  · rw [a1 3 (by decide), fl]; omega
  · rw [a1 7 (by decide), a1 3 (by decide)]; omega
  · rw [a1 14 (by decide), a1 3 (by decide)]; omega
  · rw [a1 22 (by decide)]; omega
  · rw [a1 22 (by decide), a1 3 (by decide), a2]; omega
  · rw [e21]; exact a3
  · rw [e21]; exact a4
  · rw [e21]; exact a5
  · rw [e21]; exact a6
/-- what stands when a goal within the goal is done -/
def Sb (σ τ τ2 : Mem) (T : Tr) (q2 dp a b s : Int) : Prop := Pg σ τ2 q2 dp (a + ln T) (b + sn T) ∧ q2 ≤ σ 58 2 ∧ τ 58 3 ≤ q2 ∧ (τ2 71 (σ 58 21 - 1) = s ∧ τ2 72 (σ 58 21 - 1) = τ 72 (σ 58 21 - 1) ∧ τ2 73 (σ 58 21 - 1) = τ 73 (σ 58 21 - 1)) ∧ isC τ2 T (σ 58 7 + a) (σ 58 14 + b) ∧ kpD (σ 58 7 + a) τ τ2 ∧ kpS (σ 58 14 + b) τ τ2
def SbM (Q : Option (Tr × Int)) (σ τ : Mem) (dp a b s g : Int) : Prop := match Q with
  | none => Fl (aft τ s g)
  | some (T, q2) => ∃ τ2, Sim (aft τ s g) τ2 ∧ Sb σ τ τ2 T q2 dp a b s
theorem Pg.begun0 {Q : Option (Tr × Int)} (S : Pg σ τ q dp a b) (ha : 0 ≤ a) (hb : 0 ≤ b) (h21 : 1 ≤ σ 58 21) (h : DnM Q (aft τ s g)) : SbM Q σ τ dp a b s g := by
  obtain ⟨f, s24, s3, s3b, s21, s22, k1, k2, k3, s7, s14, s70⟩ := S
  obtain ⟨a1, a2, a3, a4, a5, a6, a7, a8⟩ := aft_at (σ := τ) (s := s) (g := g)
  have fa := f.tr (frM.aft (s := s) (g := g))
  cases Q with
  | none => exact h
  | some t =>
    obtain ⟨T, q2⟩ := t
    obtain ⟨τ2, sm, f2, t24, t3, t3b, t21, t22, g1, g2, g3, t7, t14, tc⟩ := h
    rw [a1 7 (by decide), s7] at t7 tc g2
    rw [a1 14 (by decide), s14] at t14 tc g3
    rw [a1 3 (by decide), s3, fa.len] at t3b
    rw [a2, s21] at t21 g1
    rw [a1 22 (by decide), s22] at t22
    have e21 : σ 58 21 + 1 - 1 = σ 58 21 := by omega
    rw [e21] at t21 g1
    have gk := g1 (σ 58 21 - 1) (by omega) (by omega)
    obtain ⟨b1, b2, b3, b4⟩ := a7 (σ 58 21 - 1) (by omega)
    rw [if_pos (by omega)] at b2
    have ad : kpD (σ 58 7 + a) τ (aft τ s g) := fun x _ _ => by
      rw [a8 60 (by decide) (by decide) (by decide) (by decide) (by decide), a8 61 (by decide) (by decide) (by decide) (by decide) (by decide), a8 62 (by decide) (by decide) (by decide) (by decide) (by decide), a8 74 (by decide) (by decide) (by decide) (by decide) (by decide)]
      exact ⟨rfl, rfl, rfl, rfl⟩
    have as : kpS (σ 58 14 + b) τ (aft τ s g) := fun x _ _ => by
      rw [a8 66 (by decide) (by decide) (by decide) (by decide) (by decide), a8 67 (by decide) (by decide) (by decide) (by decide) (by decide)]
      exact ⟨rfl, rfl⟩
    have ag : kpG (σ 58 21 - 1) τ (aft τ s g) := fun x _ h1 => by
      obtain ⟨c1, c2, c3, c4⟩ := a7 x (by omega)
      rw [if_neg (by omega)] at c2
      exact ⟨c1, c2, c3, c4⟩
    have kD := ad.tr g2 (Int.le_refl _)
    have kS := as.tr g3 (Int.le_refl _)
    refine ⟨τ2, sm, ⟨fa.tr f2, t24, t3, ⟨by omega, by omega⟩, t21, t22, ?_, ?_, ?_, by omega, by omega, ?_⟩, t3b.2, by omega, ⟨?_, ?_, ?_⟩, tc, kD, kS⟩
    · exact (k1.tr ag (Int.le_refl _)).tr g1 (by omega)
    · exact k2.tr kD (by omega)
    · exact k3.tr kS (by omega)
    · rw [gk.1, b1, s70]
    · rw [gk.2.1, b2]
    · rw [gk.2.2.1, b3]
    · rw [gk.2.2.2, b4]
theorem Pg.begun (S : Pg σ τ q dp a b) (ha : 0 ≤ a) (hb : 0 ≤ b) (h21 : 1 ≤ σ 58 21) (gi : GI (aft τ s g) g) {D : Int} (hD : σ 58 22 + dp = D) (G : GSp D g P) : SbM (P (mch σ) q) σ τ dp a b s g := by
  refine S.begun0 ha hb h21 ?_
  have h := G _ gi (by rw [(aft_at (σ := τ) (s := s) (g := g)).1 22 (by decide), S.2.2.2.2.2.1]; exact hD)
  rwa [(S.1.tr (frM.aft (s := s) (g := g))).ch, (aft_at (σ := τ) (s := s) (g := g)).1 3 (by decide), S.2.2.1] at h
/-- the goal is taken away -/
theorem Pg.pop {T : Tr} (S : Pg σ τ q 0 (ln T) (sn T)) (C : isC τ T (σ 58 7) (σ 58 14)) : Dn σ (mup τ 58 21 (τ 58 21 - 1)) T q := by
  obtain ⟨f, s24, s3, s3b, s21, s22, k1, k2, k3, s7, s14, s70⟩ := S
  have o : ∀ {i : Nat}, i ≠ 58 → (mup τ 58 21 (τ 58 21 - 1)) i = τ i := fun h => mup_obj h
  refine ⟨f.tr (frM.m8 (by unfold mfP; omega)), (mup_nk (by decide)).trans s24, (mup_nk (by decide)).trans s3, s3b, ?_, ?_, ?_, ?_, ?_, (mup_nk (by decide)).trans s7, (mup_nk (by decide)).trans s14, ?_⟩
  · rw [mup_eq, s21]
  · rw [mup_nk (by decide), s22]; omega
  · intro x h0 h1; rw [o (by decide), o (by decide), o (by decide), o (by decide)]; exact k1 x h0 h1
  · intro x h0 h1; rw [o (by decide), o (by decide), o (by decide), o (by decide)]; exact k2 x h0 h1
  · intro x h0 h1; rw [o (by decide), o (by decide)]; exact k3 x h0 h1
  · exact isC.mv (fun x _ _ => by unfold Da; rw [o (by decide), o (by decide), o (by decide), o (by decide)]; exact ⟨rfl, fun _ => rfl, rfl, rfl⟩) (fun x _ _ => by rw [o (by decide), o (by decide)]; exact ⟨rfl, rfl⟩) C
theorem Pg.popD {T : Tr} (S : Pg σ τ q 1 (ln T) (sn T)) (C : isC τ T (σ 58 7) (σ 58 14)) : Dn σ (eDp τ) T q := by
  obtain ⟨f, s24, s3, s3b, s21, s22, k1, k2, k3, s7, s14, s70⟩ := S
  have o : ∀ {i : Nat}, i ≠ 58 → (eDp τ) i = τ i := fun h => (mup_obj h).trans (mup_obj h)
  have u : ∀ {k : Int}, k ≠ 21 → k ≠ 22 → (eDp τ) 58 k = τ 58 k := fun h h' => (mup_nk h).trans (mup_nk h')
  refine ⟨f.tr frM.eDp, (u (by decide) (by decide)).trans s24, (u (by decide) (by decide)).trans s3, s3b, ?_, ?_, ?_, ?_, ?_, (u (by decide) (by decide)).trans s7, (u (by decide) (by decide)).trans s14, ?_⟩
  · unfold eDp; rw [mup_eq, s21]
  · unfold eDp; rw [mup_nk (by decide), mup_eq, s22]; omega
  · intro x h0 h1; rw [o (by decide), o (by decide), o (by decide), o (by decide)]; exact k1 x h0 h1
  · intro x h0 h1; rw [o (by decide), o (by decide), o (by decide), o (by decide)]; exact k2 x h0 h1
  · intro x h0 h1; rw [o (by decide), o (by decide)]; exact k3 x h0 h1
  · exact isC.mv (fun x _ _ => by unfold Da; rw [o (by decide), o (by decide), o (by decide), o (by decide)]; exact ⟨rfl, fun _ => rfl, rfl, rfl⟩) (fun x _ _ => by rw [o (by decide), o (by decide)]; exact ⟨rfl, rfl⟩) C
/-- the place is moved -/
theorem Pg.Z {q' : Int} (S : Pg σ τ q dp a b) (h : σ 58 3 ≤ q' ∧ q' ≤ σ 58 2) : Pg σ (Zm τ q' 0) q' dp a b := by
  obtain ⟨f, s24, s3, s3b, s21, s22, k1, k2, k3, s7, s14, s70⟩ := S
  refine ⟨f.tr frM.Z, Zm_bad, Zm_at, h, (Zm_f (by decide) (by decide)).trans s21, (Zm_f (by decide) (by decide)).trans s22, ?_, ?_, ?_, (Zm_f (by decide) (by decide)).trans s7, (Zm_f (by decide) (by decide)).trans s14, ?_⟩
  · intro x h0 h1; rw [Zm_o (by decide), Zm_o (by decide), Zm_o (by decide), Zm_o (by decide)]; exact k1 x h0 h1
  · intro x h0 h1; rw [Zm_o (by decide), Zm_o (by decide), Zm_o (by decide), Zm_o (by decide)]; exact k2 x h0 h1
  · intro x h0 h1; rw [Zm_o (by decide), Zm_o (by decide)]; exact k3 x h0 h1
  · rw [Zm_o (by decide)]; exact s70
theorem isC.Z {T : Tr} {u v b : Int} (C : isC τ T u v) : isC (Zm τ q b) T u v :=
  isC.mv (fun x _ _ => by unfold Da; rw [Zm_o (by decide), Zm_o (by decide), Zm_o (by decide), Zm_o (by decide)]; exact ⟨rfl, fun _ => rfl, rfl, rfl⟩) (fun x _ _ => by rw [Zm_o (by decide), Zm_o (by decide)]; exact ⟨rfl, rfl⟩) C
/-- a draft more -/
theorem dft_at {x y z : Int} : (∀ k, k ≠ 7 → (dft τ x y z) 58 k = τ 58 k) ∧ (dft τ x y z) 58 7 = τ 58 7 + 1 ∧ cell (dft τ x y z) (τ 58 7) x y z ∧ (∀ k, k ≠ τ 58 7 → (dft τ x y z) 60 k = τ 60 k ∧ (dft τ x y z) 61 k = τ 61 k ∧ (dft τ x y z) 62 k = τ 62 k) ∧ (∀ i, i ≠ 58 → i ≠ 60 → i ≠ 61 → i ≠ 62 → (dft τ x y z) i = τ i) := by
  unfold dft
  refine ⟨fun k hk => ?_, mup_eq, ⟨?_, ?_, ?_⟩, fun k hk => ⟨?_, ?_, ?_⟩, fun i h1 h2 h3 h4 => ?_⟩
  · rw [mup_nk hk, mup_ne (by decide), mup_ne (by decide), mup_ne (by decide)]
  · rw [mup_ne (by decide), mup_ne (by decide), mup_ne (by decide), mup_eq]
  · rw [mup_ne (by decide), mup_ne (by decide), mup_eq]
  · rw [mup_ne (by decide), mup_eq]
  · rw [mup_ne (by decide), mup_ne (by decide), mup_ne (by decide), mup_nk hk]
  · rw [mup_ne (by decide), mup_ne (by decide), mup_nk hk, mup_ne (by decide)]
  · rw [mup_ne (by decide), mup_nk hk, mup_ne (by decide), mup_ne (by decide)]
  · rw [mup_obj h1, mup_obj h4, mup_obj h3, mup_obj h2]
theorem dft_kD {x y z n : Int} (h : n ≤ τ 58 7) : kpD n τ (dft τ x y z) := fun k h0 h1 => by
  obtain ⟨-, -, -, d1, d2⟩ := dft_at (τ := τ) (x := x) (y := y) (z := z)
  obtain ⟨e1, e2, e3⟩ := d1 k (by omega)
  exact ⟨e1, e2, e3, by rw [d2 74 (by decide) (by decide) (by decide) (by decide)]⟩
theorem dft_kS {x y z n : Int} : kpS n τ (dft τ x y z) := fun k h0 h1 => by
  obtain ⟨-, -, -, d1, d2⟩ := dft_at (τ := τ) (x := x) (y := y) (z := z)
  rw [d2 66 (by decide) (by decide) (by decide) (by decide), d2 67 (by decide) (by decide) (by decide) (by decide)]; exact ⟨rfl, rfl⟩
theorem Pg.put {x y z : Int} (S : Pg σ τ q dp a b) (ha : 0 ≤ a) : Pg σ (dft τ x y z) q dp (a + 1) b := by
  obtain ⟨f, s24, s3, s3b, s21, s22, k1, k2, k3, s7, s14, s70⟩ := S
  obtain ⟨d0, d7, -, d1, d2⟩ := dft_at (τ := τ) (x := x) (y := y) (z := z)
  refine ⟨f.tr frM.dft, (d0 24 (by decide)).trans s24, (d0 3 (by decide)).trans s3, s3b, (d0 21 (by decide)).trans s21, (d0 22 (by decide)).trans s22, ?_, k2.tr (dft_kD (by omega)) (Int.le_refl _), k3.tr dft_kS (Int.le_refl _), by omega, (d0 14 (by decide)).trans s14, ?_⟩
  · intro w h0 h1; rw [d2 70 (by decide) (by decide) (by decide) (by decide), d2 71 (by decide) (by decide) (by decide) (by decide), d2 72 (by decide) (by decide) (by decide) (by decide), d2 73 (by decide) (by decide) (by decide) (by decide)]; exact k1 w h0 h1
  · rw [d2 70 (by decide) (by decide) (by decide) (by decide)]; exact s70
end SUB
