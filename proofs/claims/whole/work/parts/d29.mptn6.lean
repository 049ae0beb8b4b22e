/-! The model's patternTypes: a pair. -/
section MP6
variable {σ : Mem} {p x s l z q : Int} {M : Int → Prop} {A B : Tr}
theorem gd_l : ∀ (L1 L2 : List Int) (i : Nat), i < L1.length → (L1 ++ L2).getD i 0 = L1.getD i 0 ∧ L1.getD i 0 ∈ L1
  | [], _, i, h => absurd h (Nat.not_lt_zero i)
  | a :: l, L2, 0, _ => ⟨rfl, List.mem_cons_self⟩
  | a :: l, L2, i + 1, h => by
    have q := gd_l l L2 i (by rw [List.length_cons] at h; omega)
    exact ⟨q.1, List.mem_cons_of_mem _ q.2⟩
theorem gd_r : ∀ (L1 L2 : List Int) (i : Nat), L1.length ≤ i → (L1 ++ L2).getD i 0 = L2.getD (i - L1.length) 0
  | [], _, _, _ => rfl
  | a :: l, L2, 0, h => absurd h (by rw [List.length_cons]; omega)
  | a :: l, L2, i + 1, h => by
    have q := gd_r l L2 i (by rw [List.length_cons] at h; omega)
    show (l ++ L2).getD i 0 = L2.getD (i + 1 - (l.length + 1)) 0
    rw [Nat.add_sub_add_right]; exact q
theorem PTt_cons (tA : PTt A) (tB : PTt B) (nd' : (bnd A ++ bnd B).Nodup) : PTt (nd 10 0 A B nl) := by
  intro d p x s σ M H c hM lM hl r
  obtain ⟨r1, r2, r3, r4, r5, r6, r7, r8⟩ := r
  have pn1 : pn (nd 10 0 A B nl) = pn A + pn B + 1 := rfl
  have bn : bnd (nd 10 0 A B nl) = bnd A ++ bnd B := rfl
  have gA := pn_ge (T := A)
  have gB := pn_ge (T := B)
  rw [pn1] at r2 r3 r4 r5 r8
  rw [bn, List.length_append] at r7
  obtain ⟨c1, cA, cB⟩ : sg σ s 0 0 ∧ isP σ A (s + 1) ∧ isP σ B (s + 1 + pn A) := c
  have il := hM _ hl
  have hc := H.2.1
  have il : 0 ≤ σ 83 (x - 1) ∧ σ 83 (x - 1) < σ 58 35 := il
  obtain ⟨H1, e1, fp1, k35, k43, k85, k30, k44⟩ := plM_mt (l := σ 83 (x - 1)) (x := x) H (by omega)
  have lo := fun n (h0 : 0 ≤ n) (h1 : n < σ 58 35) (y : lO (mS σ) 0 n) => plM_lo (l := σ 83 (x - 1)) H (by omega) h0 h1 y
  obtain ⟨m, U, F, out⟩ := s_munify (d := d) (a := σ 83 (x - 1)) (b := σ 58 35 + 1) H1 (k44.trans r6) (by rw [k35]; omega) (by rw [k35]; omega) (lo _ il.1 il.2 (lM _ hl)).1 (lo _ il.1 il.2 (lM _ hl)).2
  have fp : FP σ m x := fp1.tr F.fk.fp
  have g43 : m 58 43 = σ 58 43 + 1 := (F.2 43 (by decide) (by decide) (by decide)).trans k43
  have g85 : m 85 = (ptM σ (σ 83 (x - 1))) 85 := (F.1 85 (by decide) (by decide) (by decide) (by decide)).trans k85
  have g30 : m 58 30 = σ 58 30 := (F.2 30 (by decide) (by decide) (by decide)).trans k30
  have R : pRm σ p x s := ⟨r1, by omega, by omega, by omega, by omega, r6⟩
  have Q0 := fun {α : Int → GT} {ρ : Int → GT} no V => QR_cons_no (A := A) (B := B) (M := M) (h := 0) (l := σ 83 (x - 1)) (α := α) (ρ := ρ) H.1 (by show 0 ≤ σ 58 35; omega) (by decide) hM hl rfl e1 no V
  rcases out with ⟨o1, o2, o3, o4, o5⟩ | ⟨o1, o2⟩
  · -- the list stands
    generalize h2 : mup (mup m 83 (x - 1) (σ 58 35 + 1)) 83 x (σ 58 35) = σ2
    have ob2 : ∀ i, i ≠ 83 → σ2 i = m i := fun i h => by rw [← h2, mup_obj h, mup_obj h]
    obtain ⟨H2, e2⟩ : MT σ2 ∧ mS σ2 = mS m := o2.cg (ob2 79 (by decide)) (ob2 80 (by decide)) (ob2 81 (by decide)) (ob2 82 (by decide)) (by rw [ob2 58 (by decide)])
    have v1 : σ2 83 x = σ 58 35 := by rw [← h2, mup_eq]
    have v0 : σ2 83 (x - 1) = σ 58 35 + 1 := by rw [← h2, mup_nk (by omega), mup_eq]
    have fpm : FP m σ2 x := ⟨fun i _ _ _ _ _ _ _ _ h9 _ _ _ => ob2 i h9, fun k _ _ _ _ _ _ _ => by rw [ob2 58 (by decide)], fun i h => by rw [← h2, mup_nk (by omega), mup_nk (by omega)], ⟨by rw [ob2 58 (by decide)]; omega, fun i _ => by rw [ob2 85 (by decide)]⟩, by rw [ob2 58 (by decide)]; omega, fun i _ => by rw [ob2 76 (by decide), ob2 77 (by decide), ob2 78 (by decide)]; exact ⟨rfl, rfl, rfl⟩⟩
    have fp2 : FP σ σ2 x := fp.tr fpm
    have s43 : σ2 58 43 = σ 58 43 + 1 := by rw [ob2 58 (by decide)]; exact g43
    have s30 : σ2 58 30 = σ 58 30 := by rw [ob2 58 (by decide)]; exact g30
    have s35 : σ2 58 35 = σ 58 35 + 2 := by rw [ob2 58 (by decide), o4, k35]
    have s44 : σ2 58 44 = 0 := by rw [ob2 58 (by decide)]; exact o1
    have hM2 : inC (mS σ2) (fun m => (M m ∨ m = σ 58 35) ∨ m = σ 58 35 + 1) := fun n q => by
      show 0 ≤ n ∧ n < σ2 58 35
      rcases q with (q | q) | q
      · have z : 0 ≤ n ∧ n < σ 58 35 := hM n q
        omega
      · omega
      · omega
    have kl : ((mS (plM σ (σ 83 (x - 1)))).1 (σ 58 35 + 1)) = (4, σ 58 35, 0) := by rw [e1]; exact ad_c
    have lM2 : ∀ n, ((M n ∨ n = σ 58 35) ∨ n = σ 58 35 + 1) → lO (mS σ2) 0 n := fun n q => by
      rw [e2]
      have cc : (mS (plM σ (σ 83 (x - 1)))).2.1 = σ 58 35 + 2 := k35
      have l1 := (lo _ il.1 il.2 (lM _ hl)).2
      rcases q with (q | q) | q
      · have z : 0 ≤ n ∧ n < σ 58 35 := hM n q
        exact (o3 0).2.1.2.2.2.2.1 0 n z.1 (by omega) (lo n z.1 z.2 (lM n q)).1
      · rw [q]
        exact (o3 0).2.1.2.2.2.2.1 0 _ (by omega) (by omega) (fun u o oc => l1 u o (Oc.p4 (by rw [kl]) (by rw [kl]; exact oc)))
      · rw [q]
        exact (o3 0).2.1.2.2.2.2.1 0 _ (by omega) (by omega) l1
    have sm : ∀ σ', FP σ σ' x → ∀ {T : Tr} {y : Int}, isP σ T y → isP σ' T y := fun σ' f {T y} => isP.mv (fun n _ _ => by rw [f.1 66 (by decide) (by decide) (by decide) (by decide) (by decide) (by decide) (by decide) (by decide) (by decide) (by decide) (by decide) (by decide), f.1 67 (by decide) (by decide) (by decide) (by decide) (by decide) (by decide) (by decide) (by decide) (by decide) (by decide) (by decide) (by decide)]; exact ⟨rfl, rfl⟩)
    have o62 : ∀ σ', FP σ σ' x → σ' 62 = σ 62 := fun σ' f => f.1 62 (by decide) (by decide) (by decide) (by decide) (by decide) (by decide) (by decide) (by decide) (by decide) (by decide) (by decide) (by decide)
    have start : ∀ o s', Lb (d + 11) yMo_patternTypes 25 [(0, .ref 58), (1, vi p), (3, vi (x + 1)), (4, vi (s + 1))] [] σ2 o s' → Lb (d + 11) yMo_patternTypes 25 [(0, .ref 58), (1, vi p), (3, vi x), (4, vi s)] [] σ o s' := fun o s' k => pt_w (d := d) R ⟨by omega, by omega⟩ (Or.inr (Or.inr (Or.inr (Or.inr ⟨c1.1, H, by omega, m, U, by rw [h2]; exact k⟩))))
    have ex : x + 1 - 1 = x := by omega
    obtain ⟨σ3, f3, out3⟩ := tA d p (x + 1) (s + 1) σ2 _ H2 (sm σ2 fp2 cA) hM2 lM2 (by rw [ex, v1]; exact Or.inl (Or.inr rfl)) ⟨r1, by omega, by omega, by rw [o62 σ2 fp2]; omega, by omega, s44, by omega, by omega⟩
    have fp3 : FP σ σ3 x := fp2.tr (f3.lo (by omega))
    unfold PTo at out3
    rw [ex, v1] at out3
    rcases out3 with ⟨a1, a0, a2, a3⟩ | ⟨a1, a2, a3, a4, a5, na, a6, a7⟩
    · refine ⟨σ3, fp3, Or.inl ⟨a1, ⟨by rw [pn1]; omega, by rw [bn, List.length_append]; omega⟩, start _ _ a2, fun α ρ V => Q0 (fun ρ' V' eq _ qa _ => ?_) V⟩⟩
      exact a3 α ρ' (by rw [e2]; exact (o5 ρ').mpr ⟨V', eq⟩) qa
    · have v3 : σ3 83 (x - 1) = σ 58 35 + 1 := (f3.2.2.1 (x - 1) (by omega)).trans v0
      have hM3 : inC (mS σ3) (fun m => (M m ∨ m = σ 58 35) ∨ m = σ 58 35 + 1) := fun n q => by
        have z := hM2 n q
        have := a7.1.2.1.1
        omega
      have lM3 : ∀ n, ((M n ∨ n = σ 58 35) ∨ n = σ 58 35 + 1) → lO (mS σ3) 0 n := fun n q => a7.1.2.1.2.2.2.2.1 0 n (hM2 n q).1 (hM2 n q).2 (lM2 n q)
      have n30 := a6.1
      obtain ⟨σ4, f4, out4⟩ := tB d p x (s + 1 + pn A) σ3 _ a2 (sm σ3 fp3 cB) hM3 lM3 (by rw [v3]; exact Or.inr rfl) ⟨r1, by omega, by omega, by rw [o62 σ3 fp3]; omega, by omega, a1, by omega, by omega⟩
      have fp4 : FP σ σ4 x := fp3.tr f4
      unfold PTo at out4
      rw [v3] at out4
      rcases out4 with ⟨b1, b0, b2, b3⟩ | ⟨b1, b2, b3, b4, b5, nb, b6, b7⟩
      · refine ⟨σ4, fp4, Or.inl ⟨b1, ⟨by rw [pn1]; omega, by rw [bn, List.length_append]; omega⟩, start _ _ (a5 _ _ b2), fun α ρ V => Q0 (fun ρ' V' eq _ qa qb => ?_) V⟩⟩
        obtain ⟨ρ3, W, ol, -⟩ := a7.2.2.2.2 true α ρ' (by rw [e2]; exact (o5 ρ').mpr ⟨V', eq⟩) qa
        refine b3 α ρ3 W ?_
        rw [ol _ (by omega) (by show σ 58 35 + 1 < σ2 58 35; omega)]; exact qb
      · have nuA : ∀ z ∈ bnd A, (fun z => if z ∈ bnd A then na z else nb z) z = na z := fun z m => if_pos m
        have nuB : ∀ z ∈ bnd B, (fun z => if z ∈ bnd A then na z else nb z) z = nb z := fun z m => if_neg (fun m' => (List.nodup_append.mp nd').2.2 z m' z m rfl)
        refine ⟨σ4, fp4, Or.inr ⟨b1, b2, by rw [pn1]; omega, by rw [pn1]; omega, fun o s' k => start o s' (a5 o s' (b5 o s' (by rw [show s + 1 + pn A + pn B = s + (pn A + pn B + 1) by omega]; rw [pn1] at k; exact k))), fun z => if z ∈ bnd A then na z else nb z, ⟨?_, fun i hi => ?_⟩, ?_⟩⟩
        · rw [b6.1, n30, s30, bn, List.length_append]; omega
        · rw [bn] at hi ⊢
          rw [List.length_append] at hi
          by_cases h : i < (bnd A).length
          · have q := a6.2 i h
            have w := f4.2.2.2.2.2 (σ 58 30 + i) (by omega)
            rw [s30] at q
            have eg : (bnd A ++ bnd B).getD i 0 = (bnd A).getD i 0 := (gd_l _ _ i h).1
            have mi : (bnd A).getD i 0 ∈ bnd A := (gd_l _ [] i h).2
            rw [eg, w.1, w.2.1, w.2.2, nuA _ mi]; exact q
          · have hB : i - (bnd A).length < (bnd B).length := by omega
            have q := b6.2 (i - (bnd A).length) hB
            have ei : σ3 58 30 + ((i - (bnd A).length : Nat) : Int) = σ 58 30 + i := by omega
            rw [ei] at q
            have eg : (bnd A ++ bnd B).getD i 0 = (bnd B).getD (i - (bnd A).length) 0 := gd_r _ _ _ (by omega)
            have mi : (bnd B).getD (i - (bnd A).length) 0 ∈ bnd B := (gd_l _ [] _ hB).2
            rw [eg, nuB _ mi]; exact q
        · have Q := QR_cons (M := M) (h := 0) (l := σ 83 (x - 1)) (S3 := mS σ2) H.1 (by show 0 ≤ σ 58 35; omega) (by decide) hM hl rfl e1 (by rw [e2]; exact o3 0) (by rw [e2]; exact o5) (a7.cg nuA) (b7.cg nuB)
          have e : (fun y => (PsA σ2 σ3 y ∨ PsA σ3 σ4 y) ∨ y = σ 83 (x - 1)) = PsA σ σ4 := by
            have w2 : ∀ i, i < σ2 58 43 → σ3 85 i = σ2 85 i := f3.2.2.2.1.2
            have w3 : ∀ i, i < σ3 58 43 → σ4 85 i = σ3 85 i := f4.2.2.2.1.2
            have t0 : σ2 85 (σ 58 43) = σ 83 (x - 1) := by rw [ob2 85 (by decide), g85, ptM_85, if_pos rfl]
            funext y
            refine propext ⟨fun h => ?_, fun ⟨i, h1, h2', h3⟩ => ?_⟩
            · rcases h with (⟨i, h1, h2', h3⟩ | ⟨i, h1, h2', h3⟩) | h
              · exact ⟨i, by omega, by omega, by rw [h3, w3 i h2']⟩
              · exact ⟨i, by omega, h2', h3⟩
              · exact ⟨σ 58 43, Int.le_refl _, by omega, by rw [h, w3 _ (by omega), w2 _ (by omega), t0]⟩
            · by_cases q1 : i < σ2 58 43
              · right
                rw [h3, w3 i (by omega), w2 i q1, show i = σ 58 43 by omega, t0]
              · left
                by_cases q2 : i < σ3 58 43
                · exact Or.inl ⟨i, by omega, q2, by rw [h3, w3 i q2]⟩
                · exact Or.inr ⟨i, by omega, h2', h3⟩
          rw [← e]; exact Q
  · have fpm : FP m (mup (mup m 83 (x - 1) (σ 58 35 + 1)) 83 x (σ 58 35)) x := ⟨fun i _ _ _ _ _ _ _ _ h9 _ _ _ => by rw [mup_obj h9, mup_obj h9], fun k _ _ _ _ _ _ _ => by rw [mup_ne (by decide), mup_ne (by decide)], fun i h => by rw [mup_nk (by omega), mup_nk (by omega)], ⟨by rw [mup_ne (by decide), mup_ne (by decide)]; omega, fun i _ => by rw [mup_ne (by decide), mup_ne (by decide)]⟩, by rw [mup_ne (by decide), mup_ne (by decide)]; omega, fun i _ => by rw [mup_ne (by decide), mup_ne (by decide), mup_ne (by decide), mup_ne (by decide), mup_ne (by decide), mup_ne (by decide)]; exact ⟨rfl, rfl, rfl⟩⟩
    have k44' : (mup (mup m 83 (x - 1) (σ 58 35 + 1)) 83 x (σ 58 35)) 58 44 = 1 := by rw [mup_ne (by decide), mup_ne (by decide)]; exact o1
    have il2 := pt_ill (d := d) (x := x + 1) (s := s + 1) r1 ⟨by omega, by omega⟩ ⟨by omega, by omega⟩ (σ := mup (mup m 83 (x - 1) (σ 58 35 + 1)) 83 x (σ 58 35)) (by rw [k44']; decide)
    refine ⟨_, fp.tr fpm, Or.inl ⟨k44', ⟨by rw [mup_ne (by decide), mup_ne (by decide), pn1]; omega, by rw [mup_ne (by decide), mup_ne (by decide), bn, List.length_append]; omega⟩, pt_w (d := d) R ⟨by omega, by omega⟩ (Or.inr (Or.inr (Or.inr (Or.inr ⟨c1.1, H, by omega, m, U, il2⟩)))), fun α ρ V => ?_⟩⟩
    exact Q0 (fun ρ' V' eq sm _ _ => o2 ρ' V' eq sm) V
end MP6
