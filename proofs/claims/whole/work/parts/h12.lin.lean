/-! Where nothing that weighs is ever bound, each node is executed once at most. -/
/-- the weight of all nodes, those within functions too, but not of what stands behind a pattern of 17 names or more -/
def fsW (w : Tr → Int) : Tr → Int
  | .tag k (.nest z (.append A (.append B C))) => w (nd k z A B C) + ((if k = 17 then 0 else fsW w A) + ((if k = 17 ∧ 17 ≤ z then 0 else fsW w B) + fsW w C))
  | _ => 0
/-- the weight of a function's body -/
def lmW (w : Tr → Int) : Tr → Int
  | .tag _ (.nest _ (.append A _)) => fsW w A
  | _ => 0
/-- what a value, or what is bound, can still weigh -/
def vWt (w : Tr → Int) : Std.Format → Int
  | .append a b => vWt w a + vWt w b
  | .nest _ (.append v ρ) => vWt w v + vWt w ρ
  | .tag 5 (.append lam ρ) => lmW w lam + vWt w ρ
  | .tag 6 (.nest _ (.append lam ρ)) => lmW w lam + vWt w ρ
  | _ => 0
def vsW (w : Tr → Int) : List Va → Int
  | [] => 0
  | v :: vs => vWt w v + vsW w vs
def pfI (w : Tr → Int) : Nat × Tr → Int
  | (0, T) => fsW w T
  | (1, .tag k (.nest z (.append A (.append B C)))) => w (nd k z A B C) + (if 13 ≤ k then fsW w B + fsW w C else 0)
  | _ => 0
def pfW (w : Tr → Int) : Wl → Int
  | [] => 0
  | i :: l => pfI w i + pfW w l
def pfF (w : Tr → Int) : List (Wl × En) → Int
  | [] => 0
  | f :: fs => pfW w f.1 + pfF w fs
/-- what is bound around a function weighs nothing -/
def ezV (w : Tr → Int) : Va → Prop
  | .append a b => ezV w a ∧ ezV w b
  | .tag 5 (.append _ ρ) => vWt w ρ = 0
  | .tag 6 (.nest _ (.append lam ρ)) => lmW w lam + vWt w ρ = 0
  | _ => True
/-- what is bound weighs nothing -/
def bz0 (w : Tr → Int) (st : AS) : Prop := vWt w st.2.1 = 0 ∧ (∀ f ∈ st.2.2.2, vWt w f.2 = 0) ∧ ∀ v ∈ st.2.2.1, ezV w v
/-- what is bound in this step weighs nothing -/
def bzN (w : Tr → Int) : AS → Prop
  | ((1, .tag k _) :: _, _, v :: _, _) => (k = 11 ∨ k = 13 ∨ k = 14 ∨ k = 16) → vWt w v = 0
  | _ => True
section LIN
variable {w : Tr → Int} {T : Tr}
theorem fsW_ge (hw : ∀ N, 0 ≤ w N) : ∀ {T : Tr}, 0 ≤ fsW w T := by
  intro T
  fun_induction fsW w T with
  | case1 k z A B C iA iB iC =>
    have := hw (nd k z A B C)
    split <;> split <;> omega
  | case2 => exact Int.le_refl _
theorem lmW_ge (hw : ∀ N, 0 ≤ w N) {L : Tr} : 0 ≤ lmW w L := by
  unfold lmW
  split
  · exact fsW_ge hw
  · exact Int.le_refl _
theorem vWt_ge (hw : ∀ N, 0 ≤ w N) : ∀ {v : Std.Format}, 0 ≤ vWt w v := by
  intro v
  fun_induction vWt w v with
  | case1 => omega
  | case2 => omega
  | case3 lam ρ ih => have := lmW_ge hw (L := lam); omega
  | case4 z lam ρ ih => have := lmW_ge hw (L := lam); omega
  | case5 => exact Int.le_refl _
theorem ez_of (hw : ∀ N, 0 ≤ w N) : ∀ {v : Va}, vWt w v = 0 → ezV w v := by
  intro v
  fun_induction ezV w v with
  | case1 a b ia ib =>
    intro h
    have h : vWt w a + vWt w b = 0 := h
    have := vWt_ge hw (v := a)
    have := vWt_ge hw (v := b)
    exact ⟨ia (by omega), ib (by omega)⟩
  | case2 lam ρ =>
    intro h
    have h : lmW w lam + vWt w ρ = 0 := h
    have := vWt_ge hw (v := ρ)
    have := lmW_ge hw (L := lam)
    omega
  | case3 => intro h; exact h
  | case4 => intro _; trivial
theorem vWt_lkp (hw : ∀ N, 0 ≤ w N) {z : Int} : ∀ {ρ : En}, vWt w (lkp z ρ) ≤ vWt w ρ := by
  intro ρ
  fun_induction lkp z ρ with
  | case1 v ρ => have := vWt_ge hw (v := ρ); show _ ≤ vWt w v + vWt w ρ; omega
  | case2 z' v ρ h ih => have := vWt_ge hw (v := v); show _ ≤ vWt w _ + vWt w _; omega
  | case3 => exact vWt_ge hw
theorem vWt_drp (hw : ∀ N, 0 ≤ w N) : ∀ {n : Nat} {ρ : En}, vWt w (drp n ρ) ≤ vWt w ρ := by
  intro n ρ
  fun_induction drp n ρ with
  | case1 => omega
  | case2 n z v ρ ih => have := vWt_ge hw (v := v); show _ ≤ vWt w _ + vWt w _; omega
  | case3 => omega
theorem vWt_fit (hw : ∀ N, 0 ≤ w N) : ∀ {P : Tr} {v : Va} {ρ ρ' : En}, fitE P v ρ = some ρ' → vWt w ρ' ≤ vWt w v + vWt w ρ := by
  intro P v ρ
  fun_induction fitE P v ρ with
  | case1 | case3 | case5 => intro ρ' h; cases h; exact Int.le_add_of_nonneg_left (vWt_ge hw)
  | case2 | case4 | case6 => intro ρ' h; cases h
  | case7 => intro ρ' h; cases h; exact Int.le_refl _
  | case8 => intro ρ' h; cases h; exact Int.le_add_of_nonneg_left (vWt_ge hw)
  | case9 =>
    rename_i h1 i1 i2
    intro ρ' h
    have x := i1 h1
    have y := i2 h
    show _ ≤ (vWt w _ + vWt w _) + _
    omega
  | case10 => intro ρ' h; cases h
  | case11 => intro ρ' h; cases h
  | case12 => intro ρ' h; cases h
  | case13 => intro ρ' h; cases h
theorem fsW_nd {k : Nat} {z : Int} {A B C : Tr} (h : k ≠ 17) : fsW w (nd k z A B C) = w (nd k z A B C) + (fsW w A + (fsW w B + fsW w C)) := by
  show w (nd k z A B C) + ((if k = 17 then 0 else fsW w A) + ((if k = 17 ∧ 17 ≤ z then 0 else fsW w B) + fsW w C)) = _
  rw [if_neg h, if_neg (fun q => h q.1)]
theorem fsW_17 (hw : ∀ N, 0 ≤ w N) {z : Int} {A B C : Tr} : fsW w C ≤ fsW w (nd 17 z A B C) ∧ (z < 17 → fsW w B ≤ fsW w (nd 17 z A B C)) := by
  have e : fsW w (nd 17 z A B C) = w (nd 17 z A B C) + ((if 17 = 17 then 0 else fsW w A) + ((if 17 = 17 ∧ 17 ≤ z then 0 else fsW w B) + fsW w C)) := rfl
  rw [if_pos rfl] at e
  have := hw (nd 17 z A B C)
  have := fsW_ge hw (T := B)
  have := fsW_ge hw (T := C)
  rw [e]
  refine ⟨by split <;> omega, fun h => ?_⟩
  rw [if_neg (by omega)]
  omega
theorem br_l (hw : ∀ N, 0 ≤ w N) : ∀ {B : Tr} {v : Va} {ρ : En} {E br : Tr} {ρ' : En}, brF B v ρ = some (E, br, ρ') → numB br ≤ 16 → fsW w E ≤ fsW w B ∧ vWt w ρ' ≤ vWt w v + vWt w ρ := by
  intro B v ρ
  fun_induction brF B v ρ with
  | case1 z P E C v ρ ρ1 h =>
    intro E' br ρ' e hb
    cases e
    have hb : z.toNat ≤ 16 := hb
    exact ⟨(fsW_17 hw (z := z) (A := P) (B := E) (C := C)).2 (by omega), vWt_fit hw h⟩
  | case2 z P E C v ρ h ih =>
    intro E' br ρ' e hb
    obtain ⟨r1, r2⟩ := ih e hb
    have := (fsW_17 hw (z := z) (A := P) (B := E) (C := C)).1
    refine ⟨?_, r2⟩
    show fsW w E' ≤ fsW w (nd 17 z P E C)
    omega
  | case3 => intro E' br ρ' e; cases e
theorem ln_mv (hw : ∀ N, 0 ≤ w N) {l l' : Wl} {ρ ρ' : En} {vs vs' : List Va} {fs fs' : List (Wl × En)} (h : mvA (l, ρ, vs, fs) = some (l', ρ', vs', fs')) (J : bz0 w (l, ρ, vs, fs)) : bz0 w (l', ρ', vs', fs') ∧ pfW w l' + pfF w fs' + vsW w vs' ≤ pfW w l + pfF w fs + vsW w vs := by
  obtain ⟨j1, j2, j3⟩ := J
  unfold mvA at h
  split at h
  · next k z A B C w1 ρ1 vs1 fs1 e0 =>
    cases e0
    have j1 : vWt w ρ = 0 := j1
    split at h
    · next hk =>
      cases h
      refine ⟨⟨j1, j2, fun v hv => ?_⟩, ?_⟩
      · rcases List.mem_cons.mp hv with e | e
        · rw [e]
          unfold lfV
          split
          · exact trivial
          split
          · exact trivial
          split
          · exact trivial
          split
          · exact trivial
          split
          · exact trivial
          split
          · have := vWt_lkp hw (z := z) (ρ := ρ)
            have := vWt_ge hw (v := lkp z ρ)
            exact ez_of hw (by omega)
          · exact j1
        · exact j3 v e
      have lf : vWt w (lfV k z (nd k z A B C) ρ) ≤ fsW w (nd k z A B C) := by
        have g := fsW_ge hw (T := nd k z A B C)
        unfold lfV
        split
        · exact g
        split
        · exact g
        split
        · exact g
        split
        · exact g
        split
        · exact g
        split
        · have := vWt_lkp hw (z := z) (ρ := ρ); omega
        · have h17 : k ≠ 17 := by omega
          have e := fsW_nd (w := w) (z := z) (A := A) (B := B) (C := C) h17
          have := hw (nd k z A B C)
          have := fsW_ge hw (T := B)
          have := fsW_ge hw (T := C)
          show fsW w A + vWt w ρ ≤ fsW w (nd k z A B C)
          omega
      show pfW w l' + pfF w fs + (vWt w (lfV k z (nd k z A B C) ρ) + vsW w vs) ≤ (fsW w (nd k z A B C) + pfW w l') + pfF w fs + vsW w vs
      omega
    · next h0 =>
      split at h
      · next hk =>
        cases h
        refine ⟨⟨j1, j2, j3⟩, ?_⟩
        have e := fsW_nd (w := w) (k := k) (z := z) (A := A) (B := B) (C := C) (by omega)
        have := fsW_ge hw (T := C)
        show (fsW w A + (fsW w B + ((w (nd k z A B C) + (if 13 ≤ k then fsW w B + fsW w C else 0)) + pfW w w1))) + pfF w fs + vsW w vs ≤ (fsW w (nd k z A B C) + pfW w w1) + pfF w fs + vsW w vs
        rw [if_neg (by omega)]
        omega
      · split at h
        · next hk =>
          cases h
          refine ⟨⟨j1, j2, j3⟩, ?_⟩
          have e := fsW_nd (w := w) (k := k) (z := z) (A := A) (B := B) (C := C) (by omega)
          have := fsW_ge hw (T := C)
          have := fsW_ge hw (T := B)
          show (fsW w A + ((w (nd k z A B C) + (if 13 ≤ k then fsW w B + fsW w C else 0)) + pfW w w1)) + pfF w fs + vsW w vs ≤ (fsW w (nd k z A B C) + pfW w w1) + pfF w fs + vsW w vs
          split <;> omega
        · cases h
  · next t w1 ρ1 vs1 fs1 e0 =>
    cases e0
    cases h
    refine ⟨⟨?_, j2, j3⟩, ?_⟩
    · have j1 : vWt w ρ = 0 := j1
      have := vWt_drp hw (n := numB t) (ρ := ρ)
      have := vWt_ge hw (v := drp (numB t) ρ)
      show vWt w (drp (numB t) ρ) = 0
      omega
    · show pfW w l' + pfF w fs + vsW w vs ≤ (0 + pfW w l') + pfF w fs + vsW w vs
      omega
  · next ρ1 vs1 w1 ρ2 fs1 e0 =>
    cases e0
    cases h
    refine ⟨⟨j2 _ (List.mem_cons_self ..), (fun g hg => j2 g (List.mem_cons_of_mem _ hg)), j3⟩, ?_⟩
    show pfW w l' + pfF w fs' + vsW w vs ≤ 0 + (pfW w l' + pfF w fs') + vsW w vs
    omega
  · cases h
theorem ln_sp (hw : ∀ N, 0 ≤ w N) {l l' : Wl} {ρ ρ' : En} {vs vs' : List Va} {fs fs' : List (Wl × En)} {b : Nat} (h : spA (l, ρ, vs, fs) = some (.inl ((l', ρ', vs', fs'), b))) (hb : b ≤ 16) (Z : bzN w (l, ρ, vs, fs)) (J : bz0 w (l, ρ, vs, fs)) : bz0 w (l', ρ', vs', fs') ∧ pfW w l' + pfF w fs' + vsW w vs' + w (hdN (l, ρ, vs, fs)) ≤ pfW w l + pfF w fs + vsW w vs := by
  obtain ⟨j1, j2, j3⟩ := J
  have j1 : vWt w ρ = 0 := j1
  unfold spA at h
  split at h
  · next k z A B C w1 ρ1 vs1 fs1 e0 =>
    cases e0
    have hN : hdN ((1, .tag k (.nest z (.append A (.append B C)))) :: w1, ρ, vs, fs) = nd k z A B C := rfl
    rw [hN]
    have nx : ∀ {u : Va} {l : List Va}, ezV w u → (∀ v ∈ l, ezV w v) → ∀ v ∈ u :: l, ezV w v := fun {u l} h1 h2 v hv => by
      rcases List.mem_cons.mp hv with e | e
      · rw [e]; exact h1
      · exact h2 v e
    have pe : pfW w ((1, .tag k (.nest z (.append A (.append B C)))) :: w1) = (w (nd k z A B C) + (if 13 ≤ k then fsW w B + fsW w C else 0)) + pfW w w1 := rfl
    rw [pe]
    split at h
    · next v vs2 =>
      cases h
      have := vWt_ge hw (v := v)
      refine ⟨⟨j1, j2, nx (u := vR (FP.dneg (toR v))) trivial (fun u hu => j3 u (List.mem_cons_of_mem _ hu))⟩, ?_⟩
      show pfW w l' + pfF w fs + (0 + vsW w vs2) + _ ≤ _ + (vWt w v + vsW w vs2)
      rw [if_neg (show ¬ (13 : Nat) ≤ 8 by decide)]; omega
    · next y x vs2 =>
      split at h
      · next v hv =>
        cases h
        obtain ⟨j, q, hj, rfl⟩ := opV_v hv
        have := vWt_ge hw (v := x)
        have := vWt_ge hw (v := y)
        have e : vWt w (.tag j (.nest q .nil)) = 0 := match j, hj with
          | 0, _ => rfl
          | 1, _ => rfl
          | 2, _ => rfl
        have e2 : ezV w (.tag j (.nest q .nil)) := match j, hj with
          | 0, _ => trivial
          | 1, _ => trivial
          | 2, _ => trivial
        refine ⟨⟨j1, j2, nx e2 (fun u hu => j3 u (List.mem_cons_of_mem _ (List.mem_cons_of_mem _ hu)))⟩, ?_⟩
        show pfW w l' + pfF w fs + (vWt w (.tag j (.nest q .nil)) + vsW w vs2) + _ ≤ _ + (vWt w y + (vWt w x + vsW w vs2))
        rw [e, if_neg (show ¬ (13 : Nat) ≤ 9 by decide)]; omega
      · cases h
    · next y x vs2 =>
      cases h
      refine ⟨⟨j1, j2, nx (u := vC x y) ⟨j3 x (List.mem_cons_of_mem _ (List.mem_cons_self ..)), j3 y (List.mem_cons_self ..)⟩ (fun u hu => j3 u (List.mem_cons_of_mem _ (List.mem_cons_of_mem _ hu)))⟩, ?_⟩
      show pfW w l' + pfF w fs + ((vWt w x + vWt w y) + vsW w vs2) + _ ≤ _ + (vWt w y + (vWt w x + vsW w vs2))
      rw [if_neg (show ¬ (13 : Nat) ≤ 10 by decide)]; omega
    · next x g vs2 =>
      have hx : vWt w x = 0 := Z (Or.inl rfl)
      have hg := vWt_ge hw (v := g)
      have hz : ezV w g := j3 g (List.mem_cons_of_mem _ (List.mem_cons_self ..))
      have j4 : ∀ u ∈ vs2, ezV w u := fun u hu => j3 u (List.mem_cons_of_mem _ (List.mem_cons_of_mem _ hu))
      have fr : ∀ q ∈ (w1, ρ) :: fs, vWt w q.2 = 0 := fun q hq => by
        rcases List.mem_cons.mp hq with e | e
        · rw [e]; exact j1
        · exact j2 q e
      rw [if_neg (show ¬ (13 : Nat) ≤ 11 by decide)]
      split at h
      · next y0 t0 =>
        cases h
        have e : ∀ u, vWt w (if y0 = 82 then vR u else vN (FP.d2i (toR x)).toInt) = 0 := fun u => by split <;> rfl
        have e1 := e (FP.i2d (Int32.ofInt (toI x)))
        refine ⟨⟨j1, j2, nx (ez_of hw e1) j4⟩, ?_⟩
        show pfW w l' + pfF w fs + (vWt w (if y0 = 82 then vR (FP.i2d (Int32.ofInt (toI x))) else vN (FP.d2i (toR x)).toInt) + vsW w vs2) + _ ≤ _ + (vWt w x + (vWt w (.tag 4 (.nest y0 t0)) + vsW w vs2))
        omega
      · next u y bb r ρ2 =>
        cases h
        have h0 : vWt w ρ2 = 0 := hz
        refine ⟨⟨?_, fr, j4⟩, ?_⟩
        · show vWt w x + vWt w ρ2 = 0; omega
        · show (fsW w bb + 0) + (pfW w w1 + pfF w fs) + vsW w vs' + w (nd 11 z A B C) ≤ ((w (nd 11 z A B C) + 0) + pfW w w1) + pfF w fs + (vWt w x + ((fsW w bb + vWt w ρ2) + vsW w vs'))
          omega
      · next u gn y bb r ρ2 =>
        cases h
        have h0 : fsW w bb + vWt w ρ2 = 0 := hz
        have h1 := vWt_ge hw (v := ρ2)
        have h2 := fsW_ge hw (T := bb)
        refine ⟨⟨?_, fr, j4⟩, ?_⟩
        · show vWt w x + ((fsW w bb + vWt w ρ2) + vWt w ρ2) = 0; omega
        · show (fsW w bb + 0) + (pfW w w1 + pfF w fs) + vsW w vs' + w (nd 11 z A B C) ≤ ((w (nd 11 z A B C) + 0) + pfW w w1) + pfF w fs + (vWt w x + ((fsW w bb + vWt w ρ2) + vsW w vs'))
          omega
      · cases h
    · next v vs2 =>
      cases h
      have hv : vWt w v = 0 := Z (Or.inr (Or.inl rfl))
      have := fsW_ge hw (T := C)
      refine ⟨⟨?_, j2, fun u hu => j3 u (List.mem_cons_of_mem _ hu)⟩, ?_⟩
      · show vWt w v + vWt w ρ = 0; omega
      · rw [if_pos (show (13 : Nat) ≤ 13 by decide)]
        show (fsW w B + (0 + pfW w w1)) + pfF w fs + vsW w vs' + _ ≤ _ + (vWt w v + vsW w vs')
        omega
    · next v vs2 =>
      have hv : vWt w v = 0 := Z (Or.inr (Or.inr (Or.inl rfl)))
      split at h
      · next u lam ρ2 =>
        cases h
        have := fsW_ge hw (T := C)
        have hv2 : lmW w lam + vWt w ρ2 = 0 := hv
        refine ⟨⟨?_, j2, fun u hu => j3 u (List.mem_cons_of_mem _ hu)⟩, ?_⟩
        · show (lmW w lam + vWt w ρ2) + vWt w ρ = 0; omega
        · rw [if_pos (show (13 : Nat) ≤ 14 by decide)]
          show (fsW w B + (0 + pfW w w1)) + pfF w fs + vsW w vs' + _ ≤ _ + ((lmW w lam + vWt w ρ2) + vsW w vs')
          omega
      · cases h
    · next v vs2 =>
      cases h
      have := fsW_ge hw (T := C)
      have := fsW_ge hw (T := B)
      have := vWt_ge hw (v := v)
      refine ⟨⟨j1, j2, fun u hu => j3 u (List.mem_cons_of_mem _ hu)⟩, ?_⟩
      rw [if_pos (show (13 : Nat) ≤ 15 by decide)]
      show (fsW w (if toI v = 1 then B else C) + pfW w w1) + pfF w fs + vsW w vs' + _ ≤ _ + (vWt w v + vsW w vs')
      split <;> omega
    · next v vs2 =>
      have hv : vWt w v = 0 := Z (Or.inr (Or.inr (Or.inr rfl)))
      split at h
      · next E br ρ2 he =>
        cases h
        have := fsW_ge hw (T := C)
        obtain ⟨r1, r2⟩ := br_l hw he hb
        have := vWt_ge hw (v := ρ')
        refine ⟨⟨?_, j2, fun u hu => j3 u (List.mem_cons_of_mem _ hu)⟩, ?_⟩
        · show vWt w ρ' = 0; omega
        · rw [if_pos (show (13 : Nat) ≤ 16 by decide)]
          show (fsW w E + (0 + pfW w w1)) + pfF w fs + vsW w vs' + _ ≤ _ + (vWt w v + vsW w vs')
          omega
      · cases h
    · cases h
  · cases h
end LIN
