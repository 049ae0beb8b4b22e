/-! Every expression gives values of its types: the theorem. -/
section FUND2
variable {PR : UInt64 → Prop}
theorem toR_v {a : UInt64} : toR (vR a) = a := by
  show UInt64.ofNat ((a.toNat : Int).toNat) = a
  rw [Int.toNat_natCast, UInt64.ofNat_toNat]
theorem opV_ty (RC : RCl PR) {z : Int} {x y u : Va} {n : Nat} (hz : opZ z) (h1 : 128 ≤ z → isRv PR x ∧ isRv PR y) (h : opV z x y = .inl u) : VTy PR (opT z) n u := by
  have bb : ∀ {q : Prop} [Decidable q], isBv (vB (if q then 1 else 0)) := fun {q} _ => by
    by_cases w : q
    · rw [if_pos w]; exact Or.inr rfl
    · rw [if_neg w]; exact Or.inl rfl
  have ni : ∀ e : Int, isNv (vN (i32 e)) := fun e => ⟨_, rfl, rg_toInt⟩
  unfold opV at h
  by_cases q1 : z = 188
  · subst q1
    rw [if_pos rfl] at h
    cases h
    exact bb
  rw [if_neg q1] at h
  by_cases q2 : 128 ≤ z
  · rw [if_pos q2] at h
    obtain ⟨⟨a, rfl, pa⟩, ⟨b, rfl, pb⟩⟩ := h1 q2
    rw [toR_v, toR_v] at h
    have e : opT z = gK 3 := by
      unfold opT opdT
      rw [if_neg (by unfold opZ at hz; omega), if_pos q2]
    rw [e]
    split at h
    · cases h
    · next g1 =>
      split at h
      · cases h
      · next g2 =>
        cases h
        exact ⟨_, rfl, RC.2.2.2 z a b pa pb hz q2 q1 g1 g2⟩
  rw [if_neg q2] at h
  by_cases q3 : z = 60
  · subst q3
    rw [if_pos rfl] at h; cases h; exact bb
  rw [if_neg q3] at h
  by_cases q4 : z = 61
  · subst q4
    rw [if_pos rfl] at h; cases h; exact bb
  rw [if_neg q4] at h
  have e : opT z = gK 1 := by
    unfold opT opdT
    rw [if_neg (by omega), if_neg q2]
  rw [e]
  split at h
  · cases h; exact ni _
  split at h
  · cases h; exact ni _
  split at h
  · cases h; exact ni _
  split at h
  · cases h
  · cases h; exact ni _
/-- all types at once -/
theorem SfA.all {D : GT → Prop} {ρ : En} (ne : ∃ s, D s) : ∀ {n : Nat} {S : AS}, (∀ s, D s → SfA PR (fun j ρ' v => ρ' = ρ ∧ VTy PR s j v) n S) → SfA PR (fun j ρ' v => ρ' = ρ ∧ ∀ s, D s → VTy PR s j v) n S := by
  obtain ⟨s0, d0⟩ := ne
  intro n
  induction n with
  | zero => exact fun {S} h => ⟨fun ρ' v e => ⟨((h s0 d0).1 ρ' v e).1, fun s d => ((h s d).1 ρ' v e).2⟩, (h s0 d0).2⟩
  | succ n ih => exact fun {S} h => ⟨fun ρ' v e => ⟨((h s0 d0).1 ρ' v e).1, fun s d => ((h s d).1 ρ' v e).2⟩, fun f => ⟨((h s0 d0).2 f).1, fun S' x => ih (fun s d => ((h s d).2 f).2 S' x)⟩⟩
theorem ExT.all {D : GT → Prop} {ρ : En} {T : Tr} {n m : Nat} {Q : Nat → En → Va → Prop} {w : Wl} {vs : List Va} {fs : List (Wl × En)} (ne : ∃ s, D s) (H : ∀ s, D s → ExT PR n T ρ s) (hm : m ≤ n) (K : ∀ j, j ≤ m → ∀ v, (∀ s, D s → VTy PR s j v) → SfA PR Q j (w, ρ, v :: vs, fs)) : SfA PR Q m ((0, T) :: w, ρ, vs, fs) := by
  have I : SfA PR (fun j ρ' v => ρ' = ρ ∧ ∀ s, D s → VTy PR s j v) m ([(0, T)], ρ, [], []) := SfA.all ne (fun s d => H s d m hm _ [] [] [] (fun j hj v hv => SfA.fin ⟨rfl, hv⟩))
  exact I.bind (w0 := w) (vs0 := vs) (fs0 := fs) (fun j hj ρ' v q => by obtain ⟨rfl, q⟩ := q; exact K j hj v q)
theorem drp_1 {z : Int} {v : Va} {ρ : En} : drp 1 (eC z v ρ) = ρ := by
  show drp 0 ρ = ρ
  cases ρ <;> rfl
theorem fund_all (RC : RCl PR) : ∀ T, wf T → (isE T → FdE PR T) ∧ (isBr T → FdB PR T) ∧ ∀ y b R, T = .tag 12 (.nest y (.append b R)) → FdE PR b
  | .tag k (.nest z (.append A (.append B C))), hw => by
    unfold wf at hw
    have fA := fund_all RC A
    have fB := fund_all RC B
    have fC := fund_all RC C
    split at hw
    · obtain ⟨hz, rfl, rfl, rfl⟩ := hw
      refine ⟨fun _ n G ρ s t E m hm Q w vs fs K => ?_, fun h => (by cases h), fun _ _ _ e => (by cases e)⟩
      have t : s = gK 1 := t.2
      subst t
      exact SfA.g0 (S' := (w, ρ, vN z :: vs, fs)) rfl (fun j hj => K j hj _ ⟨z, rfl, ⟨by omega, by omega⟩⟩)
    · obtain ⟨hz, rfl, rfl, rfl⟩ := hw
      refine ⟨fun _ n G ρ s t E m hm Q w vs fs K => ?_, fun h => (by cases h), fun _ _ _ e => (by cases e)⟩
      have t : s = gK 3 := t.2
      subst t
      exact SfA.g0 (S' := (w, ρ, vR (FP.ddiv (FP.i2d (Int32.ofInt z)) (FP.i2d 1000)) :: vs, fs)) rfl (fun j hj => K j hj _ ⟨_, rfl, RC.1 z hz.1 hz.2⟩)
    · obtain ⟨hz, rfl, rfl, rfl⟩ := hw
      refine ⟨fun _ n G ρ s t E m hm Q w vs fs K => ?_, fun h => (by cases h), fun _ _ _ e => (by cases e)⟩
      have t : s = gK 2 := t.2
      subst t
      refine SfA.g0 (S' := (w, ρ, vB z :: vs, fs)) rfl (fun j hj => K j hj _ ?_)
      rcases hz with rfl | rfl
      · exact Or.inl rfl
      · exact Or.inr rfl
    · obtain ⟨hz, rfl, rfl, rfl⟩ := hw
      refine ⟨fun _ n G ρ s t E m hm Q w vs fs K => ?_, fun h => (by cases h), fun _ _ _ e => (by cases e)⟩
      obtain ⟨a, rfl⟩ := (show ∃ a, s = gL a from t.2)
      exact SfA.g0 (S' := (w, ρ, vE :: vs, fs)) rfl (fun j hj => K j hj _ (show VLs _ vE from rfl))
    · obtain ⟨hz, rfl, rfl, rfl⟩ := hw
      refine ⟨fun _ n G ρ s t E m hm Q w vs fs K => ?_, fun h => (by cases h), fun _ _ _ e => (by cases e)⟩
      have t : s = if z = 82 then gA (gK 1) (gK 3) else gA (gK 3) (gK 1) := t.2
      refine SfA.g0 (S' := (w, ρ, vI z :: vs, fs)) rfl (fun j hj => K j hj _ ?_)
      rcases hz with rfl | rfl
      · rw [if_pos rfl] at t
        subst t
        refine ⟨⟨Or.inl rfl, rfl⟩, fun i hi x hx => ⟨Or.inl ⟨rfl, hx⟩, fun ρ' S c h => ?_⟩⟩
        have h : some (Sum.inl (([], ρ', [vR (FP.i2d (Int32.ofInt (toI x)))], []), 0)) = (some (Sum.inl (S, c)) : Option ((AS × Nat) ⊕ Int)) := h
        cases h
        obtain ⟨y, rfl, gy⟩ := (show isNv x from hx)
        exact SfA.fin ⟨rfl, ⟨_, rfl, RC.2.1 y gy⟩⟩
      · rw [if_neg (by decide)] at t
        subst t
        refine ⟨⟨Or.inr rfl, rfl⟩, fun i hi x hx => ⟨Or.inr ⟨rfl, hx⟩, fun ρ' S c h => ?_⟩⟩
        have h : some (Sum.inl (([], ρ', [vN (FP.d2i (toR x)).toInt], []), 0)) = (some (Sum.inl (S, c)) : Option ((AS × Nat) ⊕ Int)) := h
        cases h
        exact SfA.fin ⟨rfl, ⟨_, rfl, rg_toInt⟩⟩
    · obtain ⟨hz, rfl, rfl, rfl⟩ := hw
      refine ⟨fun _ n G ρ s t E m hm Q w vs fs K => ?_, fun h => (by cases h), fun _ _ _ e => (by cases e)⟩
      exact SfA.g0 (S' := (w, ρ, lkp z ρ :: vs, fs)) rfl (fun j hj => K j hj _ ((E z s t.2).le (by omega)))
    · obtain ⟨rfl, eA, wA, rfl, rfl⟩ := hw
      refine ⟨fun _ n G ρ s t E m hm Q w vs fs K => ?_, fun h => (by cases h), fun _ _ _ e => (by cases e)⟩
      obtain ⟨tA, rfl⟩ := (show tyE A false G (gK 3) ∧ s = gK 3 from t.2)
      refine SfA.g0 (S' := ((0, A) :: (1, nd 8 0 A nl nl) :: w, ρ, vs, fs)) rfl (fun m' hm' => ?_)
      refine (fA wA).1 eA n G ρ _ tA E m' (by omega) _ _ _ _ (fun j hj v hv => ?_)
      refine SfA.g1 ⟨v, vs, rfl, hv⟩ (fun i hi S' b h => ?_)
      have h : some (Sum.inl ((w, ρ, vR (FP.dneg (toR v)) :: vs, fs), 0)) = (some (Sum.inl (S', b)) : Option ((AS × Nat) ⊕ Int)) := h
      cases h
      obtain ⟨y, rfl, py⟩ := (show isRv PR v from hv)
      rw [toR_v]
      exact K i (by omega) _ ⟨_, rfl, RC.2.2.1 y py⟩
    · obtain ⟨hz, eA, wA, eB, wB, rfl⟩ := hw
      refine ⟨fun _ n G ρ s t E m hm Q w vs fs K => ?_, fun h => (by cases h), fun _ _ _ e => (by cases e)⟩
      obtain ⟨tA, tB, rfl⟩ := (show tyE A false G (opdT z) ∧ tyE B false G (opdT z) ∧ s = opT z from t.2)
      refine SfA.g0 (S' := ((0, A) :: (0, B) :: (1, nd 9 z A B nl) :: w, ρ, vs, fs)) rfl (fun m' hm' => ?_)
      refine (fA wA).1 eA n G ρ _ tA E m' (by omega) _ _ _ _ (fun j hj x hx => ?_)
      refine (fB wB).1 eB n G ρ _ tB E j (by omega) _ _ _ _ (fun i hi y hy => ?_)
      have k1 : 128 ≤ z → isRv PR x ∧ isRv PR y := fun q => by
        unfold opdT at hx hy
        rw [if_pos q] at hx hy
        exact ⟨hx, hy⟩
      have k2 : z < 128 → isNv x ∧ isNv y := fun q => by
        unfold opdT at hx hy
        rw [if_neg (by omega)] at hx hy
        exact ⟨hx, hy⟩
      refine SfA.g1 ⟨x, y, vs, rfl, k1, k2⟩ (fun l hl S' b h => ?_)
      have h : (match opV z x y with
        | .inl v => some (Sum.inl ((w, ρ, v :: vs, fs), 0))
        | .inr e => some (Sum.inr e)) = (some (Sum.inl (S', b)) : Option ((AS × Nat) ⊕ Int)) := h
      split at h
      · next u e =>
        cases h
        exact K l (by omega) _ (opV_ty RC hz k1 e)
      · cases h
    · obtain ⟨rfl, eA, wA, eB, wB, rfl⟩ := hw
      refine ⟨fun _ n G ρ s t E m hm Q w vs fs K => ?_, fun h => (by cases h), fun _ _ _ e => (by cases e)⟩
      obtain ⟨a, tA, rfl, tB⟩ := (show ∃ a, tyE A false G a ∧ s = gL a ∧ tyE B false G s from t.2)
      refine SfA.g0 (S' := ((0, A) :: (0, B) :: (1, nd 10 0 A B nl) :: w, ρ, vs, fs)) rfl (fun m' hm' => ?_)
      refine (fA wA).1 eA n G ρ _ tA E m' (by omega) _ _ _ _ (fun j hj x hx => ?_)
      refine (fB wB).1 eB n G ρ _ tB E j (by omega) _ _ _ _ (fun i hi y hy => ?_)
      refine SfA.g1 ⟨x, y, vs, rfl, hy.lis⟩ (fun l hl S' b h => ?_)
      have h : some (Sum.inl ((w, ρ, vC x y :: vs, fs), 0)) = (some (Sum.inl (S', b)) : Option ((AS × Nat) ⊕ Int)) := h
      cases h
      exact K l (by omega) _ (show VLs (VTy PR a l) (vC x y) from ⟨hx.le (by omega), hy.le (show l ≤ i by omega)⟩)
    · obtain ⟨rfl, eA, wA, eB, wB, rfl⟩ := hw
      refine ⟨fun _ n G ρ s t E m hm Q w vs fs K => ?_, fun h => (by cases h), fun _ _ _ e => (by cases e)⟩
      obtain ⟨a, tA, tB⟩ := (show ∃ a, tyE A false G (gA a s) ∧ tyE B false G a from t.2)
      refine SfA.g0 (S' := ((0, A) :: (0, B) :: (1, nd 11 0 A B nl) :: w, ρ, vs, fs)) rfl (fun m' hm' => ?_)
      refine (fA wA).1 eA n G ρ _ tA E m' (by omega) _ _ _ _ (fun j hj f hf => ?_)
      refine (fB wB).1 eB n G ρ _ tB E j (by omega) _ _ _ _ (fun i hi x hx => ?_)
      cases i with
      | zero => exact ⟨fun _ _ e => (by cases e), fun _ _ e => (by cases e)⟩
      | succ i =>
        have o : stOK PR 11 0 nl [x, f] := ⟨f, x, [], rfl, hf.1, (hf.2 i (by omega) x (hx.le (Nat.le_succ i))).1⟩
        refine SfA.g1 ⟨f, x, vs, rfl, hf.1, (hf.2 i (by omega) x (hx.le (Nat.le_succ i))).1⟩ (fun l hl S' b h => ?_)
        obtain ⟨-, -, g⟩ := pl_sp (PR := PR) (w0 := w) (vs0 := vs) (fs0 := fs) (S := ([(1, nd 11 0 nl nl nl)], ρ, [x, f], [])) o (fun _ _ e => (by cases e)) rfl
        obtain ⟨S1, e1, rfl⟩ := g S' b h
        exact ((hf.2 l (by omega) x (hx.le (by omega))).2 ρ S1 b e1).bind (fun j' hj' ρ' v q => by obtain ⟨rfl, q⟩ := q; exact K j' (by omega) v q)
    · obtain ⟨hz, eA, wA, rfl, rfl⟩ := hw
      refine ⟨fun _ n G ρ s t E m hm Q w vs fs K => ?_, fun h => (by cases h), fun y b R e => by cases e; exact (fA wA).1 eA⟩
      obtain ⟨a, b, rfl, tA⟩ := (show ∃ a b, s = gA a b ∧ tyE A false ((z, is1 a) :: G) b from t.2)
      exact SfA.g0 (S' := (w, ρ, vF (nd 12 z A nl nl) ρ :: vs, fs)) rfl (fun j hj => K j hj _ (fun_v ((fA wA).1 eA) tA (E.le (by omega))))
    · obtain ⟨hz, eA, wA, eB, wB, rfl⟩ := hw
      refine ⟨fun _ n G ρ s t E m hm Q w vs fs K => ?_, fun h => (by cases h), fun _ _ _ e => (by cases e)⟩
      obtain ⟨⟨a0, tA⟩, tB⟩ := (show (∃ a, tyE A false G a) ∧ tyE B false ((z, tyE A false G) :: G) s from t.2)
      refine SfA.g0 (S' := ((0, A) :: (1, nd 13 z A B nl) :: w, ρ, vs, fs)) rfl (fun m' hm' => ?_)
      refine ExT.all (D := tyE A false G) ⟨a0, tA⟩ (fun a ta => (fA wA).1 eA n G ρ a ta E) (by omega) (fun j hj v hv => ?_)
      refine SfA.g1 ⟨v, vs, rfl⟩ (fun l hl S' b h => ?_)
      have h : some (Sum.inl (((0, B) :: (2, nd 13 z A B nl) :: w, eC z v ρ, vs, fs), 1)) = (some (Sum.inl (S', b)) : Option ((AS × Nat) ⊕ Int)) := h
      cases h
      refine (fB wB).1 eB l _ _ s tB ((E.le (show l ≤ n by omega)).cons (fun q hq => (hv q hq).le (by omega))) l (Nat.le_refl l) _ _ _ _ (fun i hi u hu => SfA.g2 (fun i' hi' => ?_))
      rw [show numB (nd 13 z A B nl) = 1 from rfl, drp_1]
      exact K i' (by omega) u (hu.le hi')
    · obtain ⟨hz, fnA, wA, eB, wB, rfl⟩ := hw
      refine ⟨fun _ n G ρ s t E m hm Q w vs fs K => ?_, fun h => (by cases h), fun _ _ _ e => (by cases e)⟩
      obtain ⟨⟨a0, tA⟩, tB⟩ := (show (∃ a, tyE A false ((z, is1 a) :: G) a) ∧ tyE B false ((z, fun a => tyE A false ((z, is1 a) :: G) a) :: G) s from t.2)
      obtain ⟨y, bb, RR, eA⟩ : ∃ y bb RR, A = .tag 12 (.nest y (.append bb RR)) := by
        unfold isFn at fnA
        split at fnA
        · subst fnA
          unfold wf at wA
          split at wA
          · next h => cases h; exact ⟨_, _, _, rfl⟩
          · exact wA.elim
        · exact fnA.elim
      have fb := (fA wA).2.2 y bb RR eA
      refine SfA.g0 (S' := ((0, A) :: (1, nd 14 z A B nl) :: w, ρ, vs, fs)) rfl (fun m' hm' => ?_)
      have mv : mvA ((0, A) :: (1, nd 14 z A B nl) :: w, ρ, vs, fs) = some ((1, nd 14 z A B nl) :: w, ρ, vF A ρ :: vs, fs) := by
        rw [eA] at wA ⊢
        unfold wf at wA
        split at wA
        · next h => cases h; rfl
        · exact wA.elim
      obtain ⟨o1, f1, s1⟩ := ok_mv (PR := PR) mv
      refine SfA.mv mv f1 o1 (fun _ _ e => by rw [s1] at e; cases e) (fun j hj => ?_)
      refine SfA.g1 ⟨A, ρ, vs, rfl⟩ (fun l hl S' b h => ?_)
      have h : some (Sum.inl (((0, B) :: (2, nd 14 z A B nl) :: w, eC z (vG z A ρ) ρ, vs, fs), 1)) = (some (Sum.inl (S', b)) : Option ((AS × Nat) ⊕ Int)) := h
      cases h
      refine (fB wB).1 eB l _ _ s tB ((E.le (show l ≤ n by omega)).cons (fun q hq => ?_)) l (Nat.le_refl l) _ _ _ _ (fun i hi u hu => SfA.g2 (fun i' hi' => ?_))
      · have hq : tyE A false ((z, is1 q) :: G) q := hq
        have E' : EnV PR l ρ G := E.le (by omega)
        have g : ∃ a c, q = gA a c ∧ tyE bb false ((y, is1 a) :: (z, is1 q) :: G) c := by
          rw [eA] at hq wA
          unfold wf at wA
          split at wA
          · next h => cases h; exact hq.2
          · exact wA.elim
        rw [eA]
        exact rec_v fb g E'
      · rw [show numB (nd 14 z A B nl) = 1 from rfl, drp_1]
        exact K i' (by omega) u (hu.le hi')
    · obtain ⟨rfl, eA, wA, eB, wB, eC', wC⟩ := hw
      refine ⟨fun _ n G ρ s t E m hm Q w vs fs K => ?_, fun h => (by cases h), fun _ _ _ e => (by cases e)⟩
      obtain ⟨tA, tB, tC⟩ := (show tyE A false G (gK 2) ∧ tyE B false G s ∧ tyE C false G s from t.2)
      refine SfA.g0 (S' := ((0, A) :: (1, nd 15 0 A B C) :: w, ρ, vs, fs)) rfl (fun m' hm' => ?_)
      refine (fA wA).1 eA n G ρ _ tA E m' (by omega) _ _ _ _ (fun j hj v hv => ?_)
      refine SfA.g1 ⟨v, vs, rfl, hv⟩ (fun l hl S' b h => ?_)
      have h : some (Sum.inl (((0, if toI v = 1 then B else C) :: w, ρ, vs, fs), 0)) = (some (Sum.inl (S', b)) : Option ((AS × Nat) ⊕ Int)) := h
      cases h
      split
      · exact (fB wB).1 eB n G ρ _ tB E l (by omega) _ _ _ _ (fun i hi u hu => K i (by omega) u hu)
      · exact (fC wC).1 eC' n G ρ _ tC E l (by omega) _ _ _ _ (fun i hi u hu => K i (by omega) u hu)
    · obtain ⟨rfl, eA, wA, bB, wB, rfl⟩ := hw
      refine ⟨fun _ n G ρ s t E m hm Q w vs fs K => ?_, fun h => (by cases h), fun _ _ _ e => (by cases e)⟩
      obtain ⟨a, tA, tB⟩ := (show ∃ a, tyE A false G a ∧ tyE B false G (gA a s) from t.2)
      refine SfA.g0 (S' := ((0, A) :: (1, nd 16 0 A B nl) :: w, ρ, vs, fs)) rfl (fun m' hm' => ?_)
      refine (fA wA).1 eA n G ρ _ tA E m' (by omega) _ _ _ _ (fun j hj v hv => ?_)
      have fb := (fB wB).2.1 bB
      refine SfA.g1 ⟨v, vs, rfl, (fb j G ρ a s v tB (E.le (by omega)) hv).1⟩ (fun l hl S' b h => ?_)
      have h : (match brF B v ρ with
        | some (E, br, ρ') => some (Sum.inl (((0, E) :: (2, br) :: w, ρ', vs, fs), numB br))
        | none => some (.inr 2)) = (some (Sum.inl (S', b)) : Option ((AS × Nat) ⊕ Int)) := h
      cases ov : brF B v ρ with
      | none => rw [ov] at h; cases h
      | some u =>
        obtain ⟨X, br, ρ'⟩ := u
        rw [ov] at h
        cases h
        obtain ⟨x1, x2⟩ := (fb l G ρ a s v tB (E.le (by omega)) (hv.le (by omega))).2 X br ρ' ov
        refine x1 l (Nat.le_refl l) _ _ _ _ (fun i hi u hu => SfA.g2 (fun i' hi' => ?_))
        rw [x2]
        exact K i' (by omega) u (hu.le hi')
    · obtain ⟨⟨hz, -⟩, wP, eB, wB, wC⟩ := hw
      refine ⟨fun h => absurd h.1 (by decide), fun _ => ?_, fun _ _ _ e => (by cases e)⟩
      refine fd_br wP hz ((fB wB).1 eB) ?_
      rcases wC with rfl | ⟨bC, wC⟩
      · exact Or.inl rfl
      · exact Or.inr ((fC wC).2.1 bC)
    · exact hw.elim
  | .nil, hw => hw.elim
  | .line, hw => hw.elim
  | .align _, hw => hw.elim
  | .text _, hw => hw.elim
  | .append _ _, hw => hw.elim
  | .group _ _, hw => hw.elim
  | .nest _ _, hw => hw.elim
  | .tag _ (.nil), hw => hw.elim
  | .tag _ (.line), hw => hw.elim
  | .tag _ (.align _), hw => hw.elim
  | .tag _ (.text _), hw => hw.elim
  | .tag _ (.append _ _), hw => hw.elim
  | .tag _ (.group _ _), hw => hw.elim
  | .tag _ (.tag _ _), hw => hw.elim
  | .tag _ (.nest _ (.nil)), hw => hw.elim
  | .tag _ (.nest _ (.line)), hw => hw.elim
  | .tag _ (.nest _ (.align _)), hw => hw.elim
  | .tag _ (.nest _ (.text _)), hw => hw.elim
  | .tag _ (.nest _ (.nest _ _)), hw => hw.elim
  | .tag _ (.nest _ (.group _ _)), hw => hw.elim
  | .tag _ (.nest _ (.tag _ _)), hw => hw.elim
  | .tag _ (.nest _ (.append _ (.nil))), hw => hw.elim
  | .tag _ (.nest _ (.append _ (.line))), hw => hw.elim
  | .tag _ (.nest _ (.append _ (.align _))), hw => hw.elim
  | .tag _ (.nest _ (.append _ (.text _))), hw => hw.elim
  | .tag _ (.nest _ (.append _ (.nest _ _))), hw => hw.elim
  | .tag _ (.nest _ (.append _ (.group _ _))), hw => hw.elim
  | .tag _ (.nest _ (.append _ (.tag _ _))), hw => hw.elim
end FUND2
