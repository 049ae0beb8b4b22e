/-! Counting steps: what is executed is at most what stands in the program itself and in the bodies of the functions that were called. -/
/-- a sum over the nodes that don't stand within a function, nor in a pattern -/
def stW (w : Tr → Int) : Tr → Int
  | .tag k (.nest z (.append A (.append B C))) => w (nd k z A B C) + (if k = 12 then 0 else (if k = 17 then 0 else stW w A) + (stW w B + stW w C))
  | _ => 0
/-- the body of the function that is called in the step -/
def clD : AS → Option Tr
  | ((1, .tag k _) :: _, _, _ :: f :: _, _) => if k = 11 then (match f with
    | .tag 5 (.append (.tag 12 (.nest _ (.append b _))) _) => some b
    | .tag 6 (.nest _ (.append (.tag 12 (.nest _ (.append b _))) _)) => some b
    | _ => none) else none
  | _ => none
def clW (f : Tr → Int) (st : AS) : Int := match clD st with | some b => f b | none => 0
def hdN : AS → Tr
  | ((_, N) :: _, _, _, _) => N
  | _ => nl
/-- e: what the steps weigh; a: what the called functions' bodies weigh -/
def RunW (w f : Tr → Int) (T : Tr) : Nat → AS → Int → Int → Prop
  | 0, st, e, a => st = ([(0, T)], eN, [], []) ∧ e = 0 ∧ a = 0
  | m + 1, st, e, a => ∃ s0 e0 a0, RunW w f T m s0 e0 a0 ∧ ((mvA s0 = some st ∧ e = e0 ∧ a = a0) ∨ ∃ b : Nat, spA s0 = some (.inl (st, b)) ∧ e = e0 + w (hdN s0) ∧ a = a0 + clW f s0)
/-- what is still to be done -/
def pnI (w : Tr → Int) : Nat × Tr → Int
  | (0, T) => stW w T
  | (1, .tag k (.nest z (.append A (.append B C)))) => w (nd k z A B C) + (if 13 ≤ k then stW w B + stW w C else 0)
  | _ => 0
def pnW (w : Tr → Int) : Wl → Int
  | [] => 0
  | i :: l => pnI w i + pnW w l
def pnF (w : Tr → Int) : List (Wl × En) → Int
  | [] => 0
  | f :: fs => pnW w f.1 + pnF w fs
section CNT
variable {w f w' f' : Tr → Int} {T : Tr}
theorem runW_of : ∀ (m : Nat) (st : AS) (n g : Int), Run T m st n g → ∃ e a, RunW w f T m st e a
  | 0, st, n, g, h => by
    obtain ⟨rfl, rfl, rfl⟩ := h
    exact ⟨0, 0, rfl, rfl, rfl⟩
  | m + 1, st, n, g, h => by
    obtain ⟨s0, n0, g0, h0, h⟩ := h
    obtain ⟨e, a, r⟩ := runW_of m s0 n0 g0 h0
    rcases h with ⟨h, rfl, rfl⟩ | ⟨b, h, rfl, rfl⟩
    · exact ⟨e, a, s0, e, a, r, Or.inl ⟨h, rfl, rfl⟩⟩
    · exact ⟨_, _, s0, e, a, r, Or.inr ⟨b, h, rfl, rfl⟩⟩
theorem stW_ge (hw : ∀ N, 0 ≤ w N) : ∀ {T : Tr}, 0 ≤ stW w T := by
  intro T
  fun_induction stW w T with
  | case1 k z A B C iA iB iC =>
    have := hw (nd k z A B C)
    split
    · omega
    · split <;> omega
  | case2 => exact Int.le_refl _
theorem pnI_ge (hw : ∀ N, 0 ≤ w N) : ∀ {i : Nat × Tr}, 0 ≤ pnI w i := by
  intro i
  unfold pnI
  split
  · exact stW_ge hw
  · next k z A B C =>
    have := hw (nd k z A B C)
    have := stW_ge hw (T := B)
    have := stW_ge hw (T := C)
    split <;> omega
  · exact Int.le_refl _
theorem pnW_ge (hw : ∀ N, 0 ≤ w N) : ∀ {l : Wl}, 0 ≤ pnW w l
  | [] => Int.le_refl _
  | i :: l => by
    have := pnI_ge hw (i := i)
    have := pnW_ge hw (l := l)
    show 0 ≤ pnI w i + pnW w l
    omega
theorem pnF_ge (hw : ∀ N, 0 ≤ w N) : ∀ {fs : List (Wl × En)}, 0 ≤ pnF w fs
  | [] => Int.le_refl _
  | g :: fs => by
    have := pnW_ge hw (l := g.1)
    have := pnF_ge hw (fs := fs)
    show 0 ≤ pnW w g.1 + pnF w fs
    omega
theorem stW_nd {k : Nat} {z : Int} {A B C : Tr} (h1 : k ≠ 12) (h2 : k ≠ 17) : stW w (nd k z A B C) = w (nd k z A B C) + (stW w A + (stW w B + stW w C)) := by
  show w (nd k z A B C) + (if k = 12 then 0 else (if k = 17 then 0 else stW w A) + (stW w B + stW w C)) = _
  rw [if_neg h1, if_neg h2]
theorem stW_17 {z : Int} {A B C : Tr} : stW w (nd 17 z A B C) = w (nd 17 z A B C) + (stW w B + stW w C) := by
  show w (nd 17 z A B C) + (if 17 = 12 then 0 else (if 17 = 17 then 0 else stW w A) + (stW w B + stW w C)) = _
  rw [if_neg (by decide), if_pos rfl]; omega
theorem br_w (hw : ∀ N, 0 ≤ w N) : ∀ {B : Tr} {v : Va} {ρ : En} {E br : Tr} {ρ' : En}, brF B v ρ = some (E, br, ρ') → stW w E ≤ stW w B := by
  intro B v ρ
  fun_induction brF B v ρ with
  | case1 z P E C v ρ ρ1 h =>
    intro E' br ρ' e
    cases e
    have e1 := stW_17 (w := w) (z := z) (A := P) (B := E) (C := C)
    have := hw (nd 17 z P E C)
    have := stW_ge hw (T := C)
    show stW w E ≤ stW w (nd 17 z P E C)
    omega
  | case2 z P E C v ρ h ih =>
    intro E' br ρ' e
    have r := ih e
    have e1 := stW_17 (w := w) (z := z) (A := P) (B := E) (C := C)
    have := hw (nd 17 z P E C)
    have := stW_ge hw (T := E)
    show stW w E' ≤ stW w (nd 17 z P E C)
    omega
  | case3 => intro E' br ρ' e; cases e
theorem cw_mv (hw : ∀ N, 0 ≤ w N) {l l' : Wl} {ρ ρ' : En} {vs vs' : List Va} {fs fs' : List (Wl × En)} (h : mvA (l, ρ, vs, fs) = some (l', ρ', vs', fs')) : pnW w l' + pnF w fs' ≤ pnW w l + pnF w fs := by
  unfold mvA at h
  split at h
  · next k z A B C w1 ρ1 vs1 fs1 e0 =>
    cases e0
    split at h
    · cases h
      have := stW_ge hw (T := nd k z A B C)
      show pnW w l' + pnF w fs ≤ (stW w (nd k z A B C) + pnW w l') + pnF w fs
      omega
    · next h0 =>
      split at h
      · next hk =>
        cases h
        have e := stW_nd (w := w) (k := k) (z := z) (A := A) (B := B) (C := C) (by omega) (by omega)
        have := stW_ge hw (T := C)
        show (stW w A + (stW w B + ((w (nd k z A B C) + (if 13 ≤ k then stW w B + stW w C else 0)) + pnW w w1))) + pnF w fs ≤ (stW w (nd k z A B C) + pnW w w1) + pnF w fs
        rw [if_neg (by omega)]
        omega
      · split at h
        · next hk =>
          cases h
          have e := stW_nd (w := w) (k := k) (z := z) (A := A) (B := B) (C := C) (by omega) (by omega)
          have := stW_ge hw (T := C)
          have := stW_ge hw (T := B)
          show (stW w A + ((w (nd k z A B C) + (if 13 ≤ k then stW w B + stW w C else 0)) + pnW w w1)) + pnF w fs ≤ (stW w (nd k z A B C) + pnW w w1) + pnF w fs
          split <;> omega
        · cases h
  · next t w1 ρ1 vs1 fs1 e0 =>
    cases e0
    cases h
    show pnW w l' + pnF w fs ≤ (0 + pnW w l') + pnF w fs
    omega
  · next ρ1 vs1 w1 ρ2 fs1 e0 =>
    cases e0
    cases h
    show pnW w l' + pnF w fs' ≤ 0 + (pnW w l' + pnF w fs')
    omega
  · cases h
theorem cw_sp (hw : ∀ N, 0 ≤ w N) {l l' : Wl} {ρ ρ' : En} {vs vs' : List Va} {fs fs' : List (Wl × En)} {b : Nat} (h : spA (l, ρ, vs, fs) = some (.inl ((l', ρ', vs', fs'), b))) : pnW w l' + pnF w fs' + w (hdN (l, ρ, vs, fs)) ≤ pnW w l + pnF w fs + clW (stW w) (l, ρ, vs, fs) := by
  unfold spA at h
  split at h
  · next k z A B C w1 ρ1 vs1 fs1 e0 =>
    cases e0
    have hN : hdN ((1, .tag k (.nest z (.append A (.append B C)))) :: w1, ρ, vs, fs) = nd k z A B C := rfl
    rw [hN]
    have lo : ∀ {vs0 : List Va}, k ≠ 11 → clW (stW w) ((1, .tag k (.nest z (.append A (.append B C)))) :: w1, ρ, vs0, fs) = 0 := fun {vs0} hk => by
      unfold clW clD
      match vs0 with
      | [] => rfl
      | [x] => rfl
      | x :: g :: t => simp only []; rw [if_neg hk]
    have pe : pnW w ((1, .tag k (.nest z (.append A (.append B C)))) :: w1) = (w (nd k z A B C) + (if 13 ≤ k then stW w B + stW w C else 0)) + pnW w w1 := rfl
    rw [pe]
    split at h
    · cases h
      rw [lo (by decide), if_neg (by decide)]; omega
    · split at h
      · cases h
        rw [lo (by decide), if_neg (by decide)]; omega
      · cases h
    · cases h
      rw [lo (by decide), if_neg (by decide)]; omega
    · next x g vs2 =>
      rw [if_neg (by decide)]
      split at h
      · cases h
        show pnW w l' + pnF w fs + w (nd 11 z A B C) ≤ ((w (nd 11 z A B C) + 0) + pnW w l') + pnF w fs + 0
        omega
      · next u y bb r ρ2 =>
        cases h
        show (stW w bb + 0) + (pnW w w1 + pnF w fs) + w (nd 11 z A B C) ≤ ((w (nd 11 z A B C) + 0) + pnW w w1) + pnF w fs + stW w bb
        omega
      · next u gn y bb r ρ2 =>
        cases h
        show (stW w bb + 0) + (pnW w w1 + pnF w fs) + w (nd 11 z A B C) ≤ ((w (nd 11 z A B C) + 0) + pnW w w1) + pnF w fs + stW w bb
        omega
      · cases h
    · cases h
      rw [lo (by decide), if_pos (by decide)]
      have := stW_ge hw (T := C)
      show (stW w B + (0 + pnW w w1)) + pnF w fs + _ ≤ _
      omega
    · split at h
      · cases h
        rw [lo (by decide), if_pos (by decide)]
        have := stW_ge hw (T := C)
        show (stW w B + (0 + pnW w w1)) + pnF w fs + _ ≤ _
        omega
      · cases h
    · next v vs2 =>
      cases h
      rw [lo (by decide), if_pos (show (13 : Nat) ≤ 15 by decide)]
      have := stW_ge hw (T := C)
      have := stW_ge hw (T := B)
      show (stW w (if toI v = 1 then B else C) + pnW w w1) + pnF w fs + _ ≤ _
      split <;> omega
    · next v vs2 =>
      split at h
      · next E br ρ2 he =>
        cases h
        rw [lo (by decide), if_pos (by decide)]
        have := stW_ge hw (T := C)
        have := br_w hw he
        show (stW w E + (0 + pnW w w1)) + pnF w fs + _ ≤ _
        omega
      · cases h
    · cases h
  · cases h
/-- what was executed and what is still to be done stand in the program or in the bodies that were called -/
theorem cw_run (hw : ∀ N, 0 ≤ w N) : ∀ (m : Nat) (st : AS) (e a : Int), RunW w (stW w) T m st e a → e + (pnW w st.1 + pnF w st.2.2.2) ≤ stW w T + a
  | 0, st, e, a, h => by
    obtain ⟨rfl, rfl, rfl⟩ := h
    show 0 + ((stW w T + 0) + 0) ≤ stW w T + 0
    omega
  | m + 1, st, e, a, h => by
    obtain ⟨s0, e0, a0, h0, h⟩ := h
    have p := cw_run hw m s0 e0 a0 h0
    obtain ⟨l, ρ, vs, fs⟩ := s0
    obtain ⟨l', ρ', vs', fs'⟩ := st
    have p : e0 + (pnW w l + pnF w fs) ≤ stW w T + a0 := p
    show e + (pnW w l' + pnF w fs') ≤ stW w T + a
    rcases h with ⟨h, rfl, rfl⟩ | ⟨b, h, rfl, rfl⟩
    · have := cw_mv hw h
      omega
    · have := cw_sp hw h
      omega
theorem mv_not {st s : AS} {r : (AS × Nat) ⊕ Int} (h : mvA st = some s) (h' : spA st = some r) : False := by
  unfold mvA at h
  split at h
  · next k z A B C w1 ρ1 vs1 fs1 => unfold spA at h'; cases h'
  · unfold spA at h'; cases h'
  · unfold spA at h'; cases h'
  · cases h
theorem cl_Q {Q : Tr → Prop} {st : AS} {b : Tr} (h : clD st = some b) (J : allS Q st) : Q b := by
  obtain ⟨-, -, a3, -⟩ := J
  unfold clD at h
  split at h
  · next k t w1 ρ x g vs fs =>
    have hg : allL Q g := a3 g (List.mem_cons_of_mem _ (List.mem_cons_self ..))
    split at h
    · split at h
      · cases h
        obtain ⟨-, ⟨hq, -⟩, -⟩ := hg
        exact hq rfl _ _ _ rfl
      · cases h
        obtain ⟨-, ⟨hq, -⟩, -⟩ := hg
        exact hq rfl _ _ _ rfl
      · cases h
    · cases h
  · cases h
/-- two counts of one run: the greater weights give the greater sums -/
theorem runW_le {Q : Tr → Prop} (hT : allL Q T) (hw : ∀ N, w N ≤ w' N) (hf : ∀ A, Q A → f A ≤ f' A) : ∀ (m : Nat) (st st' : AS) (e a e' a' : Int), RunW w f T m st e a → RunW w' f' T m st' e' a' → st' = st ∧ allS Q st ∧ e ≤ e' ∧ a ≤ a'
  | 0, st, st', e, a, e', a', h, h' => by
    obtain ⟨rfl, rfl, rfl⟩ := h
    obtain ⟨rfl, rfl, rfl⟩ := h'
    refine ⟨rfl, ⟨fun i hi => ?_, trivial, (fun v hv => by cases hv), (fun f hf => by cases hf)⟩, Int.le_refl _, Int.le_refl _⟩
    rcases List.mem_cons.mp hi with e | e
    · rw [e]; exact hT
    · cases e
  | m + 1, st, st', e, a, e', a', h, h' => by
    obtain ⟨s0, e0, a0, h0, h⟩ := h
    obtain ⟨s1, e1, a1, h1, h'⟩ := h'
    obtain ⟨rfl, J, p, q⟩ := runW_le hT hw hf m s0 s1 e0 a0 e1 a1 h0 h1
    rcases h with ⟨h, rfl, rfl⟩ | ⟨b, h, rfl, rfl⟩
    · rcases h' with ⟨h', rfl, rfl⟩ | ⟨b', h', rfl, rfl⟩
      · rw [h] at h'; cases h'
        exact ⟨rfl, mv_S h J, p, q⟩
      · exact (mv_not h h').elim
    · rcases h' with ⟨h', rfl, rfl⟩ | ⟨b', h', rfl, rfl⟩
      · exact (mv_not h' h).elim
      · rw [h] at h'; cases h'
        refine ⟨rfl, sp_S h J, ?_, ?_⟩
        · have := hw (hdN s1); omega
        · have : clW f s1 ≤ clW f' s1 := by
            unfold clW
            split
            · next b hb =>
              exact hf b (cl_Q hb J)
            · exact Int.le_refl _
          omega
end CNT
