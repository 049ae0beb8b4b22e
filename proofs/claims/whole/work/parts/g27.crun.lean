/-! The class: what its machine holds between calls; run. -/
/-- S: where the working out stands, s of the program's steps, a of all steps made -/
def cSt (T : Tr) (σ0 : Mem) (h : mHp) (σ : Mem) (s a : Int) (e : WkE) : Prop := ((pg8 σ0 ∧ PP (shf σ0)) ∧ sfR T) ∧ (σ 54 9 = s ∧ σ 54 10 = a) ∧ ((0 ≤ s ∧ s ≤ 500) ∧ (0 ≤ a ∧ a ≤ 1000)) ∧ match e with
  | .inl S => ((∃ n, cRel σ0 n h σ S) ∧ σ 54 7 = 1 ∧ σ 54 8 = 0 ∧ hAt h 54 11 = .null) ∧ wkI T S ∧ (wkZ S : Int) + 641 * (500 - s) ≤ 330000
  | .inr (.inl v) => (RPv h (nT σ0) h.1 v false (hAt h 54 11) ∧ σ 54 7 = 2 ∧ σ 54 8 = 0 ∧ spg σ0 σ) ∧ ∃ m n g ρ, Run T m ([], ρ, [v], []) n g
  | .inr (.inr c) => σ 54 7 = 3 ∧ σ 54 8 = c ∧ hAt h 54 11 = .null
/-- run (x): x steps at most; k: the answer -/
def runS (x s a : Int) (e : WkE) (k s' a' : Int) (e' : WkE) : Prop :=
  if x < 0 ∨ 100 < x then k = -1 ∧ s' = s ∧ a' = a ∧ e' = e
  else match e with
    | .inl S => ∃ F, goS F x 0 s a S (k, s', a') e'
    | _ => k = -1 ∧ s' = s ∧ a' = a ∧ e' = e
/-- a run is made -/
def runM (x : Int) (e : WkE) : Prop := (0 ≤ x ∧ x ≤ 100) ∧ match e with
  | .inl _ => True
  | _ => False
section CRUN
variable {h : mHp} {σ0 σ : Mem} {d : Nat} {s a x : Int} {T : Tr} {e : WkE}
theorem c_run (X : cSt T σ0 h σ s a e) (gx : rg x) (hq : (h.1 : Int) + cQe e + 258 * (1000 - a) ≤ 2000000) : ∃ k s' a' e' h' σ' c, runS x s a e k s' a' e' ∧ rg k ∧ frGo c h h' σ σ' ∧ (c : Int) + cQe e' ≤ cQe e + 258 * (a' - a) ∧ cSt T σ0 h' σ' s' a' e' ∧ ((¬ runM x e ∧ Rh (d + 24) yF_run [.ref 1, vi x] h σ (.inl (some (vi k))) h' σ' ∧ h' = h ∧ σ' = σ ∧ e' = e) ∨ (runM x e ∧ Rh (d + 24) yF_run [.ref 1, vi x] h σ (.inl (some (vi k))) (hSet h' 1 9 (hAt h' 54 11)) σ')) := by
  by_cases q : x < 0 ∨ 100 < x
  · refine ⟨-1, s, a, e, h, σ, 0, ?_, rgk rfl, frGo.rf, by omega, X, Or.inl ⟨fun m => ?_, M_F_run gx ?_, rfl, rfl, rfl⟩⟩
    · unfold runS; rw [if_pos q]; exact ⟨rfl, rfl, rfl, rfl⟩
    · have := m.1; omega
    · unfold B_F_run
      by_cases q1 : x < 0
      · rw [if_pos q1]; exact ⟨rfl, rfl, rfl⟩
      · rw [if_neg q1, if_pos (by omega)]; exact ⟨rfl, rfl, rfl⟩
  have q1 : ¬ x < 0 := by omega
  have q2 : ¬ x > 100 := by omega
  have no : (∀ S, e ≠ .inl S) → σ 54 7 ≠ 1 → rg (σ 54 7) → ∃ k s' a' e' h' σ' c, runS x s a e k s' a' e' ∧ rg k ∧ frGo c h h' σ σ' ∧ (c : Int) + cQe e' ≤ cQe e + 258 * (a' - a) ∧ cSt T σ0 h' σ' s' a' e' ∧ ((¬ runM x e ∧ Rh (d + 24) yF_run [.ref 1, vi x] h σ (.inl (some (vi k))) h' σ' ∧ h' = h ∧ σ' = σ ∧ e' = e) ∨ (runM x e ∧ Rh (d + 24) yF_run [.ref 1, vi x] h σ (.inl (some (vi k))) (hSet h' 1 9 (hAt h' 54 11)) σ')) := fun ne h7 g7 => by
    refine ⟨-1, s, a, e, h, σ, 0, ?_, rgk rfl, frGo.rf, by omega, X, Or.inl ⟨fun m => ?_, M_F_run gx ?_, rfl, rfl, rfl⟩⟩
    · unfold runS; rw [if_neg q]
      cases e with
      | inl S => exact absurd rfl (ne S)
      | inr y => exact ⟨rfl, rfl, rfl, rfl⟩
    · cases e with
      | inl S => exact absurd rfl (ne S)
      | inr y => exact m.2
    · unfold B_F_run
      rw [if_neg q1, if_neg q2]
      refine ⟨σ 54 7, h, σ, (M_Mc_phase (d := d + 19) ⟨rfl, rfl⟩).hh, g7, ?_⟩
      rw [if_neg h7]; exact ⟨rfl, rfl, rfl⟩
  obtain ⟨⟨⟨g, pp⟩, SF⟩, ⟨e9, e10⟩, ⟨hs, ha⟩, E⟩ := id X
  cases e with
  | inr y =>
    cases y with
    | inl v =>
      have e7 : σ 54 7 = 2 := E.1.2.1
      exact no (fun S q => by cases q) (by rw [e7]; decide) (by rw [e7]; exact rgk rfl)
    | inr c =>
      have e7 : σ 54 7 = 3 := E.1
      exact no (fun S q => by cases q) (by rw [e7]; decide) (by rw [e7]; exact rgk rfl)
  | inl S =>
    obtain ⟨⟨R, e7, e8, e11⟩, I, hz⟩ := E
    obtain ⟨o, e', h', σ', c, G, L, f, bc, b9, bd, bo, ce⟩ := c_go (d := d) g pp SF (nn := x) ⟨by omega, by omega⟩ 330000 S 0 s a 0 h σ I R e7 e9 e10 hs ha ⟨Int.le_refl _, by omega⟩ hz (by omega) hq
    obtain ⟨k, s', a'⟩ := o
    have bo : 0 ≤ k ∧ k ≤ x ∧ s' ≤ 500 ∧ a' ≤ 1000 := bo
    have bd : s' - s = k - 0 ∧ a' - a = k - 0 := bd
    have gk : rg k := by unfold rg; omega
    have X' : cSt T σ0 h' σ' s' a' e' := by
      refine ⟨⟨⟨g, pp⟩, SF⟩, b9, ⟨⟨by omega, by omega⟩, by omega, by omega⟩, ?_⟩
      cases e' with
      | inl S' =>
        obtain ⟨⟨c1, c2, c3, c4⟩, c5, c6, c7⟩ := ce
        exact ⟨⟨c1, c2, c3.trans e8, c4.trans e11⟩, c5, Int.le_trans c7 hz⟩
      | inr y =>
        cases y with
        | inl v =>
          obtain ⟨⟨c1, c2, c3, c4⟩, c5⟩ := ce
          exact ⟨⟨c1, c2, c3.trans e8, c4⟩, c5⟩
        | inr c =>
          obtain ⟨c1, c2, c3⟩ := ce
          exact ⟨c1, c2, c3.trans e11⟩
    have qr : isQ (hAt h' 54 11) := by
      obtain ⟨-, -, -, E'⟩ := X'
      cases e' with
      | inl S' => rw [E'.1.2.2.2]; exact Or.inl rfl
      | inr y =>
        cases y with
        | inl v => exact E'.1.1.qv
        | inr c => rw [E'.2.2]; exact Or.inl rfl
    refine ⟨k, s', a', e', h', σ', c, ?_, gk, f, ?_, X', Or.inr ⟨⟨⟨by omega, by omega⟩, trivial⟩, M_F_run gx ?_⟩⟩
    · unfold runS; rw [if_neg q]; exact ⟨_, G⟩
    · have bc : (c : Int) + cQe e' ≤ wkQ S + 258 * (k - 0) := bc
      show (c : Int) + cQe e' ≤ wkQ S + 258 * (a' - a)
      omega
    · unfold B_F_run
      rw [if_neg q1, if_neg q2]
      refine ⟨σ 54 7, h, σ, (M_Mc_phase (d := d + 19) ⟨rfl, rfl⟩).hh, by rw [e7]; exact rgk rfl, ?_⟩
      rw [if_pos e7]
      exact ⟨k, h', σ', M_Mc_go gx L, gk, _, h', σ', M_Mc_result (d := d + 21) ⟨_, rfl, qr, rfl, rfl, rfl⟩, qr, rfl, rfl, rfl⟩
end CRUN
