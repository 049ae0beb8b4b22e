/-! Both: what they hold between calls. -/
/-- what is looked at -/
def lkS (σc σm : Mem) (h : mHp) (σ : Mem) : WkE → Prop
  | .inr (.inl v) => ∃ (k : Nat) (w : Va), itmV k v w ∧ RPv h (nT σc) h.1 w false (hAt h 1 9) ∧ (∃ y, hAt h 58 69 = vlg y ∧ RMv h σ (pfM σm) (mOf σ) w false y) ∧ σ 58 70 = k
  | _ => hAt h 1 9 = .null
/-- a program was loaded -/
def bSt (T : Tr) (σc σm : Mem) (h : mHp) (σ : Mem) (s a : Int) (e : WkE) : Prop := (rmB T ∧ (∀ {v : Va}, (∃ m n g ρ, Run T m ([], ρ, [v], []) n g) → ∀ s, tyE T false [] s → VTy FP.Core.DFin s 0 v) ∧ ∃ cs : List Int, TYP T cs ∧ (1 ≤ cs.length ∧ cs.length ≤ 80) ∧ ∀ i : Nat, i < cs.length → σ 88 i = cs.getD i 0) ∧ cSt T σc h σ s a e ∧ moS T σm h σ s a e ∧ lkS σc σm h σ e
section BOTH
variable {h h' h1 : mHp} {σc σm σ σ' σ1 : Mem} {d : Nat} {s a x k s' a' : Int} {T : Tr} {S : WkS} {e e' : WkE} {v : Va}
/-- what neither looks at -/
def keB (h h' : mHp) (σ σ' : Mem) : Prop := keC h h' σ σ' ∧ keM h h' σ σ' ∧ (σ' 88 = σ 88 ∧ hAt h' 1 9 = hAt h 1 9 ∧ hAt h' 58 69 = hAt h 58 69 ∧ σ' 58 70 = σ 58 70)
theorem lkS.ke (k : keB h h' σ σ') (X : lkS σc σm h σ e) : lkS σc σm h' σ' e := by
  obtain ⟨kc, km, k88, k19, k69, k70⟩ := k
  cases e with
  | inl S => exact k19.trans X
  | inr y =>
    cases y with
    | inl v =>
      obtain ⟨k, w, it, r, ⟨y, ey, ry⟩, e70⟩ := X
      exact ⟨k, w, it, by rw [k19]; exact r.mv kc.1.2 kc.1.1, ⟨y, k69.trans ey, km.rv ry⟩, k70.trans e70⟩
    | inr c => exact k19.trans X
theorem bSt.ke (k : keB h h' σ σ') (X : bSt T σc σm h σ s a e) : bSt T σc σm h' σ' s a e := by
  obtain ⟨⟨rb, ty, cs, t, l, q⟩, C, M, L⟩ := X
  exact ⟨⟨rb, ty, cs, t, l, fun i hi => by rw [k.2.2.1]; exact q i hi⟩, C.ke k.1, M.ke k.2.1, L.ke k⟩
theorem bSt.st (X : bSt T σc σm h σ s a e) : StE σ := by
  obtain ⟨-, ⟨-, ⟨c9, c10⟩, -, C⟩, ⟨-, ⟨m67, m68⟩, M⟩, -⟩ := X
  cases e with
  | inl S =>
    obtain ⟨⟨-, c7, c8, -⟩, -⟩ := C
    obtain ⟨⟨-, m65, m66⟩, -⟩ := M
    exact ⟨c7.trans m65.symm, c8.trans m66.symm, c9.trans m67.symm, c10.trans m68.symm⟩
  | inr y =>
    cases y with
    | inl v =>
      obtain ⟨⟨-, c7, c8, -⟩, -⟩ := C
      obtain ⟨-, m65, m66⟩ := M
      exact ⟨c7.trans m65.symm, c8.trans m66.symm, c9.trans m67.symm, c10.trans m68.symm⟩
    | inr c =>
      obtain ⟨c7, c8, -⟩ := C
      obtain ⟨m65, m66⟩ := M
      exact ⟨c7.trans m65.symm, c8.trans m66.symm, c9.trans m67.symm, c10.trans m68.symm⟩
/-- what kpW keeps is enough -/
theorem keB.of (k : kpW σ σ') (hc : h.1 ≤ h'.1 ∧ smC h.1 h h') (h5 : ∀ i x, i = 54 ∨ i = 55 ∨ i = 89 ∨ (92 ≤ i ∧ i ≤ 97) → hAt h' i x = hAt h i x) (h1 : hAt h' 1 9 = hAt h 1 9) (h6 : hAt h' 58 69 = hAt h 58 69) : keB h h' σ σ' := by
  have n : ∀ z : Int, z = 11 ∨ z = 51 ∨ z = 54 ∨ z = 57 ∨ z = 58 ∨ z = 61 ∨ z = 63 ∨ z = 64 ∨ z = 65 ∨ z = 66 ∨ z = 67 ∨ z = 68 ∨ z = 70 → σ' 58 z = σ 58 z := fun z hz => k.2 z (by
    unfold mlK mfP
    rintro (q | q | q)
    · omega
    · rcases hz with rfl | rfl | rfl | rfl | rfl | rfl | rfl | rfl | rfl | rfl | rfl | rfl | rfl <;> exact absurd q (by decide)
    · omega) (by omega) (by omega)
  exact ⟨⟨hc, fun x => h5 54 x (by omega), fun x => h5 55 x (by omega), fun i h0 h1 => k.1 i (by omega), k.1 54 (by omega)⟩, ⟨fun i x hi => h5 i x (by omega), fun i hi => k.1 i (by omega), fun z hz => n z (by omega)⟩, k.1 88 (by omega), h1, h6, n 70 (by omega)⟩
theorem smC.rfl' {n : Nat} : smC n h h := fun _ _ _ => ⟨rfl, fun _ => rfl⟩
theorem keB.mem (k : kpW σ σ') : keB h h σ σ' := keB.of k ⟨Nat.le_refl _, smC.rfl'⟩ (fun _ _ _ => rfl) rfl rfl
theorem keB.new {t n : Nat} {f : Nat → Value} (H : 100 ≤ h.1) (k : kpW σ σ') : keB h (hNew h t n f) σ σ' := keB.of k ⟨Nat.le_succ _, smC.new⟩ (fun i x hi => at_new (by omega) x) (at_new (by omega) 9) (at_new (by omega) 69)
theorem keB.out {i k : Nat} {u : Value} (hi : i = 98 ∨ i = 99) : keB h (hSet h i k u) σ σ := keB.of kpW.rf ⟨Nat.le_refl _, smC.set (Or.inl (by omega))⟩ (fun j x hj => at_ne (by omega) x) (at_ne (by omega) 9) (at_ne (by omega) 69)
theorem keB.tr (x : keB h h1 σ σ1) (y : keB h1 h' σ1 σ') : keB h h' σ σ' := by
  obtain ⟨⟨⟨a1, a2⟩, a3, a4, a5, a6⟩, am, b1, b2, b3, b4⟩ := x
  obtain ⟨⟨⟨c1, c2⟩, c3, c4, c5, c6⟩, cm, d1, d2, d3, d4⟩ := y
  exact ⟨⟨⟨Nat.le_trans a1 c1, a2.tr (c2.le a1)⟩, fun x => (c3 x).trans (a3 x), fun x => (c4 x).trans (a4 x), fun i p q => (c5 i p q).trans (a5 i p q), c6.trans a6⟩, am.tr cm, d1.trans b1, d2.trans b2, d3.trans b3, d4.trans b4⟩
/-- a run leaves the model's lot, or the class's, alone -/
theorem frGo.km {c : Nat} (f : frGo c h h' σ σ') (n : hAt h' 58 69 = hAt h 58 69 ∨ True) : keM h h' σ σ' := ⟨fun i x hi => f.2.2.1 i (by omega) (by omega) (by omega) x, fun i hi => f.2.2.2.1 i (by omega), fun k _ => by rw [f.2.2.2.1 58 (by decide)]⟩
theorem frRm.kc (f : frRm h h' σ σ') : keC h h' σ σ' := ⟨⟨Nat.le_of_eq f.1.1.symm, fun i h0 _ => ⟨(f.2.2.1 i).1, fun x => f.2.1 i x (by omega) (by omega) (by omega)⟩⟩, fun x => f.2.1 54 x (by omega) (by omega) (by omega), fun x => f.2.1 55 x (by omega) (by omega) (by omega), fun i h0 h1 => f.2.2.2.1 i (by omega) (by omega) (by omega) (by omega), f.2.2.2.1 54 (by omega) (by omega) (by omega) (by omega)⟩
end BOTH
