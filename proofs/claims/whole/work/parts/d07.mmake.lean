/-! The model adds a node; its rows of types. -/
def FK (σ σ' : Mem) : Prop := (∀ i, i ≠ 58 → i ≠ 79 → i ≠ 80 → i ≠ 81 → i ≠ 82 → i ≠ 86 → i ≠ 87 → σ' i = σ i) ∧ ∀ k, k ≠ 35 → k ≠ 38 → k ≠ 39 → k ≠ 44 → k ≠ 45 → σ' 58 k = σ 58 k
/-- the memory after a node was made -/
def mkM (σ : Mem) (k a b : Int) : Mem := mup (mup (mup (mup (mup σ 79 (σ 58 35) k) 80 (σ 58 35) a) 81 (σ 58 35) b) 82 (σ 58 35) (-1)) 58 35 (σ 58 35 + 1)
section MMK
variable {σ σ' σ1 : Mem} {d : Nat} {k a b : Int}
theorem FK.tr (x : FK σ σ1) (y : FK σ1 σ') : FK σ σ' := ⟨fun i h1 h2 h3 h4 h5 h6 h7 => (y.1 i h1 h2 h3 h4 h5 h6 h7).trans (x.1 i h1 h2 h3 h4 h5 h6 h7), fun k h1 h2 h3 h4 h5 => (y.2 k h1 h2 h3 h4 h5).trans (x.2 k h1 h2 h3 h4 h5)⟩
theorem FK.rf : FK σ σ := ⟨fun _ _ _ _ _ _ _ _ => rfl, fun _ _ _ _ _ _ => rfl⟩
theorem FU.fk (x : FU σ σ') : FK σ σ' := ⟨fun i h1 _ h3 _ _ h6 h7 => x.1 i h1 h3 h6 h7, fun k _ h2 _ h4 h5 => x.2 k h4 h5 h2⟩
theorem FW.fk (x : FW σ σ') : FK σ σ' := x.fu.fk
theorem FW2.fk (x : FW2 σ σ') : FK σ σ' := x.fu.fk
theorem mkM.fk : FK σ (mkM σ k a b) := ⟨fun i h1 h2 h3 h4 h5 _ _ => by unfold mkM; rw [mup_obj h1, mup_obj h5, mup_obj h4, mup_obj h3, mup_obj h2], fun k h _ _ _ _ => by unfold mkM; rw [mup_nk h, mup_ne (by decide), mup_ne (by decide), mup_ne (by decide), mup_ne (by decide)]⟩
theorem mkM.fk_39 : mkM σ k a b 58 39 = σ 58 39 := by unfold mkM; rw [mup_nk (by decide), mup_ne (by decide), mup_ne (by decide), mup_ne (by decide), mup_ne (by decide)]
theorem mkM_79 {n : Int} : mkM σ k a b 79 n = if n = σ 58 35 then k else σ 79 n := by
  unfold mkM
  rw [mup_ne (by decide), mup_ne (by decide), mup_ne (by decide), mup_ne (by decide)]
  by_cases e : n = σ 58 35
  · rw [if_pos e, e, mup_eq]
  · rw [if_neg e, mup_nk e]
theorem mkM_80 {n : Int} : mkM σ k a b 80 n = if n = σ 58 35 then a else σ 80 n := by
  unfold mkM
  rw [mup_ne (by decide), mup_ne (by decide), mup_ne (by decide)]
  by_cases e : n = σ 58 35
  · rw [if_pos e, e, mup_eq]
  · rw [if_neg e, mup_nk e, mup_ne (by decide)]
theorem mkM_81 {n : Int} : mkM σ k a b 81 n = if n = σ 58 35 then b else σ 81 n := by
  unfold mkM
  rw [mup_ne (by decide), mup_ne (by decide)]
  by_cases e : n = σ 58 35
  · rw [if_pos e, e, mup_eq]
  · rw [if_neg e, mup_nk e, mup_ne (by decide), mup_ne (by decide)]
theorem mkM_82 {n : Int} : mkM σ k a b 82 n = if n = σ 58 35 then -1 else σ 82 n := by
  unfold mkM
  rw [mup_ne (by decide)]
  by_cases e : n = σ 58 35
  · rw [if_pos e, e, mup_eq]
  · rw [if_neg e, mup_nk e, mup_ne (by decide), mup_ne (by decide), mup_ne (by decide)]
theorem mkM_c : mkM σ k a b 58 35 = σ 58 35 + 1 := by unfold mkM; exact mup_eq
theorem r_make (h0 : 0 ≤ σ 58 35) (h1 : σ 58 35 < 1300) (hk : rg k) (ha : rg a) (hb : rg b) : Rn (d + 4) yMo_make [.ref 58, vi k, vi a, vi b] σ (some (σ 58 35)) (mkM σ k a b) := by
  refine M_Mo_make hk ha hb ?_
  unfold B_Mo_make
  exact ⟨⟨h0, h1⟩, ⟨h0, h1⟩, ⟨h0, h1⟩, ⟨h0, h1⟩, ⟨by omega, by omega⟩, ⟨by omega, by omega⟩, by rw [show σ 58 35 + 1 - 1 = σ 58 35 by omega], rfl⟩
theorem mkM_S : mS (mkM σ k a b) = adT (mS σ) (k, a, if k = 5 then b else 0) (if b = 1 then 1000 else 0) := by
  refine Prod.ext ?_ (Prod.ext (mkM_c (k := k) (a := a) (b := b)) ?_)
  · funext n
    show (mkM σ k a b 79 n, mkM σ k a b 80 n, if mkM σ k a b 79 n = 5 then mkM σ k a b 81 n else 0) = if n = σ 58 35 then (k, a, if k = 5 then b else 0) else (σ 79 n, σ 80 n, if σ 79 n = 5 then σ 81 n else 0)
    rw [mkM_79, mkM_80, mkM_81]
    by_cases e : n = σ 58 35
    · rw [if_pos e, if_pos e, if_pos e, if_pos e]
    · rw [if_neg e, if_neg e, if_neg e, if_neg e]
  · funext n
    show (if mkM σ k a b 81 n = 1 then (1000 : Int) else 0) = if n = σ 58 35 then (if b = 1 then 1000 else 0) else if σ 81 n = 1 then 1000 else 0
    rw [mkM_81]
    by_cases e : n = σ 58 35
    · rw [if_pos e, if_pos e]
    · rw [if_neg e, if_neg e]
/-- what can be made -/
def nwM (σ : Mem) (k a b : Int) : Prop := (k = 0 ∧ a = -1 ∧ b = 0) ∨ (k = 4 ∧ (0 ≤ a ∧ a < σ 58 35) ∧ b = 0) ∨ (k = 5 ∧ (0 ≤ a ∧ a < σ 58 35) ∧ 0 ≤ b ∧ b < σ 58 35)
theorem nwM.nw (x : nwM σ k a b) : nwT (mS σ) (k, a, if k = 5 then b else 0) := by
  rcases x with ⟨e, e2, -⟩ | ⟨e, h, -⟩ | ⟨e, h, h2⟩
  · exact Or.inl ⟨e, by show a < 0; omega⟩
  · exact Or.inr (Or.inl ⟨e, h⟩)
  · refine Or.inr (Or.inr ⟨e, h, ?_⟩)
    show 0 ≤ (if k = 5 then b else 0) ∧ (if k = 5 then b else 0) < σ 58 35
    rw [if_pos e]; exact h2
theorem m_make (H : MT σ) (hc : σ 58 35 < 1300) (x : nwM σ k a b) : Rn (d + 4) yMo_make [.ref 58, vi k, vi a, vi b] σ (some (σ 58 35)) (mkM σ k a b) ∧ MT (mkM σ k a b) ∧ ∀ M h, TSt (mS σ) (mS (mkM σ k a b)) M h := by
  have c0 := H.2.1
  have nx := x.nw
  have so : ∀ M h, TSt (mS σ) (mS (mkM σ k a b)) M h := fun M h => by
    rw [mkM_S]
    refine ad_S H.1 (by show 0 ≤ σ 58 35; omega) nx (fun _ => ?_)
    split <;> decide
  have hr : rg k ∧ rg a ∧ rg b := by
    rcases x with ⟨e, e2, e3⟩ | ⟨e, h, e3⟩ | ⟨e, h, h2⟩
    · exact ⟨⟨by omega, by omega⟩, ⟨by omega, by omega⟩, ⟨by omega, by omega⟩⟩
    · exact ⟨⟨by omega, by omega⟩, ⟨by omega, by omega⟩, ⟨by omega, by omega⟩⟩
    · exact ⟨⟨by omega, by omega⟩, ⟨by omega, by omega⟩, ⟨by omega, by omega⟩⟩
  refine ⟨r_make (by omega) hc hr.1 hr.2.1 hr.2.2, ⟨(so (fun _ => False) 0).1, by rw [mkM_c]; omega, ?_, fun n h0 h1 => ?_, fun n h0 h1 => ?_, fun n h0 h1 => ?_, ?_⟩, so⟩
  · rw [mkM_79, mkM_79, mkM_79, if_neg (by omega), if_neg (by omega), if_neg (by omega)]
    exact H.2.2.1
  · rw [mkM_c] at h1
    rw [mkM_79]
    by_cases e : n = σ 58 35
    · rw [if_pos e]; unfold nwM at x; omega
    · rw [if_neg e]; exact H.2.2.2.1 n h0 (by omega)
  · rw [mkM_c] at h1
    rw [mkM_79, mkM_80, mkM_81]
    by_cases e : n = σ 58 35
    · rw [if_pos e, if_pos e, if_pos e]
      rcases x with ⟨e1, e2, e3⟩ | ⟨e1, h, e3⟩ | ⟨e1, h, h2⟩
      · exact ⟨fun _ => ⟨by omega, Or.inl e3⟩, fun _ => e3⟩
      · exact ⟨fun z => by omega, fun _ => e3⟩
      · exact ⟨fun z => by omega, fun z => by omega⟩
    · rw [if_neg e, if_neg e, if_neg e]; exact H.2.2.2.2.1 n h0 (by omega)
  · rw [mkM_c] at h1
    rw [mkM_82]
    by_cases e : n = σ 58 35
    · rw [if_pos e]
    · rw [if_neg e]; exact H.2.2.2.2.2.1 n h0 (by omega)
  · obtain ⟨ρ, V⟩ := H.2.2.2.2.2.2
    rw [mkM_S]
    obtain ⟨ρ', V', -⟩ := ad_x (lv := if b = 1 then 1000 else 0) H.1 (by show 0 ≤ σ 58 35; omega) nx V (if k = 4 then gL (ρ a) else gA (ρ a) (ρ (if k = 5 then b else 0))) (by
      rcases x with ⟨e1, e2, e3⟩ | ⟨e1, h, e3⟩ | ⟨e1, h, h2⟩
      · exact Or.inl ⟨e1, by show a < 0; omega⟩
      · exact Or.inr (Or.inl ⟨e1, by rw [if_pos e1]⟩)
      · exact Or.inr (Or.inr ⟨e1, by rw [if_neg (by omega)]⟩))
    exact ⟨ρ', V'⟩
theorem m_fresh (H : MT σ) (hc : σ 58 35 < 1300) : Rn (d + 5) yMo_fresh [.ref 58] σ (some (σ 58 35)) (mkM σ 0 (-1) 0) := M_Mo_fresh (d := d + 1) ⟨_, _, (m_make (d := d) H hc (Or.inl ⟨rfl, rfl, rfl⟩)).1, rfl, rfl⟩
/-- a type is pushed; the memory after it -/
def puM (σ : Mem) (x : Int) : Mem := mup (mup (mup (mup σ 83 (σ 58 37) x) 58 37 (σ 58 37 + 1)) 85 (σ 58 43) x) 58 43 (σ 58 43 + 1)
theorem r_push {x : Int} (hx : rg x) (h1 : 0 ≤ σ 58 37 ∧ σ 58 37 < 120) (h2 : 0 ≤ σ 58 43 ∧ σ 58 43 < 260) : Rn (d + 4) yMo_push [.ref 58, vi x] σ none (puM σ x) := M_Mo_push hx ⟨h1, ⟨by omega, by omega⟩, h2, ⟨by omega, by omega⟩, rfl, rfl⟩
theorem r_pop (h1 : 1 ≤ σ 58 37 ∧ σ 58 37 ≤ 120) : Rn (d + 4) yMo_pop [.ref 58] σ (some (σ 83 (σ 58 37 - 1))) (mup σ 58 37 (σ 58 37 - 1)) := M_Mo_pop ⟨⟨by omega, by omega⟩, ⟨by omega, by omega⟩, rfl, rfl⟩
def bdM (σ : Mem) (z x : Int) : Mem := mup (mup (mup (mup σ 76 (σ 58 30) z) 77 (σ 58 30) x) 78 (σ 58 30) 0) 58 30 (σ 58 30 + 1)
theorem r_bind {z x : Int} (hz : rg z) (hx : rg x) (h1 : 0 ≤ σ 58 30 ∧ σ 58 30 < 64) : Rn (d + 4) yMo_bind [.ref 58, vi z, vi x] σ none (bdM σ z x) := M_Mo_bind hz hx ⟨h1, h1, h1, ⟨by omega, by omega⟩, rfl, rfl⟩
end MMK
