/-! The model's patternTypes: what it leaves; leaves that change no type. -/
def FP (σ σ' : Mem) (x : Int) : Prop := (∀ i, i ≠ 58 → i ≠ 76 → i ≠ 77 → i ≠ 78 → i ≠ 79 → i ≠ 80 → i ≠ 81 → i ≠ 82 → i ≠ 83 → i ≠ 85 → i ≠ 86 → i ≠ 87 → σ' i = σ i) ∧ (∀ k, k ≠ 30 → k ≠ 35 → k ≠ 38 → k ≠ 39 → k ≠ 43 → k ≠ 44 → k ≠ 45 → σ' 58 k = σ 58 k) ∧ (∀ i, i < x - 1 → σ' 83 i = σ 83 i) ∧ (σ 58 43 ≤ σ' 58 43 ∧ ∀ i, i < σ 58 43 → σ' 85 i = σ 85 i) ∧ σ 58 30 ≤ σ' 58 30 ∧ ∀ i, i < σ 58 30 → σ' 76 i = σ 76 i ∧ σ' 77 i = σ 77 i ∧ σ' 78 i = σ 78 i
/-- the names of a pattern were bound, in their order -/
def NmA (σ σ' : Mem) (A : Tr) (nu : Int → Int) : Prop := σ' 58 30 = σ 58 30 + (bnd A).length ∧ ∀ i : Nat, i < (bnd A).length → σ' 76 (σ 58 30 + i) = (bnd A).getD i 0 ∧ σ' 77 (σ 58 30 + i) = nu ((bnd A).getD i 0) ∧ σ' 78 (σ 58 30 + i) = 0
/-- the parts kept since -/
def PsA (σ σ' : Mem) : Int → Prop := fun q => ∃ i, σ 58 43 ≤ i ∧ i < σ' 58 43 ∧ q = σ' 85 i
section MP2
variable {σ σ' σ1 m : Mem} {d : Nat} {p x s l z : Int} {M : Int → Prop} {nu : Int → Int}
theorem FP.tr (a : FP σ σ1 x) (b : FP σ1 σ' x) : FP σ σ' x := by
  obtain ⟨a1, a2, a3, a4, a5, a6⟩ := a
  obtain ⟨b1, b2, b3, b4, b5, b6⟩ := b
  refine ⟨fun i h1 h2 h3 h4 h5 h6 h7 h8 h9 h10 h11 h12 => (b1 i h1 h2 h3 h4 h5 h6 h7 h8 h9 h10 h11 h12).trans (a1 i h1 h2 h3 h4 h5 h6 h7 h8 h9 h10 h11 h12), fun k h1 h2 h3 h4 h5 h6 h7 => (b2 k h1 h2 h3 h4 h5 h6 h7).trans (a2 k h1 h2 h3 h4 h5 h6 h7), fun i h => (b3 i h).trans (a3 i h), ⟨by omega, fun i h => (b4.2 i (by omega)).trans (a4.2 i h)⟩, by omega, fun i h => ?_⟩
  have q := b6 i (by omega)
  have r := a6 i h
  exact ⟨q.1.trans r.1, q.2.1.trans r.2.1, q.2.2.trans r.2.2⟩
theorem FP.lo {y : Int} (a : FP σ σ1 y) (h : x ≤ y) : FP σ σ1 x := ⟨a.1, a.2.1, fun i hi => a.2.2.1 i (by omega), a.2.2.2⟩
theorem FK.fp (f : FK σ σ') : FP σ σ' x := by
  have o83 := f.1 83 (by decide) (by decide) (by decide) (by decide) (by decide) (by decide) (by decide)
  have o85 := f.1 85 (by decide) (by decide) (by decide) (by decide) (by decide) (by decide) (by decide)
  have o76 := f.1 76 (by decide) (by decide) (by decide) (by decide) (by decide) (by decide) (by decide)
  have o77 := f.1 77 (by decide) (by decide) (by decide) (by decide) (by decide) (by decide) (by decide)
  have o78 := f.1 78 (by decide) (by decide) (by decide) (by decide) (by decide) (by decide) (by decide)
  have k43 := f.2 43 (by decide) (by decide) (by decide) (by decide) (by decide)
  have k30 := f.2 30 (by decide) (by decide) (by decide) (by decide) (by decide)
  exact ⟨fun i h1 _ _ _ h5 h6 h7 h8 _ _ h11 h12 => f.1 i h1 h5 h6 h7 h8 h11 h12, fun k _ h2 h3 h4 _ h6 h7 => f.2 k h2 h3 h4 h6 h7, fun i _ => by rw [o83], ⟨by omega, fun i _ => by rw [o85]⟩, by omega, fun i _ => by rw [o76, o77, o78]; exact ⟨rfl, rfl, rfl⟩⟩
theorem ptM.fp : FP σ (ptM σ l) x := by
  have k43 : ptM σ l 58 43 = σ 58 43 + 1 := ptM_43
  have k30 : ptM σ l 58 30 = σ 58 30 := ptM_fx.2 30 (by decide)
  refine ⟨fun i h1 _ _ _ _ _ _ _ _ h10 _ _ => ptM_fx.1 i h1 h10, fun k _ _ _ _ h5 _ _ => ptM_fx.2 k h5, fun i _ => by rw [ptM_fx.1 83 (by decide) (by decide)], ⟨by omega, fun i h => by rw [ptM_85, if_neg (by omega)]⟩, by omega, fun i _ => by rw [ptM_fx.1 76 (by decide) (by decide), ptM_fx.1 77 (by decide) (by decide), ptM_fx.1 78 (by decide) (by decide)]; exact ⟨rfl, rfl, rfl⟩⟩
theorem bdM_fx : (∀ i, i ≠ 58 → i ≠ 76 → i ≠ 77 → i ≠ 78 → bdM σ z l i = σ i) ∧ ∀ k, k ≠ 30 → bdM σ z l 58 k = σ 58 k := ⟨fun i h1 h2 h3 h4 => by unfold bdM; rw [mup_obj h1, mup_obj h4, mup_obj h3, mup_obj h2], fun k h => by unfold bdM; rw [mup_nk h, mup_ne (by decide), mup_ne (by decide), mup_ne (by decide)]⟩
theorem bdM_mt (H : MT σ) : MT (bdM σ z l) ∧ mS (bdM σ z l) = mS σ := H.cg (bdM_fx.1 79 (by decide) (by decide) (by decide) (by decide)) (bdM_fx.1 80 (by decide) (by decide) (by decide) (by decide)) (bdM_fx.1 81 (by decide) (by decide) (by decide) (by decide)) (bdM_fx.1 82 (by decide) (by decide) (by decide) (by decide)) (bdM_fx.2 35 (by decide))
theorem bdM_30 : bdM σ z l 58 30 = σ 58 30 + 1 := mup_eq
theorem bdM_r {i : Int} : bdM σ z l 76 i = (if i = σ 58 30 then z else σ 76 i) ∧ bdM σ z l 77 i = (if i = σ 58 30 then l else σ 77 i) ∧ bdM σ z l 78 i = if i = σ 58 30 then 0 else σ 78 i := by
  unfold bdM
  refine ⟨?_, ?_, ?_⟩
  · rw [mup_ne (by decide), mup_ne (by decide), mup_ne (by decide)]
    by_cases e : i = σ 58 30
    · rw [if_pos e, e, mup_eq]
    · rw [if_neg e, mup_nk e]
  · rw [mup_ne (by decide), mup_ne (by decide)]
    by_cases e : i = σ 58 30
    · rw [if_pos e, e, mup_eq]
    · rw [if_neg e, mup_nk e, mup_ne (by decide)]
  · rw [mup_ne (by decide)]
    by_cases e : i = σ 58 30
    · rw [if_pos e, e, mup_eq]
    · rw [if_neg e, mup_nk e, mup_ne (by decide), mup_ne (by decide)]
theorem bdM.fp : FP σ (bdM σ z l) x := by
  have k30 : bdM σ z l 58 30 = σ 58 30 + 1 := bdM_30
  have k43 : bdM σ z l 58 43 = σ 58 43 := bdM_fx.2 43 (by decide)
  refine ⟨fun i h1 h2 h3 h4 _ _ _ _ _ _ _ _ => bdM_fx.1 i h1 h2 h3 h4, fun k h _ _ _ _ _ _ => bdM_fx.2 k h, fun i _ => by rw [bdM_fx.1 83 (by decide) (by decide) (by decide) (by decide)], ⟨by omega, fun i _ => by rw [bdM_fx.1 85 (by decide) (by decide) (by decide) (by decide)]⟩, by omega, fun i h => ?_⟩
  obtain ⟨a, b, c⟩ := bdM_r (σ := σ) (z := z) (l := l) (i := i)
  rw [a, b, c, if_neg (by omega), if_neg (by omega), if_neg (by omega)]
  exact ⟨rfl, rfl, rfl⟩
/-- where the types are wrong the loop ends -/
theorem pt_ill (hp : 0 ≤ p ∧ p < 124) (hx : rg x) (hs : rg s) (hi : σ 58 44 ≠ 0) : Lb (d + 11) yMo_patternTypes 25 [(0, .ref 58), (1, vi p), (3, vi x), (4, vi s)] [] σ none σ := by
  refine K_Mo_patternTypes_25 (d := d + 8) ⟨by omega, by omega⟩ hx hs ?_
  unfold B_Mo_patternTypes_25
  refine ⟨hp, ?_⟩
  by_cases q : s ≥ σ 62 p
  · rw [if_pos q]; exact ⟨rfl, rfl⟩
  · rw [if_neg q, if_pos hi]; exact ⟨rfl, rfl⟩
/-- _ -/
theorem pq_any (H : MT σ) (hM : inC (mS σ) M) (hl : M l) : QRes (mS σ) (mS (ptM σ l)) M 0 (nd 7 0 nl nl nl) (PsA σ (ptM σ l)) nu l := by
  rw [(ptM_mt (l := l) H).2]
  have q := QR_any (nu := nu) (h := 0) H.1 hM hl
  have e : (fun y => y = l) = PsA σ (ptM σ l) := by
    funext y
    refine propext ⟨fun h => ⟨σ 58 43, Int.le_refl _, by rw [ptM_43]; omega, by rw [ptM_85, if_pos rfl]; exact h⟩, fun ⟨i, h1, h2, h3⟩ => ?_⟩
    rw [ptM_43] at h2
    rw [h3, ptM_85, if_pos (by omega)]
  rw [← e]; exact q
end MP2
