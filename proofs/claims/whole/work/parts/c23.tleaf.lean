/-! [ ], R and I. -/
section TLF
variable {S S1 S2 S' : TS} {M : Int → Prop} {h j n : Int} {ρ : Int → GT} {E : List (Int × Int)}
theorem TR_emp {t t2 lv : Int} (I : EnvI S h E M) (hh : h ≤ 999) (W : SO S) (c0 : 0 ≤ S.2.1) (e1 : S1 = adT S (0, -1, t) h) (e2 : S2 = adT S1 (4, S.2.1, t2) lv) : TRes S S2 E M h (nd 3 0 nl nl nl) (fun p => p = S1.2.1) S1.2.1 := by
  have n1 : nwT S (0, -1, t) := Or.inl ⟨rfl, by show (-1 : Int) < 0; decide⟩
  have s1 : TSt S S1 M h := by rw [e1]; exact ad_S W c0 n1 (fun _ => by omega)
  have c1 : S1.2.1 = S.2.1 + 1 := by rw [e1]; rfl
  have rp : Res S M h S1 S.2.1 := by rw [e1]; exact fresh_r (S1 := S) XE.rf c0
  have hR1 : ∀ m, M m → Res S M h S1 m := fun m q => Res.m s1.2.1 I.1 q
  have n2 : nwT S1 (4, S.2.1, t2) := Or.inr (Or.inl ⟨rfl, rp.1⟩)
  have s2 : TSt S1 S2 M h := by rw [e2]; exact ad_S s1.1 (by omega) n2 (fun q => absurd q (by show ¬ (4 : Int) = 0; decide))
  have c2 : S2.2.1 = S1.2.1 + 1 := by rw [e2]; rfl
  have k2 : S2.1 S1.2.1 = (4, S.2.1, t2) := by rw [e2]; exact ad_c
  have rk : Res S M h S2 S1.2.1 := Res.p4 ⟨by omega, by omega⟩ k2 (rp.up s2.2.1 s1.2.1.1 hR1)
  have vl : ∀ {ρ}, VS S2.1 S2.2.1 ρ → ρ S1.2.1 = gL (ρ S.2.1) := fun {ρ} V => by
    rw [e2] at V
    exact (ad_r s1.1 (by omega) V).1 rfl
  refine ⟨s1.tr s2 hR1, rk, fun p q => by rw [q]; exact rk.1, fun ρ V => ⟨⟨fun _ e => (by cases e), _, vl V⟩, fun hp => ⟨fun _ _ => hp _ rfl, _, vl V⟩⟩, fun w ρ s V z => ?_⟩
  obtain ⟨z1, a, z2⟩ := z
  obtain ⟨ρ1, V1, o1, ep⟩ := ad_x (lv := h) W c0 n1 V a (Or.inl ⟨rfl, by show (-1 : Int) < 0; decide⟩)
  rw [← e1] at V1
  obtain ⟨ρ2, V2, o2, ek⟩ := ad_x (lv := lv) s1.1 (by omega) n2 V1 _ (Or.inr (Or.inl ⟨rfl, rfl⟩))
  rw [← e2] at V2
  have es : ρ2 S1.2.1 = s := by
    rw [ek, z2]
    show gL (ρ1 S.2.1) = gL a
    rw [ep]
  exact ⟨ρ2, V2, fun n p q => (o2 n p (by omega)).trans (o1 n p q), es, fun e p q => by rw [q, es]; exact z1 (by decide) e⟩
theorem TR_bi {z a b ja jb lv : Int} (I : EnvI S h E M) (W : SO S) (c0 : 0 ≤ S.2.1) (ba : bsN S a ja) (bb : bsN S b jb) (e1 : S1 = adT S (5, a, b) lv) (hz : (if z = 82 then gA (gK 1) (gK 3) else gA (gK 3) (gK 1)) = gA (gK ja) (gK jb)) : TRes S S1 E M h (nd 4 z nl nl nl) (fun p => p = S.2.1) S.2.1 := by
  have n1 : nwT S (5, a, b) := Or.inr (Or.inr ⟨rfl, ba.1, bb.1⟩)
  have s1 : TSt S S1 M h := by rw [e1]; exact ad_S W c0 n1 (fun q => absurd q (by show ¬ (5 : Int) = 0; decide))
  have c1 : S1.2.1 = S.2.1 + 1 := by rw [e1]; rfl
  have k1 : S1.1 S.2.1 = (5, a, b) := by rw [e1]; exact ad_c
  have ba1 := ba.up s1.2.1
  have bb1 := bb.up s1.2.1
  have rk : Res S M h S1 S.2.1 := Res.p5 ⟨c0, by omega⟩ k1 ba1.r bb1.r
  have vl : ∀ {ρ}, VS S1.1 S1.2.1 ρ → ρ S.2.1 = gA (gK ja) (gK jb) := fun {ρ} V => by
    have e := V
    rw [e1] at e
    have e := (ad_r W c0 e).2 rfl
    rw [e]
    show gA (ρ a) (ρ b) = _
    rw [ba1.v V, bb1.v V]
  refine ⟨s1, rk, fun p q => by rw [q]; exact rk.1, fun ρ V => ⟨⟨fun _ e => (by cases e), (vl V).trans hz.symm⟩, fun hp => ⟨fun _ _ => hp _ rfl, (vl V).trans hz.symm⟩⟩, fun w ρ s V y => ?_⟩
  obtain ⟨y1, y2⟩ := y
  obtain ⟨ρ1, V1, o1, ep⟩ := ad_x (lv := lv) W c0 n1 V _ (Or.inr (Or.inr ⟨rfl, rfl⟩))
  rw [← e1] at V1
  have es : ρ1 S.2.1 = s := (vl V1).trans (hz.symm.trans y2.symm)
  exact ⟨ρ1, V1, o1, es, fun e p q => by rw [q, es]; exact y1 (by decide) e⟩
end TLF
