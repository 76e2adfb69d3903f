/-! ===== a record more: it holds itself; births, weddings, the title, late deaths are taken ===== -/
section XFB
variable {S : xS} {K D a b c w : Int}
theorem ad_nobr (h : FM S) (hA : AC S K D a b) (hkw : kwn S K a b c) {i : Nat} (hi : 1 ≤ i ∧ i ≤ 9) (h7 : i = 7 → K ≠ 1) (hn : hold (adR S K D a b c w) i (sn S)) : ¬ breaks (adR S K D a b c w) i := by
  rintro ⟨r, r1, r2, r3⟩
  have r1' : r < sn S + 1 := r1
  by_cases er : r = sn S
  · subst er; exact r3 hn
  · exact r3 (ad_hold h hA hkw (by omega) hi h7)
theorem ad_FM (h : FM S) (ho : rdO K D a b c w) (hkw : kwn S K a b c) (hr : rom S K) (hK : K = 0 ∨ K = 1 ∨ K = 3 ∨ K = 4) (hf : fstB (breaks (adR S K D a b c w)) 9 1 = 0) : FM (adR S K D a b c w) := by
  refine ⟨⟨ad_WF h.1.1 ho hkw hr, ad_NM h.1.1 h.1.2.1 ho hkw, hf⟩, fun r hr => ?_⟩
  have hr' : r < sn S + 1 := hr
  by_cases er : r = sn S
  · subst er
    obtain ⟨n1, n2, n3, n4, n5, n6, n7⟩ := ad_new (S := S) (K := K) (D := D) (a := a) (b := b) (c := c) (w := w)
    exact ⟨n7, by rw [n1]; exact hK⟩
  · obtain ⟨o1, o2, o3, o4, o5, o6, o7⟩ := ad_old (K := K) (D := D) (a := a) (b := b) (c := c) (w := w) (S := S) (q := r) er
    rw [o1, o7]
    exact h.2 r (by omega)
/-- a birth is taken -/
theorem birth_ok (h : FM S) {f m : Int} (hf : f = -1 ∨ (isP S f ∧ wMale S f ∧ ageOk S f D 300)) (hm : m = -1 ∨ (isP S m ∧ ¬ wMale S m ∧ ageOk S m D 0)) : kwn S 0 (-1) f m ∧ fstB (breaks (adR S 0 D (-1) f m w)) 9 1 = 0 := by
  have hkw : kwn S 0 (-1) f m := ⟨fun _ => ⟨hf.imp id (fun z => z.1), hm.imp id (fun z => z.1)⟩, fun z => absurd z.1 (by decide), fun z => absurd z (by decide), fun z => absurd z (by decide)⟩
  refine ⟨hkw, fst0 (fun i i1 i9 => ?_)⟩
  have hA : AC S 0 D (-1) f := ⟨Or.inl rfl, fun z => absurd z (by decide), fun z => absurd z (by decide)⟩
  refine ad_nobr h hA hkw ⟨i1, i9⟩ (fun _ => by decide) ?_
  obtain ⟨n1, n2, n3, n4, n5, n6, n7⟩ := ad_new (S := S) (K := 0) (D := D) (a := -1) (b := f) (c := m) (w := w)
  rw [if_neg (by decide)] at n4
  have ag : ∀ p g, isP S p → ageOk S p D g → ageOk (adR S 0 D (-1) f m w) p D g := fun p g hp z => by
    unfold ageOk at z ⊢
    rw [(ad_b h.1.1 ⟨hp.1, hp.2.1⟩).1, ad_dead h.1.1 (fun y => absurd y.1 (by decide))]
    exact z
  have hi9 : i = 1 ∨ i = 2 ∨ i = 3 ∨ i = 4 ∨ i = 5 ∨ i = 6 ∨ i = 7 ∨ i = 8 ∨ i = 9 := by omega
  rcases hi9 with rfl | rfl | rfl | rfl | rfl | rfl | rfl | rfl | rfl
  · show hB1 _ _
    unfold hB1 uni
    rw [n1, n4, n5]
    refine ⟨fun _ => ⟨?_, ?_⟩, fun z => absurd z (by decide)⟩
    · rcases hf with z | z
      · exact Or.inl (by omega)
      · exact Or.inr ((ad_b h.1.1 ⟨z.1.1, z.1.2.1⟩).2.2.2.mpr z.2.1)
    · rcases hm with z | z
      · exact Or.inl (by omega)
      · exact Or.inr (fun y => z.2.1 ((ad_b h.1.1 ⟨z.1.1, z.1.2.1⟩).2.2.2.mp y))
  · show hB2 _ _
    unfold hB2
    rw [n1]
    exact fun z => absurd z (by decide)
  · show hB3 _ _
    unfold hB3
    rw [n2, n5]
    intro _
    rcases hm with z | z
    · exact Or.inl (by omega)
    · exact Or.inr (ag _ _ z.1 z.2.2)
  · show hB4 _ _
    unfold hB4
    rw [n2, n4]
    intro _
    rcases hf with z | z
    · exact Or.inl (by omega)
    · exact Or.inr (ag _ _ z.1 z.2.2)
  · show hB5 _ _
    unfold hB5 uni
    rw [n1]
    exact fun z => absurd z (by decide)
  · show hB6 _ _
    unfold hB6 uni
    rw [n1]
    exact fun z => absurd z (by decide)
  · show hB7 _ _
    unfold hB7
    rw [n1]
    exact fun z => absurd z (by decide)
  · show hB8 _ _
    unfold hB8
    rw [n1]
    exact ⟨fun z => absurd z.1 (by decide), fun z => absurd z (by decide), fun z => absurd z (by decide), fun z => absurd z (by decide)⟩
  · show hB9 _ _
    unfold hB9
    rw [n1]
    exact fun z => absurd z (by decide)
/-- a wedding is taken, or there is a union that is open -/
theorem wed_ok (h : FM S) {p q : Int} (hp : isP S p ∧ wMale S p ∧ ageOk S p D 0) (hq : isP S q ∧ ¬ wMale S q ∧ ageOk S q D 0) (hpq : ∀ r, r < sn S → wK S r = 1 → ¬ (w1 S r = p ∧ w2 S r = q)) : kwn S 1 p q (-1) ∧ (fstB (breaks (adR S 1 D p q (-1) 0)) 9 1 = 0 ∨ fstB (breaks (adR S 1 D p q (-1) 0)) 9 1 = 7) := by
  have hkw : kwn S 1 p q (-1) := ⟨fun z => absurd z (by decide), fun _ => hp.1, fun _ => hq.1, fun z => absurd z (by decide)⟩
  have hA : AC S 1 D p q := ⟨Or.inr (Or.inl rfl), fun _ => hpq, fun z => absurd z (by decide)⟩
  have key : ∀ i, 1 ≤ i → i ≤ 9 → i ≠ 7 → ¬ breaks (adR S 1 D p q (-1) 0) i := by
    intro i i1 i9 i7
    refine ad_nobr h hA hkw ⟨i1, i9⟩ (fun z => absurd z i7) ?_
    obtain ⟨n1, n2, n3, n4, n5, n6, n7⟩ := ad_new (S := S) (K := 1) (D := D) (a := p) (b := q) (c := -1) (w := 0)
    rw [if_neg (by decide)] at n3 n4
    have ag : ∀ p' g, isP S p' → ageOk S p' D g → ageOk (adR S 1 D p q (-1) 0) p' D g := fun p' g hp' z => by
      unfold ageOk at z ⊢
      rw [(ad_b h.1.1 ⟨hp'.1, hp'.2.1⟩).1, ad_dead h.1.1 (fun y => absurd y.1 (by decide))]
      exact z
    have hi9 : i = 1 ∨ i = 2 ∨ i = 3 ∨ i = 4 ∨ i = 5 ∨ i = 6 ∨ i = 8 ∨ i = 9 := by omega
    rcases hi9 with rfl | rfl | rfl | rfl | rfl | rfl | rfl | rfl
    · show hB1 _ _
      unfold hB1 uni
      rw [n1, n3, n4]
      exact ⟨fun z => absurd z (by decide), fun _ => ⟨(ad_b h.1.1 ⟨hp.1.1, hp.1.2.1⟩).2.2.2.mpr hp.2.1, fun y => hq.2.1 ((ad_b h.1.1 ⟨hq.1.1, hq.1.2.1⟩).2.2.2.mp y)⟩⟩
    · show hB2 _ _
      unfold hB2
      rw [n1]
      exact fun z => absurd z (by decide)
    · show hB3 _ _
      unfold hB3
      rw [n1]
      exact fun z => absurd z (by decide)
    · show hB4 _ _
      unfold hB4
      rw [n1]
      exact fun z => absurd z (by decide)
    · show hB5 _ _
      unfold hB5
      rw [n2, n3, n4]
      exact fun _ => ⟨ag _ _ hp.1 hp.2.2, ag _ _ hq.1 hq.2.2⟩
    · show hB6 _ _
      unfold hB6
      intro _
      rw [n1, show cn (ahM (adR S 1 D p q (-1) 0) (sn S)) (sn (adR S 1 D p q (-1) 0)) = 0 from cn_none _ (fun k hk z => by
        have hk' : k < sn S + 1 := hk
        obtain ⟨z1, z2, z3, _⟩ := z
        obtain ⟨o1, o2, o3, o4, o5, o6, o7⟩ := ad_old (K := 1) (D := D) (a := p) (b := q) (c := -1) (w := 0) (S := S) (q := k) z1
        unfold samM at z3
        rw [n1, n3, n4, o1, o3, o4] at z3
        have hk2 := (h.2 k (by omega)).2
        rcases z3 with ⟨_, y2, y3, y4⟩ | ⟨y1, _⟩
        · exact hpq k (by omega) (by omega) ⟨y3, y4⟩
        · exact absurd y1 (by decide))]
      decide
    · show hB8 _ _
      unfold hB8
      rw [n1]
      exact ⟨fun z => absurd z.1 (by decide), fun z => absurd z (by decide), fun z => absurd z (by decide), fun z => absurd z (by decide)⟩
    · show hB9 _ _
      unfold hB9
      rw [n1]
      exact fun z => absurd z (by decide)
  refine ⟨hkw, ?_⟩
  by_cases h7 : breaks (adR S 1 D p q (-1) 0) 7
  · exact Or.inr (fst7 key h7)
  · refine Or.inl (fst0 (fun i i1 i9 => ?_))
    by_cases e : i = 7
    · subst e; exact h7
    · exact key i i1 i9 e
/-- the title is taken -/
theorem title_ok (h : FM S) {p : Int} (hp : isP S p) (hb : wBorn S p ≤ D) (hd : wDead S p < 0) : kwn S 4 p (-1) (-1) ∧ fstB (breaks (adR S 4 D p (-1) (-1) w)) 9 1 = 0 := by
  have hkw : kwn S 4 p (-1) (-1) := ⟨fun z => absurd z (by decide), fun _ => hp, fun z => absurd z (by decide), fun z => absurd z (by decide)⟩
  refine ⟨hkw, fst0 (fun i i1 i9 => ?_)⟩
  have hA : AC S 4 D p (-1) := ⟨Or.inr (Or.inr (Or.inr rfl)), fun z => absurd z (by decide), fun z => absurd z (by decide)⟩
  refine ad_nobr h hA hkw ⟨i1, i9⟩ (fun _ => by decide) ?_
  obtain ⟨n1, n2, n3, n4, n5, n6, n7⟩ := ad_new (S := S) (K := 4) (D := D) (a := p) (b := -1) (c := -1) (w := w)
  rw [if_neg (by decide)] at n3
  have hi9 : i = 1 ∨ i = 2 ∨ i = 3 ∨ i = 4 ∨ i = 5 ∨ i = 6 ∨ i = 7 ∨ i = 8 ∨ i = 9 := by omega
  rcases hi9 with rfl | rfl | rfl | rfl | rfl | rfl | rfl | rfl | rfl
  · show hB1 _ _
    unfold hB1 uni
    rw [n1]
    exact ⟨fun z => absurd z (by decide), fun z => absurd z (by decide)⟩
  · show hB2 _ _
    unfold hB2
    rw [n1]
    exact fun z => absurd z (by decide)
  · show hB3 _ _
    unfold hB3
    rw [n1]
    exact fun z => absurd z (by decide)
  · show hB4 _ _
    unfold hB4
    rw [n1]
    exact fun z => absurd z (by decide)
  · show hB5 _ _
    unfold hB5 uni
    rw [n1]
    exact fun z => absurd z (by decide)
  · show hB6 _ _
    unfold hB6 uni
    rw [n1]
    exact fun z => absurd z (by decide)
  · show hB7 _ _
    unfold hB7
    rw [n1]
    exact fun z => absurd z (by decide)
  · show hB8 _ _
    unfold hB8
    rw [n1, n2, n3, (ad_b h.1.1 ⟨hp.1, hp.2.1⟩).1, ad_dead h.1.1 (fun y => absurd y.1 (by decide))]
    exact ⟨fun _ => ⟨hb, fun z => by omega⟩, fun z => absurd z (by decide), fun z => absurd z (by decide), fun z => absurd z (by decide)⟩
  · show hB9 _ _
    unfold hB9
    rw [n1]
    exact fun z => absurd z (by decide)
/-- a late death is taken -/
theorem death_ok (h : FM S) {p : Int} (hp : isP S p) (hb : wBorn S p ≤ D) (hd : wDead S p < 0) (hD : ∀ r, r < sn S → wK S r ≠ 3 → wD S r ≤ D) : kwn S 3 p (-1) (-1) ∧ fstB (breaks (adR S 3 D p (-1) (-1) 0)) 9 1 = 0 := by
  have hkw : kwn S 3 p (-1) (-1) := ⟨fun z => absurd z (by decide), fun _ => hp, fun z => absurd z (by decide), fun z => absurd z (by decide)⟩
  refine ⟨hkw, fst0 (fun i i1 i9 => ?_)⟩
  have hA : AC S 3 D p (-1) := ⟨Or.inr (Or.inr (Or.inl rfl)), fun z => absurd z (by decide), fun _ => ⟨hd, hD⟩⟩
  refine ad_nobr h hA hkw ⟨i1, i9⟩ (fun _ => by decide) ?_
  obtain ⟨n1, n2, n3, n4, n5, n6, n7⟩ := ad_new (S := S) (K := 3) (D := D) (a := p) (b := -1) (c := -1) (w := 0)
  rw [if_neg (by decide)] at n3
  have hi9 : i = 1 ∨ i = 2 ∨ i = 3 ∨ i = 4 ∨ i = 5 ∨ i = 6 ∨ i = 7 ∨ i = 8 ∨ i = 9 := by omega
  rcases hi9 with rfl | rfl | rfl | rfl | rfl | rfl | rfl | rfl | rfl
  · show hB1 _ _
    unfold hB1 uni
    rw [n1]
    exact ⟨fun z => absurd z (by decide), fun z => absurd z (by decide)⟩
  · show hB2 _ _
    unfold hB2
    rw [n2, n3, (ad_b h.1.1 ⟨hp.1, hp.2.1⟩).1]
    refine fun _ => ⟨hb, ?_⟩
    rintro ⟨q, q1, q2, q3, q4, q5, _⟩
    have q1' : q < sn S + 1 := q1
    obtain ⟨o1, o2, o3, o4, o5, o6, o7⟩ := ad_old (K := 3) (D := D) (a := p) (b := -1) (c := -1) (w := 0) (S := S) (q := q) q2
    rw [o7] at q3
    rw [o1, n1] at q4
    rw [o3, n3] at q5
    exact dead_no h.1.1 hd q (by omega) ⟨q3, q4, q5⟩
  · show hB3 _ _
    unfold hB3
    rw [n1]
    exact fun z => absurd z (by decide)
  · show hB4 _ _
    unfold hB4
    rw [n1]
    exact fun z => absurd z (by decide)
  · show hB5 _ _
    unfold hB5 uni
    rw [n1]
    exact fun z => absurd z (by decide)
  · show hB6 _ _
    unfold hB6 uni
    rw [n1]
    exact fun z => absurd z (by decide)
  · show hB7 _ _
    unfold hB7
    rw [n1]
    exact fun z => absurd z (by decide)
  · show hB8 _ _
    unfold hB8
    rw [n1]
    exact ⟨fun z => absurd z.1 (by decide), fun z => absurd z (by decide), fun z => absurd z (by decide), fun z => absurd z (by decide)⟩
  · show hB9 _ _
    unfold hB9
    rw [n1]
    exact fun z => absurd z (by decide)
end XFB
