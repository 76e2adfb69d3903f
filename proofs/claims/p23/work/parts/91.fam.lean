/-! ===== a family: births, weddings, a title, deaths; one record more ===== -/
def FM (S : xS) : Prop := OK S ∧ ∀ r, r < sn S → wS S r = 1 ∧ (wK S r = 0 ∨ wK S r = 1 ∨ wK S r = 3 ∨ wK S r = 4)
section XFA
variable {S : xS} {K D a b c w : Int}
theorem fm_P (h : FM S) (p : Int) : isP S p ↔ 0 ≤ p ∧ p < sp S := ⟨fun z => ⟨z.1, z.2.1⟩, fun z => ⟨z.1, z.2, (h.2 _ (h.1.1.p z.1 z.2).1).1⟩⟩
theorem lowD_le {x y d : Int} : d ≤ lowD x y ↔ d ≤ x ∧ (y < 0 ∨ d ≤ y) := by
  unfold lowD xm_min
  split
  · omega
  · split <;> omega
theorem nopart_next (hn : ∀ r, r < sn S → wK S r ≠ 2) (r : Nat) : wNext S r = 100000 := by
  obtain ⟨_, _, h⟩ := mnx_le (P := isPart S r) (f := wD S) (a := 100000) (sn S)
  rcases h with h | ⟨q, q1, q2, q3⟩
  · exact h
  · exact absurd q2.2.1 (hn q q1)
theorem fm_next (h : FM S) (r : Nat) : wNext S r = 100000 := nopart_next (fun q hq => by have := (h.2 q hq).2; omega) r
theorem open_le (hn : ∀ r, r < sn S → wK S r ≠ 2) {r : Nat} {d : Int} : d ≤ wOpen S r ↔ d ≤ 99999 ∧ (wDead S (w1 S r) < 0 ∨ d ≤ wDead S (w1 S r)) ∧ (wDead S (w2 S r) < 0 ∨ d ≤ wDead S (w2 S r)) := by
  unfold wOpen
  rw [lowD_le, lowD_le, nopart_next hn]
  omega
theorem fst0 {T : Nat → Prop} (h : ∀ i, 1 ≤ i → i ≤ 9 → ¬ T i) : fstB T 9 1 = 0 := by
  simp only [fstB_s, fstB]
  rw [if_neg (h 1 (by decide) (by decide)), if_neg (h 2 (by decide) (by decide)), if_neg (h 3 (by decide) (by decide)), if_neg (h 4 (by decide) (by decide)), if_neg (h 5 (by decide) (by decide)), if_neg (h 6 (by decide) (by decide)), if_neg (h 7 (by decide) (by decide)), if_neg (h 8 (by decide) (by decide)), if_neg (h 9 (by decide) (by decide))]
theorem fst7 {T : Nat → Prop} (h : ∀ i, 1 ≤ i → i ≤ 9 → i ≠ 7 → ¬ T i) (h7 : T 7) : fstB T 9 1 = 7 := by
  simp only [fstB_s, fstB]
  rw [if_neg (h 1 (by decide) (by decide) (by decide)), if_neg (h 2 (by decide) (by decide) (by decide)), if_neg (h 3 (by decide) (by decide) (by decide)), if_neg (h 4 (by decide) (by decide) (by decide)), if_neg (h 5 (by decide) (by decide) (by decide)), if_neg (h 6 (by decide) (by decide) (by decide)), if_pos h7]
/-- what is known of one who is there -/
theorem ad_b (hW : WF S) {p : Int} (hp : 0 ≤ p ∧ p < sp S) : wBorn (adR S K D a b c w) p = wBorn S p ∧ wFa (adR S K D a b c w) p = wFa S p ∧ wMo (adR S K D a b c w) p = wMo S p ∧ (wMale (adR S K D a b c w) p ↔ wMale S p) := by
  have e : sbb (adR S K D a b c w) p.toNat = sbb S p.toNat := ad_p (by omega)
  have hlt := (hW.p hp.1 hp.2).1
  obtain ⟨e1, e2, e3, e4, e5, e6, e7⟩ := ad_old (K := K) (D := D) (a := a) (b := b) (c := c) (w := w) (S := S) (q := sbb S p.toNat) (by omega)
  unfold wBorn wFa wMo wMale
  rw [e, e2, e4, e5, e6]
  exact ⟨rfl, rfl, rfl, Iff.rfl⟩
theorem dead_no (hW : WF S) {p : Int} (h : wDead S p < 0) : ∀ r, r < sn S → ¬ (wS S r = 1 ∧ wK S r = 3 ∧ w1 S r = p) := by
  intro r hr hd
  unfold wDead at h
  have hs := fsx_spec (fun r => wS S r = 1 ∧ wK S r = 3 ∧ w1 S r = p) (sn S)
  by_cases hl : fsx (fun r => wS S r = 1 ∧ wK S r = 3 ∧ w1 S r = p) (sn S) < sn S
  · rw [if_pos hl] at h
    have := (hW.day hl).1
    omega
  · exact hs.2.2 r (by omega) hd
theorem no_dead {p : Int} (h : ∀ r, r < sn S → ¬ (wS S r = 1 ∧ wK S r = 3 ∧ w1 S r = p)) : wDead S p = -1 := by
  unfold wDead
  have hs := fsx_spec (fun r => wS S r = 1 ∧ wK S r = 3 ∧ w1 S r = p) (sn S)
  rw [if_neg (fun z => h _ z (hs.2.1 z))]
theorem ad_dead (hW : WF S) {p : Int} (hno : ¬ (K = 3 ∧ a = p)) : wDead (adR S K D a b c w) p = wDead S p := by
  have hs := fsx_spec (fun r => wS S r = 1 ∧ wK S r = 3 ∧ w1 S r = p) (sn S)
  have hn : ¬ (wS (adR S K D a b c w) (sn S) = 1 ∧ wK (adR S K D a b c w) (sn S) = 3 ∧ w1 (adR S K D a b c w) (sn S) = p) := by
    obtain ⟨e1, e2, e3, _⟩ := ad_new (S := S) (K := K) (D := D) (a := a) (b := b) (c := c) (w := w)
    rw [e1, e3]
    rintro ⟨_, k3, z⟩
    rw [if_neg (by omega)] at z
    exact hno ⟨k3, z⟩
  have ho : ∀ r, r < sn S → ((wS (adR S K D a b c w) r = 1 ∧ wK (adR S K D a b c w) r = 3 ∧ w1 (adR S K D a b c w) r = p) ↔ (wS S r = 1 ∧ wK S r = 3 ∧ w1 S r = p)) := by
    intro r hr
    obtain ⟨e1, e2, e3, e4, e5, e6, e7⟩ := ad_old (K := K) (D := D) (a := a) (b := b) (c := c) (w := w) (S := S) (q := r) (by omega)
    rw [e1, e3, e7]
  by_cases hl : fsx (fun r => wS S r = 1 ∧ wK S r = 3 ∧ w1 S r = p) (sn S) < sn S
  · have e : fsx (fun r => wS (adR S K D a b c w) r = 1 ∧ wK (adR S K D a b c w) r = 3 ∧ w1 (adR S K D a b c w) r = p) (sn S + 1) = fsx (fun r => wS S r = 1 ∧ wK S r = 3 ∧ w1 S r = p) (sn S) :=
      fsx_eq (by omega) (fun r hr z => hs.2.2 r hr ((ho r (by omega)).mp z)) (fun _ => (ho _ hl).mpr (hs.2.1 hl))
    show (if fsx _ (sn S + 1) < sn S + 1 then wD (adR S K D a b c w) (fsx _ (sn S + 1)) else -1) = _
    rw [e, if_pos (by omega), (ad_old (by omega)).2.1]
    unfold wDead
    rw [if_pos hl]
  · have h1 : wDead S p = -1 := by unfold wDead; rw [if_neg hl]
    rw [h1]
    refine no_dead (fun r hr z => ?_)
    have hr' : r < sn S + 1 := hr
    by_cases er : r = sn S
    · subst er; exact hn z
    · exact hs.2.2 r (by omega) ((ho r (by omega)).mp z)
theorem ad_dead3 (hW : WF S) (hK : K = 3) (h : wDead S a < 0) : wDead (adR S K D a b c w) a = D := by
  have hn := dead_no hW h
  obtain ⟨e1, e2, e3, e4, e5, e6, e7⟩ := ad_new (S := S) (K := K) (D := D) (a := a) (b := b) (c := c) (w := w)
  have e : fsx (fun r => wS (adR S K D a b c w) r = 1 ∧ wK (adR S K D a b c w) r = 3 ∧ w1 (adR S K D a b c w) r = a) (sn S + 1) = sn S := by
    refine fsx_eq (by omega) (fun r hr z => ?_) (fun _ => ⟨e7, by rw [e1]; exact hK, by rw [e3, if_neg (by omega)]⟩)
    obtain ⟨o1, o2, o3, o4, o5, o6, o7⟩ := ad_old (K := K) (D := D) (a := a) (b := b) (c := c) (w := w) (S := S) (q := r) (by omega)
    rw [o1, o3, o7] at z
    exact hn r hr z
  show (if fsx _ (sn S + 1) < sn S + 1 then wD (adR S K D a b c w) (fsx _ (sn S + 1)) else -1) = _
  rw [e, if_pos (by omega), e2]
/-- a record more: what the others need of it -/
def AC (S : xS) (K D a b : Int) : Prop := (K = 0 ∨ K = 1 ∨ K = 3 ∨ K = 4) ∧ (K = 1 → ∀ r, r < sn S → wK S r = 1 → ¬ (w1 S r = a ∧ w2 S r = b)) ∧ (K = 3 → wDead S a < 0 ∧ ∀ r, r < sn S → wK S r ≠ 3 → wD S r ≤ D)
theorem ad_np (h : FM S) (hA : AC S K D a b) : ∀ r, r < sn (adR S K D a b c w) → wK (adR S K D a b c w) r ≠ 2 := by
  intro r hr
  have hr' : r < sn S + 1 := hr
  by_cases er : r = sn S
  · subst er
    rw [ad_new.1]
    have := hA.1
    omega
  · rw [(ad_old er).1]
    have := (h.2 r (by omega)).2
    omega
/-- a death is later than all that it could hurt -/
theorem ad_deadx (h : FM S) (hA : AC S K D a b) (p : Int) : wDead (adR S K D a b c w) p = wDead S p ∨ (K = 3 ∧ a = p ∧ wDead S p < 0 ∧ wDead (adR S K D a b c w) p = D) := by
  by_cases e : K = 3 ∧ a = p
  · obtain ⟨k3, rfl⟩ := e
    have := (hA.2.2 k3).1
    exact Or.inr ⟨k3, rfl, this, ad_dead3 h.1.1 k3 this⟩
  · exact Or.inl (ad_dead h.1.1 e)
theorem ad_open (h : FM S) (hA : AC S K D a b) {r : Nat} (hr : r < sn S) {d : Int} (hd : d ≤ wOpen (adR S K D a b c w) r) : d ≤ wOpen S r := by
  rw [open_le (ad_np h hA)] at hd
  rw [open_le (fun q hq => by have := (h.2 q hq).2; omega)]
  obtain ⟨o1, o2, o3, o4, o5, o6, o7⟩ := ad_old (K := K) (D := D) (a := a) (b := b) (c := c) (w := w) (S := S) (q := r) (by omega)
  rw [o3, o4] at hd
  have e1 := ad_deadx (c := c) (w := w) h hA (w1 S r)
  have e2 := ad_deadx (c := c) (w := w) h hA (w2 S r)
  omega
theorem ad_age (h : FM S) (hA : AC S K D a b) {r : Nat} (hr : r < sn S) (h3 : wK S r ≠ 3) {p g : Int} (hp : 0 ≤ p ∧ p < sp S) (hg : 0 ≤ g) (ho : ageOk S p (wD S r) g) : ageOk (adR S K D a b c w) p (wD S r) g := by
  unfold ageOk at ho ⊢
  rw [(ad_b h.1.1 hp).1]
  refine ⟨ho.1, fun z => ?_⟩
  have e := ad_deadx (c := c) (w := w) h hA p
  rcases e with e | ⟨k3, _, _, e⟩
  · rw [e] at z; exact ho.2 z
  · have := (hA.2.2 k3).2 r hr h3
    omega
theorem cn_same {P Q : Nat → Prop} {n : Nat} (h : ∀ i, i < n → (Q i ↔ P i)) (hn : ¬ Q n) : cn Q (n + 1) = cn P n := by
  rw [cn_no hn]
  exact cn_congr n h
/-- the older records hold as they held -/
theorem ad_hold (h : FM S) (hA : AC S K D a b) (hkw : kwn S K a b c) {r : Nat} (hr : r < sn S) {i : Nat} (hi : 1 ≤ i ∧ i ≤ 9) (h7 : i = 7 → K ≠ 1) : hold (adR S K D a b c w) i r := by
  have hW := h.1.1
  have hH := fun j (hj : 1 ≤ j ∧ j ≤ 9) => h.1.hold hj hr (h.2 r hr).1
  have hkd := (h.2 r hr).2
  have hwf := hW.2.1 r hr
  have hnm := h.1.2.1 r hr (h.2 r hr).1
  obtain ⟨o1, o2, o3, o4, o5, o6, o7⟩ := ad_old (K := K) (D := D) (a := a) (b := b) (c := c) (w := w) (S := S) (q := r) (by omega)
  have hsn : sn (adR S K D a b c w) = sn S + 1 := rfl
  have hi9 : i = 1 ∨ i = 2 ∨ i = 3 ∨ i = 4 ∨ i = 5 ∨ i = 6 ∨ i = 7 ∨ i = 8 ∨ i = 9 := by omega
  obtain ⟨n1, n2, n3, n4, n5, n6, n7⟩ := ad_new (S := S) (K := K) (D := D) (a := a) (b := b) (c := c) (w := w)
  rcases hi9 with rfl | rfl | rfl | rfl | rfl | rfl | rfl | rfl | rfl
  · have g : hB1 S r := hH 1 (by decide)
    clear n1 n2 n3 n4 n5 n6 n7 o6 o7 hwf hH h7 hi
    show hB1 _ r
    unfold hB1 uni at g ⊢
    rw [o1, o3, o4, o5]
    refine ⟨fun k0 => ⟨?_, ?_⟩, fun u => ?_⟩
    · rcases (g.1 k0).1 with z | z
      · exact Or.inl z
      · by_cases hneg : w2 S r < 0
        · exact Or.inl hneg
        · have hp : isP S (w2 S r) := by
            rcases (hnm.1 k0).1 with y | y
            · omega
            · exact y
          exact Or.inr ((ad_b hW ⟨hp.1, hp.2.1⟩).2.2.2.mpr z)
    · rcases (g.1 k0).2 with z | z
      · exact Or.inl z
      · by_cases hneg : w3 S r < 0
        · exact Or.inl hneg
        · have hp : isP S (w3 S r) := by
            rcases (hnm.1 k0).2 with y | y
            · omega
            · exact y
          exact Or.inr (fun y => z ((ad_b hW ⟨hp.1, hp.2.1⟩).2.2.2.mp y))
    · have p1 := hnm.2.1 (by omega)
      have p2 := hnm.2.2.1 u
      exact ⟨(ad_b hW ⟨p1.1, p1.2.1⟩).2.2.2.mpr (g.2 u).1, fun y => (g.2 u).2 ((ad_b hW ⟨p2.1, p2.2.1⟩).2.2.2.mp y)⟩
  · have g : hB2 S r := hH 2 (by decide)
    clear n2 n5 n6 n7 o6 o7 hwf hH
    show hB2 _ r
    unfold hB2 at g ⊢
    rw [o1, o2, o3]
    intro k3
    have p1 := hnm.2.1 (by omega)
    refine ⟨by rw [(ad_b hW ⟨p1.1, p1.2.1⟩).1]; exact (g k3).1, ?_⟩
    rintro ⟨q, q1, q2, q3, q4, q5, q6⟩
    have q1' : q < sn S + 1 := q1
    by_cases eq : q = sn S
    · subst eq
      rw [n1, o1, k3] at q4
      rw [n3, o3, if_neg (by omega)] at q5
      have hd := (hA.2.2 q4).1
      exact dead_no hW hd r hr ⟨(h.2 r hr).1, k3, q5.symm⟩
    · obtain ⟨x1, x2, x3, x4, x5, x6, x7⟩ := ad_old (K := K) (D := D) (a := a) (b := b) (c := c) (w := w) (S := S) (q := q) eq
      rw [x7] at q3
      rw [x1, o1] at q4
      rw [x3, o3] at q5
      exact (g k3).2 ⟨q, by omega, q2, q3, q4, q5, fun z => by omega⟩
  · have g : hB3 S r := hH 3 (by decide)
    clear n1 n2 n3 n4 n5 n6 n7 o6 o7 hwf hH h7 hi
    show hB3 _ r
    unfold hB3 at g ⊢
    rw [o1, o2, o5]
    intro k0
    rcases g k0 with z | z
    · exact Or.inl z
    · by_cases hneg : w3 S r < 0
      · exact Or.inl hneg
      · have hp : isP S (w3 S r) := by
          rcases (hnm.1 k0).2 with y | y
          · omega
          · exact y
        exact Or.inr (ad_age h hA hr (by omega) ⟨hp.1, hp.2.1⟩ (by decide) z)
  · have g : hB4 S r := hH 4 (by decide)
    clear n1 n2 n3 n4 n5 n6 n7 o6 o7 hwf hH h7 hi
    show hB4 _ r
    unfold hB4 at g ⊢
    rw [o1, o2, o4]
    intro k0
    rcases g k0 with z | z
    · exact Or.inl z
    · by_cases hneg : w2 S r < 0
      · exact Or.inl hneg
      · have hp : isP S (w2 S r) := by
          rcases (hnm.1 k0).1 with y | y
          · omega
          · exact y
        exact Or.inr (ad_age h hA hr (by omega) ⟨hp.1, hp.2.1⟩ (by decide) z)
  · have g : hB5 S r := hH 5 (by decide)
    clear n1 n2 n3 n4 n5 n6 n7 o6 o7 hwf hH h7 hi
    show hB5 _ r
    unfold hB5 uni at g ⊢
    rw [o1, o2, o3, o4]
    intro u
    have p1 := hnm.2.1 (by omega)
    have p2 := hnm.2.2.1 u
    exact ⟨ad_age h hA hr (by omega) ⟨p1.1, p1.2.1⟩ (by decide) (g u).1, ad_age h hA hr (by omega) ⟨p2.1, p2.2.1⟩ (by decide) (g u).2⟩
  · have g : hB6 S r := hH 6 (by decide)
    clear n2 n5 n6 n7 o6 o7 hwf hH
    show hB6 _ r
    unfold hB6 uni at g ⊢
    rw [o1, hsn]
    intro u
    rw [cn_same (P := ahM S r)]
    · exact g u
    · intro k hk
      obtain ⟨x1, x2, x3, x4, x5, x6, x7⟩ := ad_old (K := K) (D := D) (a := a) (b := b) (c := c) (w := w) (S := S) (q := k) (by omega)
      unfold ahM samM befM
      rw [o1, o2, o3, o4, x1, x2, x3, x4, x7]
    · rintro ⟨_, _, z, _⟩
      unfold samM at z
      rw [o1, o3, o4, n1, n3, n4] at z
      have hK := hA.1
      rcases z with ⟨z1, z2, z3, z4⟩ | ⟨z1, z2, _⟩
      · have k1 : K = 1 := by omega
        rw [if_neg (by omega)] at z3
        rw [if_neg (by omega)] at z4
        exact hA.2.1 k1 r hr (by omega) ⟨z3.symm, z4.symm⟩
      · omega
  · have g : hB7 S r := hH 7 (by decide)
    clear n2 n5 n6 n7 o6 o7 hwf hH
    show hB7 _ r
    unfold hB7 at g ⊢
    rw [o1, hsn]
    intro k1 q q1
    rintro ⟨q2, q3, q4, q5, q6, q7⟩
    by_cases eq : q = sn S
    · subst eq
      rw [n1] at q4
      exact h7 rfl q4
    · obtain ⟨x1, x2, x3, x4, x5, x6, x7⟩ := ad_old (K := K) (D := D) (a := a) (b := b) (c := c) (w := w) (S := S) (q := q) eq
      rw [x7] at q3
      rw [x1] at q4
      rw [x3, x4, o3, o4] at q5
      rw [x2] at q6
      rw [o2] at q7
      exact g k1 q (by omega) ⟨q2, q3, q4, q5, ad_open h hA hr q6, ad_open h hA (by omega) q7⟩
  · have g : hB8 S r := hH 8 (by decide)
    clear n1 n2 n3 n4 n5 n6 n7 o6 o7 hwf hH h7 hi
    show hB8 _ r
    unfold hB8 at g ⊢
    rw [o1, o2, o3, o4]
    refine ⟨fun k4 => ?_, fun z => by omega, fun z => by omega, fun z => by omega⟩
    have p1 := hnm.2.1 (by omega)
    have g1 := g.1 k4
    refine ⟨by rw [(ad_b hW ⟨p1.1, p1.2.1⟩).1]; exact g1.1, fun z => ?_⟩
    rcases ad_deadx (c := c) (w := w) h hA (w1 S r) with e | ⟨k3, _, _, e⟩
    · rw [e] at z; exact g1.2 z
    · have := (hA.2.2 k3).2 r hr (by omega)
      omega
  · clear n1 n2 n3 n4 n5 n6 n7 o2 o3 o4 o5 o6 o7 hwf hH hnm
    show hB9 _ r
    unfold hB9
    rw [o1]
    intro z
    omega
end XFA
