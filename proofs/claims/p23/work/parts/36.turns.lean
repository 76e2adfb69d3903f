/-! ===== turns: what the class asks and what the reference counts ===== -/
theorem cn_oneN {P Q : Nat → Prop} {b n : Nat} (hb : ¬ P b) (hn : b < n) (hq : ∀ i, i < n → (Q i ↔ P i ∨ i = b)) : cn Q n = cn P n + 1 := by
  rw [cn_congr (Q := fun i => P i ∨ i = b) n hq]
  exact cn_one hb (fun i => Iff.rfl) n hn
section XV
variable {S : xS}
theorem wT_val (S : xS) (r : Nat) : (wK S r = 1 ∧ wT S r = 2 * wD S r + 1) ∨ (¬ wK S r = 1 ∧ wT S r = 2 * wD S r) := by
  unfold wT
  by_cases h : wK S r = 1
  · rw [xb_pos h]; exact Or.inl ⟨h, rfl⟩
  · rw [xb_neg h]; exact Or.inr ⟨h, by omega⟩
theorem kin_sym {r q : Nat} (hr : wS S r = 1) (h : kin S r q) : kin S q r := by
  unfold kin sameP at *
  refine ⟨fun z => h.1 z.symm, hr, ?_⟩
  have := h.2.2
  omega
theorem kin_tr {r q k : Nat} (h : kin S r q) (g : kin S r k) (hne : k ≠ q) : kin S q k := by
  unfold kin sameP at *
  refine ⟨hne, g.2.1, ?_⟩
  have := h.2.2
  have := g.2.2
  omega
theorem kin_tr2 {r q k : Nat} (h : kin S r q) (g : kin S q k) (hne : k ≠ r) : kin S r k := by
  unfold kin sameP at *
  refine ⟨hne, g.2.1, ?_⟩
  have := h.2.2
  have := g.2.2
  omega
theorem ah_iff {r : Nat} (hg : uni S r ∨ 7 ≤ wK S r) (hd : ∀ q, q < sn S → kin S r q → wT S q ≠ wT S r) {k : Nat} (hk : k < sn S) : ahM S r k ↔ kin S r k ∧ wT S k < wT S r := by
  have a := wT_val S r
  have b := wT_val S k
  have d := hd k hk
  unfold ahM samM befM
  unfold kin sameP at *
  unfold uni at hg
  constructor
  · rintro ⟨h1, h2, h3, h4⟩
    have hs : ((wK S r = 1 ∨ wK S r = 2) ∧ (wK S k = 1 ∨ wK S k = 2)) ∧ w1 S k = w1 S r ∧ w2 S k = w2 S r ∨ (7 ≤ wK S r ∧ 7 ≤ wK S k) ∧ w2 S k = w2 S r := by omega
    have := d ⟨h1, h2, hs⟩
    exact ⟨⟨h1, h2, hs⟩, by omega⟩
  · rintro ⟨⟨h1, h2, h3⟩, h4⟩
    exact ⟨h1, h2, by omega, by omega⟩
/-- rank of one behind another -/
theorem rk_step {r b : Nat} (hr : wS S r = 1) (hg : uni S r ∨ 7 ≤ wK S r) (hgb : uni S b ∨ 7 ≤ wK S b) (hd : ∀ q, q < sn S → kin S r q → wT S q ≠ wT S r) (hdb : ∀ q, q < sn S → kin S b q → wT S q ≠ wT S b) (h : isBef S r (sn S) b) : cn (ahM S r) (sn S) = cn (ahM S b) (sn S) + 1 := by
  refine cn_oneN (b := b) (fun z => z.1 rfl) h.1.1 (fun k hk => ?_)
  rw [ah_iff hg hd hk, ah_iff hgb hdb hk]
  constructor
  · rintro ⟨h1, h2⟩
    by_cases e : k = b
    · exact Or.inr e
    · have hkb := kin_tr h.1.2.1 h1 e
      have := h.2.1 k hk h1 h2
      have := hdb k hk hkb
      exact Or.inl ⟨hkb, by omega⟩
  · rintro (⟨h1, h2⟩ | e)
    · have hlt := h.1.2.2
      have : k ≠ r := fun z => by subst z; omega
      exact ⟨kin_tr2 h.1.2.1 h1 this, by omega⟩
    · subst e; exact h.1.2
theorem bef_or {r : Nat} : (∃ b, isBef S r (sn S) b) ∨ ∀ q, q < sn S → ¬ (kin S r q ∧ wT S q < wT S r) := by
  by_cases ex : ∃ q, q < sn S ∧ (kin S r q ∧ wT S q < wT S r)
  · obtain ⟨b, b1, b2, b3⟩ := ex_max (P := fun q => kin S r q ∧ wT S q < wT S r) (wT S) (sn S) ex
    exact Or.inl ⟨b, ⟨b1.1, b1.2⟩, fun q h1 h2 h3 => b2 q h1 ⟨h2, h3⟩, fun q h1 h2 h3 => b3 q h1 ⟨h2, h3⟩⟩
  · exact Or.inr (fun q h1 h2 => ex ⟨q, h1, h2⟩)
theorem par_of (hW : WF S) (g : Nat → Prop) (hgk : ∀ r, g r → uni S r ∨ 7 ≤ wK S r) (hgc : ∀ r q, g r → kin S r q → g q) (h : ∀ r, r < sn S → wS S r = 1 → g r → ¬ outT S r) : ∀ (N : Nat) (r : Nat), r < sn S → wS S r = 1 → g r → wT S r < N → (cn (ahM S r) (sn S) % 2 = 0 ↔ op S r) := by
  have hd : ∀ r, r < sn S → wS S r = 1 → g r → ∀ q, q < sn S → kin S r q → wT S q ≠ wT S r := fun r hr hs hgr q hq hk e => h r hr hs hgr (Or.inl ⟨q, hq, hk, e⟩)
  intro N
  induction N with
  | zero =>
    intro r hr hs hgr hN
    have := hW.day hr
    have := wT_val S r
    omega
  | succ N ih =>
    intro r hr hs hgr hN
    have ho : ¬ ((∃ b, isBef S r (sn S) b ∧ op S b) ↔ op S r) := fun z => h r hr hs hgr (Or.inr z)
    rcases bef_or (S := S) (r := r) with ⟨b, hb⟩ | hno
    · have hbg := hgc r b hgr hb.1.2.1
      have hbs := hb.1.2.1.2.1
      have e := rk_step hs (hgk r hgr) (hgk b hbg) (hd r hr hs hgr) (hd b hb.1.1 hbs hbg) hb
      have i := ih b hb.1.1 hbs hbg (by have := hb.1.2.2; omega)
      have hob : (∃ b, isBef S r (sn S) b ∧ op S b) ↔ op S b := ⟨fun ⟨c, c1, c2⟩ => by rw [isBef_uniq hb c1]; exact c2, fun z => ⟨b, hb, z⟩⟩
      rw [hob] at ho
      rw [e]
      by_cases o : op S r
      · have : ¬ op S b := fun z => ho ⟨fun _ => o, fun _ => z⟩
        have : ¬ cn (ahM S b) (sn S) % 2 = 0 := fun z => this (i.mp z)
        exact ⟨fun _ => o, fun _ => by omega⟩
      · have ob : op S b := by
          by_cases z : op S b
          · exact z
          · exact absurd ⟨fun w => absurd w z, fun w => absurd w o⟩ ho
        have := i.mpr ob
        exact ⟨fun z => by omega, fun z => absurd z o⟩
    · have e : cn (ahM S r) (sn S) = 0 := cn_none _ (fun k hk z => hno k hk ((ah_iff (hgk r hgr) (hd r hr hs hgr) hk).mp z))
      have hne : ¬ ∃ b, isBef S r (sn S) b ∧ op S b := fun ⟨b, z, _⟩ => hno b z.1.1 z.1.2
      rw [e]
      have o : op S r := by
        by_cases z : op S r
        · exact z
        · exact absurd ⟨fun w => absurd w hne, fun w => absurd w z⟩ ho
      exact ⟨fun _ => o, fun _ => rfl⟩
theorem out_of (g : Nat → Prop) (hgk : ∀ r, g r → uni S r ∨ 7 ≤ wK S r) (hgc : ∀ r q, g r → kin S r q → g q) (hd : ∀ r, r < sn S → wS S r = 1 → g r → ∀ q, q < sn S → kin S r q → wT S q ≠ wT S r) (h : ∀ r, r < sn S → wS S r = 1 → g r → (cn (ahM S r) (sn S) % 2 = 0 ↔ op S r)) : ∀ r, r < sn S → wS S r = 1 → g r → ¬ outT S r := by
  intro r hr hs hgr ho
  rcases ho with ⟨q, q1, q2, q3⟩ | ho
  · exact hd r hr hs hgr q q1 q2 q3
  · rcases bef_or (S := S) (r := r) with ⟨b, hb⟩ | hno
    · have hbg := hgc r b hgr hb.1.2.1
      have hbs := hb.1.2.1.2.1
      have e := rk_step hs (hgk r hgr) (hgk b hbg) (hd r hr hs hgr) (hd b hb.1.1 hbs hbg) hb
      have i := h b hb.1.1 hbs hbg
      have j := h r hr hs hgr
      have hob : (∃ b, isBef S r (sn S) b ∧ op S b) ↔ op S b := ⟨fun ⟨c, c1, c2⟩ => by rw [isBef_uniq hb c1]; exact c2, fun z => ⟨b, hb, z⟩⟩
      rw [hob, ← i, ← j, e] at ho
      omega
    · have e : cn (ahM S r) (sn S) = 0 := cn_none _ (fun k hk z => hno k hk ((ah_iff (hgk r hgr) (hd r hr hs hgr) hk).mp z))
      have j := h r hr hs hgr
      rw [e] at j
      obtain ⟨b, z, _⟩ := ho.mpr (j.mp rfl)
      exact hno b z.1.1 z.1.2
/-- counted so, no two unions of a pair share a turn -/
theorem dist_uni (h : ∀ r, r < sn S → wS S r = 1 → uni S r → (cn (ahM S r) (sn S) % 2 = 0 ↔ wK S r = 1)) : ∀ r, r < sn S → wS S r = 1 → uni S r → ∀ q, q < sn S → kin S r q → wT S q ≠ wT S r := by
  have key : ∀ r, r < sn S → wS S r = 1 → uni S r → ∀ q, q < r → kin S r q → wT S q ≠ wT S r := by
    intro r hr hs hu q hq hk he
    obtain ⟨c, ⟨c1, c2⟩, c3⟩ := ex_last (P := fun q => kin S r q ∧ wT S q = wT S r) r ⟨q, hq, hk, he⟩
    have a := wT_val S r
    have b := wT_val S c
    have hc2 := c2.2
    have huc : uni S c := by have := c2.1.2.2; unfold sameP at this; unfold uni at *; omega
    have ek : wK S c = wK S r ∧ wD S c = wD S r := by unfold uni at hu huc; omega
    have e : cn (ahM S r) (sn S) = cn (ahM S c) (sn S) + 1 := by
      refine cn_oneN (b := c) (fun z => z.1 rfl) (by omega) (fun k hkn => ?_)
      have hck := c2.1
      have b2 := wT_val S k
      constructor
      · rintro ⟨h1, h2, h3, h4⟩
        by_cases z : k = c
        · exact Or.inr z
        · refine Or.inl ⟨z, h2, ?_, ?_⟩
          · unfold kin sameP at hck; unfold samM at *; unfold uni at *; omega
          · have hkk : kin S r k := ⟨h1, h2, by unfold samM at h3; unfold sameP; unfold uni at *; omega⟩
            unfold befM at *
            by_cases lt : c < k ∧ k < r
            · have := c3 k lt.1 lt.2
              have : ¬ wT S k = wT S r := fun w => this ⟨hkk, w⟩
              omega
            · omega
      · rintro (⟨h1, h2, h3, h4⟩ | z)
        · have : k ≠ r := by
            intro z
            subst z
            unfold befM at h4
            omega
          refine ⟨this, h2, ?_, ?_⟩
          · unfold kin sameP at hck; unfold samM at *; unfold uni at *; omega
          · unfold befM at *; omega
        · subst z
          refine ⟨hck.1, hck.2.1, ?_, ?_⟩
          · unfold kin sameP at hck; unfold samM; unfold uni at *; omega
          · unfold befM; omega
    have i := h r hr hs hu
    have j := h c (by omega) c2.1.2.1 huc
    omega
  intro r hr hs hu q hq hk
  rcases Nat.lt_trichotomy q r with z | z | z
  · exact key r hr hs hu q z hk
  · exact absurd z hk.1
  · have hu2 : uni S q := by have := hk.2.2; unfold sameP at this; unfold uni at *; omega
    exact fun w => key q hq hk.2.1 hu2 r z (kin_sym hs hk) w.symm
/-- bond 6: the class breaks it when the reference does -/
theorem turns6 (hW : WF S) : (∃ r, r < sn S ∧ wS S r = 1 ∧ (uni S r ∧ outT S r)) ↔ ∃ r, r < sn S ∧ wS S r = 1 ∧ ¬ hB6 S r := by
  have hgc : ∀ r q, uni S r → kin S r q → uni S q := fun r q a b => by have := b.2.2; unfold sameP at this; unfold uni at *; omega
  have hop : ∀ r, uni S r → (op S r ↔ wK S r = 1) := fun r a => by unfold op; unfold uni at a; omega
  constructor
  · intro ⟨r, r1, r2, r3, r4⟩
    apply Classical.byContradiction
    intro hno
    have h : ∀ r, r < sn S → wS S r = 1 → uni S r → (cn (ahM S r) (sn S) % 2 = 0 ↔ wK S r = 1) := by
      intro q q1 q2 q3
      by_cases z : hB6 S q
      · exact z q3
      · exact absurd ⟨q, q1, q2, z⟩ hno
    exact out_of (uni S) (fun r a => Or.inl a) hgc (dist_uni h) (fun r a b c => (h r a b c).trans (hop r c).symm) r r1 r2 r3 r4
  · intro ⟨r, r1, r2, r3⟩
    apply Classical.byContradiction
    intro hno
    have h : ∀ r, r < sn S → wS S r = 1 → uni S r → ¬ outT S r := fun q q1 q2 q3 z => hno ⟨q, q1, q2, q3, z⟩
    refine r3 (fun u => ?_)
    exact (par_of hW (uni S) (fun r a => Or.inl a) hgc h ((wT S r).toNat + 1) r r1 r2 u (by omega)).trans (hop r u)
/-- bond 9 -/
theorem turns9 (hW : WF S) : (∃ r, r < sn S ∧ wS S r = 1 ∧ (7 ≤ wK S r ∧ outT S r)) ↔ ∃ r, r < sn S ∧ wS S r = 1 ∧ ¬ hB9 S r := by
  have hgc : ∀ r q, 7 ≤ wK S r → kin S r q → 7 ≤ wK S q := fun r q a b => by have := b.2.2; unfold sameP at this; omega
  have hop : ∀ r, 7 ≤ wK S r → (op S r ↔ wK S r = 7) := fun r a => by unfold op; omega
  constructor
  · intro ⟨r, r1, r2, r3, r4⟩
    apply Classical.byContradiction
    intro hno
    have h9 : ∀ r, r < sn S → wS S r = 1 → hB9 S r := by
      intro q q1 q2
      by_cases z : hB9 S q
      · exact z
      · exact absurd ⟨q, q1, q2, z⟩ hno
    have hd : ∀ r, r < sn S → wS S r = 1 → 7 ≤ wK S r → ∀ q, q < sn S → kin S r q → wT S q ≠ wT S r := by
      intro r a b c q q1 q2 q3
      have u := wT_val S r
      have v := wT_val S q
      have w := q2.2.2
      unfold sameP at w
      exact (h9 r a b c).2 q q1 ⟨q2.1, q2.2.1, by omega, by omega, by omega⟩
    exact out_of (fun r => 7 ≤ wK S r) (fun r a => Or.inr a) hgc hd (fun r a b c => ((h9 r a b c).1).trans (hop r c).symm) r r1 r2 r3 r4
  · intro ⟨r, r1, r2, r3⟩
    apply Classical.byContradiction
    intro hno
    have h : ∀ r, r < sn S → wS S r = 1 → 7 ≤ wK S r → ¬ outT S r := fun q q1 q2 q3 z => hno ⟨q, q1, q2, q3, z⟩
    refine r3 (fun u => ⟨(par_of hW (fun r => 7 ≤ wK S r) (fun r a => Or.inr a) hgc h ((wT S r).toNat + 1) r r1 r2 u (by omega)).trans (hop r u), fun q q1 q2 => ?_⟩)
    have a := wT_val S r
    have b := wT_val S q
    obtain ⟨e1, e2, e3, e4, e5⟩ := q2
    exact h r r1 r2 u (Or.inl ⟨q, q1, ⟨e1, e2, Or.inr ⟨⟨u, e3⟩, e4⟩⟩, by omega⟩)
end XV
