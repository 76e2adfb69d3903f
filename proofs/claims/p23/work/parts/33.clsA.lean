/-! ===== the class: people made anew ===== -/
/-- outside A nothing differs -/
def fr (A : Nat → Prop) (σ σ' : xm_Mem) : Prop := (∀ a k, ¬ A a → σ'.1 a k = σ.1 a k) ∧ (∀ a k, ¬ A a → σ'.2.1 a k = σ.2.1 a k) ∧ σ'.2.2 = σ.2.2
theorem fr.rf (A : Nat → Prop) (σ : xm_Mem) : fr A σ σ := ⟨fun _ _ _ => rfl, fun _ _ _ => rfl, rfl⟩
theorem fr.tr {A : Nat → Prop} {σ σ' σ'' : xm_Mem} (h : fr A σ σ') (g : fr A σ' σ'') : fr A σ σ'' := ⟨fun a k n => (g.1 a k n).trans (h.1 a k n), fun a k n => (g.2.1 a k n).trans (h.2.1 a k n), g.2.2.trans h.2.2⟩
theorem fr.mono {A B : Nat → Prop} {σ σ' : xm_Mem} (h : fr A σ σ') (hi : ∀ a, A a → B a) : fr B σ σ' := ⟨fun a k n => h.1 a k (fun z => n (hi a z)), fun a k n => h.2.1 a k (fun z => n (hi a z)), h.2.2⟩
theorem fr.u1 {A : Nat → Prop} {σ σ' : xm_Mem} (h : fr A σ σ') {a k : Nat} {v : Int} (ha : A a) : fr A σ (xm_u1 σ' a k v) := by
  refine ⟨fun b j n => ?_, fun b j n => h.2.1 b j n, h.2.2⟩
  rw [xu11, if_neg (fun z : b = a ∧ j = k => n (by rw [z.1]; exact ha))]
  exact h.1 b j n
theorem fr.u2 {A : Nat → Prop} {σ σ' : xm_Mem} (h : fr A σ σ') {a k : Nat} {v : Int64} (ha : A a) : fr A σ (xm_u2 σ' a k v) := by
  refine ⟨fun b j n => h.1 b j n, fun b j n => ?_, h.2.2⟩
  rw [xu22, if_neg (fun z : b = a ∧ j = k => n (by rw [z.1]; exact ha))]
  exact h.2.1 b j n
theorem xobj1 (σ : xm_Mem) (a k : Nat) (v q : Int) (c : Nat) : xm_obj (xm_u1 σ a k v) q c = xm_obj σ q c := rfl
theorem xobj2 (σ : xm_Mem) (a k : Nat) (v : Int64) (q : Int) (c : Nat) : xm_obj (xm_u2 σ a k v) q c = xm_obj σ q c := rfl
/-- the class's cells for what hangs on the records -/
def zC (a : Nat) : Prop := 10 ≤ a ∧ a ≤ 83
def zP (a : Nat) : Prop := 10 ≤ a ∧ a ≤ 15
theorem zPC : ∀ a, zP a → zC a := fun a h => ⟨h.1, by have := h.2; omega⟩
theorem CS.fr {σ σ' : xm_Mem} {S : xS} {e : Nat → Nat} (h : CS σ S e) (hf : fr zC σ σ') : CS σ' S e := by
  have o : ∀ a k, (a < 10 ∨ 84 ≤ a) → σ'.1 a k = σ.1 a k := fun a k n => hf.1 a k (fun z => by unfold zC at z; omega)
  obtain ⟨⟨h1, h2, h3⟩, h4, h5, h6, h7, h8⟩ := h
  refine ⟨⟨by rw [o _ _ (by omega)]; exact h1, by rw [o _ _ (by omega)]; exact h2, by rw [o _ _ (by omega)]; exact h3⟩, by rw [hf.2.2]; exact h4, fun r hr => ?_, h6, fun p hp => by rw [o _ _ (by omega)]; exact h7 p hp, fun t ht => by rw [o _ _ (by omega)]; exact h8 t ht⟩
  obtain ⟨g1, g2, g3, g4⟩ := h5 r hr
  refine ⟨by rw [o _ _ (by omega)]; exact g1, g2, by rw [hf.2.2]; exact g3, ?_⟩
  have q : ∀ k, σ'.1 (e r) k = σ.1 (e r) k := fun k => o _ _ (by omega)
  unfold CE
  simp only [q]
  exact g4
theorem MS.fr {σ σ' : xm_Mem} {S : xS} (h : MS σ S) (hf : fr zC σ σ') : MS σ' S := by
  have o : ∀ a k, (a < 10 ∨ 84 ≤ a) → σ'.1 a k = σ.1 a k := fun a k n => hf.1 a k (fun z => by unfold zC at z; omega)
  unfold MS
  rw [o 84 5 (by omega), o 84 14 (by omega), o 84 15 (by omega)]
  refine ⟨h.1, h.2.1, h.2.2.1, fun r hr => ?_, fun p hp => ?_, fun t ht => ?_⟩
  · rw [o 86 r (by omega), o 87 r (by omega), o 88 r (by omega), o 89 r (by omega), o 90 r (by omega), o 91 r (by omega), o 92 r (by omega)]; exact h.2.2.2.1 r hr
  · rw [o 93 p (by omega)]; exact h.2.2.2.2.1 p hp
  · rw [o 94 t (by omega)]; exact h.2.2.2.2.2 t ht
/-- the last of a kind below n: what f says of it -/
noncomputable def ldx (P : Nat → Prop) (f : Nat → Int) (a : Int) : Nat → Int
  | 0 => a
  | n + 1 => @ite _ (P n) (Classical.propDecidable _) (f n) (ldx P f a n)
theorem ldx_yes {P : Nat → Prop} {f : Nat → Int} {a : Int} {n : Nat} (h : P n) : ldx P f a (n + 1) = f n := if_pos h
theorem ldx_no {P : Nat → Prop} {f : Nat → Int} {a : Int} {n : Nat} (h : ¬ P n) : ldx P f a (n + 1) = ldx P f a n := if_neg h
def isDth (S : xS) (p : Int) (r : Nat) : Prop := wS S r = 1 ∧ wK S r = 3 ∧ w1 S r = p
noncomputable def lastD (S : xS) (p : Int) : Int := ldx (isDth S p) (wD S) (-1) (sn S)
/-- what the class keeps of the people -/
def PO (σ : xm_Mem) (S : xS) : Prop := ∀ p : Nat, p < 64 → σ.1 10 p = xb (isP S p) ∧ (0 < sn S → σ.1 13 p = lastD S p) ∧ (isP S p → σ.1 11 p = wW S (sbb S p) ∧ σ.1 12 p = wD S (sbb S p) ∧ σ.1 14 p = w2 S (sbb S p) ∧ σ.1 15 p = w3 S (sbb S p))
section XP
variable {σ : xm_Mem} {S : xS} {e : Nat → Nat}
theorem r5_takeBirth {a p r : Nat} (hp : p < 64) (ha : 111 ≤ a) (ho : xm_obj σ (a : Int) 2) (h : CE σ a S r) (hk : wK S r = 0) : f_X5_takeBirth σ (a : Int) (p : Int) = some (xm_u1 (xm_u1 (xm_u1 (xm_u1 (xm_u1 σ 10 p 1) 11 p (wW S r)) 12 p (wD S r)) 14 p (w2 S r)) 15 p (w3 S r), 0) := by
  unfold f_X5_takeBirth
  have hg : 0 ≤ (p : Int) ∧ (p : Int) < 64 := ⟨by omega, by omega⟩
  obtain ⟨h0, h1, h2, h3, h4, h5, h6, h7, h8, h9⟩ := h
  have n10 : ¬ a = 10 := by omega
  have n11 : ¬ a = 11 := by omega
  have n12 : ¬ a = 12 := by omega
  have n14 : ¬ a = 14 := by omega
  simp only [if_pos hg, xst, xobj1, if_pos ho, Int.toNat_natCast, xu11, n10, n11, n12, n14, false_and, if_false, h1, h4, h5, h8 hk, if_pos hk]
theorem r5_rebuild (hW : WF S) (hC : CS σ S e) : ∃ σ', f_X5_rebuild σ = some (σ', 0) ∧ fr zP σ σ' ∧ PO σ' S := by
  unfold f_X5_rebuild f_X5_rebuild_l2
  have hn := hW.n
  refine it_T (γ := xm_Mem × Nat) _ _ (fun (f : xm_Mem → Int → Option xm_Out) a => f a.1 (a.2 : Int)) (fun a => (a.2 ≤ 64 ∧ fr zP σ a.1) ∧ ∀ p, p < a.2 → a.1.1 10 p = 0 ∧ a.1.1 13 p = -1) (fun a => 64 - a.2) (fun z => ∃ σ', z = some (σ', 0) ∧ fr zP σ σ' ∧ PO σ' S) ?_ xm_fuel (σ, 0) ⟨⟨Nat.zero_le _, fr.rf _ _⟩, fun p h => absurd h (Nat.not_lt_zero _)⟩ (xfu (by show 64 - 0 < _; decide))
  rintro self ⟨τ, i⟩ ⟨⟨hi, hf⟩, hz⟩ ih
  show ∃ σ', f_X5_rebuild_b2 _ self τ (i : Int) = _ ∧ _
  unfold f_X5_rebuild_b2
  replace hi : i ≤ 64 := hi
  replace hf : fr zP σ τ := hf
  replace hz : ∀ p, p < i → τ.1 10 p = 0 ∧ τ.1 13 p = -1 := hz
  by_cases h : i < 64
  · have hg : 0 ≤ (i : Int) ∧ (i : Int) < 64 := ⟨by omega, by omega⟩
    rw [if_pos (by omega)]
    simp only [if_pos hg, xst, Int.toNat_natCast]
    rw [xw1 (by omega)]
    refine ih (_, i + 1) ⟨⟨h, ?_⟩, fun p hp => ?_⟩ (by show 64 - (i + 1) < 64 - i; omega)
    · exact ((((((hf.u1 (by unfold zP; omega)).u1 (by unfold zP; omega)).u1 (by unfold zP; omega)).u1 (by unfold zP; omega)).u1 (by unfold zP; omega)).u1 (by unfold zP; omega))
    · simp only [xu11]
      by_cases q : p = i
      · subst q; simp
      · have := hz p (by have : p < i + 1 := hp; omega)
        simp [q]
        exact this
  · rw [if_neg (by omega)]
    have e64 : i = 64 := by omega
    subst e64
    unfold f_X5_rebuild_l58
    refine it_T (γ := xm_Mem × Nat) _ _ (fun (f : xm_Mem → Int → Option xm_Out) a => f a.1 (a.2 : Int)) (fun a => (a.2 ≤ sn S ∧ fr zP σ a.1) ∧ ∀ p : Nat, p < 64 → a.1.1 10 p = xb (isP S p ∧ sbb S p < a.2) ∧ a.1.1 13 p = ldx (isDth S p) (wD S) (-1) a.2 ∧ (isP S p ∧ sbb S p < a.2 → a.1.1 11 p = wW S (sbb S p) ∧ a.1.1 12 p = wD S (sbb S p) ∧ a.1.1 14 p = w2 S (sbb S p) ∧ a.1.1 15 p = w3 S (sbb S p))) (fun a => sn S - a.2) (fun z => ∃ σ', z = some (σ', 0) ∧ fr zP σ σ' ∧ PO σ' S) ?_ xm_fuel (τ, 0) ⟨⟨Nat.zero_le _, hf⟩, fun p hp => ⟨by rw [xb_neg (fun z => absurd z.2 (Nat.not_lt_zero _))]; exact (hz p hp).1, (hz p hp).2, fun z => absurd z.2 (Nat.not_lt_zero _)⟩⟩ (xfu (by show sn S - 0 < _; omega))
    clear ih hz hf hi h
    rintro self ⟨τ, i⟩ ⟨⟨hi, hf⟩, hI⟩ ih
    show ∃ σ', f_X5_rebuild_b58 self τ (i : Int) = _ ∧ _
    unfold f_X5_rebuild_b58
    replace hi : i ≤ sn S := hi
    replace hf : fr zP σ τ := hf
    have hC' := hC.fr (hf.mono zPC)
    rw [r7_size hC']
    simp only [Option.bind_some]
    by_cases h : i < sn S
    · obtain ⟨g1, g2, g3, g4, g5⟩ := hC'.at h
      have ge := (hC'.2.2.1 i h).2.1
      rw [if_pos (by omega), r7_standing hW hC' h]
      simp only [Option.bind_some]
      have hkd := hW.kd h
      obtain ⟨k1, k2, k3, k4, k5, k6, k7, k8, k9, k10⟩ := hW.2.1 i h
      have pp : ∀ p : Nat, isP S (p : Int) → sbb S p < sn S ∧ wK S (sbb S p) = 0 ∧ wS S (sbb S p) = 1 ∧ w1 S (sbb S p) = p := by
        intro p z
        have a1 := z.2.1
        have a2 := hW.2.2.1 p (by omega)
        have a3 := z.2.2
        rw [Int.toNat_natCast] at a3
        exact ⟨a2.1, a2.2.1, a3, a2.2.2⟩
      -- a record that changes nothing
      have idle : ¬ (wS S i = 1 ∧ (wK S i = 0 ∨ wK S i = 3)) → ∃ σ', self τ (xm_w ((i : Int) + 1)) = some (σ', 0) ∧ fr zP σ σ' ∧ PO σ' S := by
        intro q
        rw [xw1 (by omega)]
        refine ih (τ, i + 1) ⟨⟨h, hf⟩, fun p hp => ?_⟩ (by show sn S - (i + 1) < sn S - i; omega)
        obtain ⟨b1, b2, b3⟩ := hI p hp
        have hne : ∀ z : isP S (p : Int), sbb S p ≠ i := fun z w => by have := pp p z; rw [w] at this; exact q ⟨this.2.2.1, Or.inl this.2.1⟩
        refine ⟨b1.trans (xb_congr ⟨fun z => ⟨z.1, by have := z.2; show sbb S p < i + 1; omega⟩, fun z => ⟨z.1, by have := hne z.1; have : sbb S p < i + 1 := z.2; show sbb S p < i; omega⟩⟩), ?_, fun z => b3 ⟨z.1, by have := hne z.1; have : sbb S p < i + 1 := z.2; show sbb S p < i; omega⟩⟩
        show τ.1 13 p = ldx _ _ _ (i + 1)
        rw [ldx_no (fun z => q ⟨z.1, Or.inr z.2.1⟩)]
        exact b2
      by_cases s : wS S i = 0
      · rw [if_pos s, xvr _ (by decide), if_pos rfl]
        exact idle (by omega)
      · rw [if_neg s, xvr _ g4, if_neg g5, if_pos g2]
        have s1 : wS S i = 1 := by rcases hW.st h with z | z; exact absurd z s; exact z
        obtain ⟨c0, c1, c2, c3, c4, c5, c6, c7, c8, c9⟩ := g3
        simp only [Int.toNat_natCast, c0, c2, if_pos g2]
        unfold f_X10_isPersonNumber
        have h64 : sp S ≤ 64 := hW.1.2.1
        by_cases b : wK S i = 0
        · have z := k5 b
          obtain ⟨q, hq⟩ : ∃ q : Nat, w1 S i = (q : Int) := ⟨(w1 S i).toNat, by omega⟩
          have hq64 : q < 64 := by omega
          have hbq : sbb S q = i := by have := z.1.2.2; rw [hq, Int.toNat_natCast] at this; exact this
          rw [hq, if_neg (by omega), if_pos (by omega)]
          simp only [Option.bind_some]
          rw [if_neg (by decide)]
          simp only [if_pos g2, c0, c2]
          rw [if_pos b, hq, r5_takeBirth hq64 ge g2 ⟨c0, c1, c2, c3, c4, c5, c6, c7, c8, c9⟩ b]
          simp only [Option.bind_some]
          unfold f_X5_rebuild_j105
          have n10 : ¬ e i = 10 := by omega
          have n11 : ¬ e i = 11 := by omega
          have n12 : ¬ e i = 12 := by omega
          have n14 : ¬ e i = 14 := by omega
          have n15 : ¬ e i = 15 := by omega
          simp only [xobj1, if_pos g2, Int.toNat_natCast, xu11, n10, n11, n12, n14, n15, false_and, if_false, c0]
          rw [if_neg (by omega), xw1 (by omega)]
          refine ih (_, i + 1) ⟨⟨h, ?_⟩, fun p hp => ?_⟩ (by show sn S - (i + 1) < sn S - i; omega)
          · exact (((((hf.u1 (by unfold zP; omega)).u1 (by unfold zP; omega)).u1 (by unfold zP; omega)).u1 (by unfold zP; omega)).u1 (by unfold zP; omega))
          · obtain ⟨b1, b2, b3⟩ := hI p hp
            have hld : ldx (isDth S p) (wD S) (-1) (i + 1) = ldx (isDth S p) (wD S) (-1) i := ldx_no (fun z => by have := z.2.1; omega)
            by_cases qq : p = q
            · subst qq
              have hisP : isP S (p : Int) := ⟨by omega, by omega, by rw [Int.toNat_natCast, hbq]; exact s1⟩
              refine ⟨?_, ?_, fun _ => ?_⟩
              · rw [xb_pos ⟨hisP, by rw [hbq]; exact Nat.lt_succ_self i⟩]; simp [xu11]
              · rw [hld]; simp [xu11]; exact b2
              · rw [hbq]; simp [xu11]
            · have hne : ∀ w : isP S (p : Int), sbb S p ≠ i := fun w v => by have := (pp p w).2.2.2; rw [v, hq] at this; omega
              refine ⟨?_, ?_, fun w => ?_⟩
              · simp only [xu11]
                simp [qq]
                refine b1.trans (xb_congr ⟨fun z => ⟨z.1, by have := z.2; omega⟩, fun z => ⟨z.1, by have := hne z.1; have := z.2; omega⟩⟩)
              · rw [hld]; simp [xu11]; exact b2
              · have := b3 ⟨w.1, by have := hne w.1; have : sbb S p < i + 1 := w.2; show sbb S p < i; omega⟩
                simp [xu11, qq]
                exact this
        · by_cases d : wK S i = 3
          · have z := k7 d
            obtain ⟨q, hq⟩ : ∃ q : Nat, w1 S i = (q : Int) := ⟨(w1 S i).toNat, by omega⟩
            have hq64 : q < 64 := by omega
            have hg : 0 ≤ (q : Int) ∧ (q : Int) < 64 := ⟨by omega, by omega⟩
            rw [hq, if_neg (by omega), if_pos (by omega)]
            simp only [Option.bind_some]
            rw [if_neg (by decide)]
            simp only [if_pos g2, c0, c2]
            rw [if_neg b]
            unfold f_X5_rebuild_j105
            simp only [if_pos g2, Int.toNat_natCast, c0, c1, c2, if_pos d, hq, if_pos hg, xst]
            rw [xw1 (by omega)]
            refine ih (_, i + 1) ⟨⟨h, hf.u1 (by unfold zP; omega)⟩, fun p hp => ?_⟩ (by show sn S - (i + 1) < sn S - i; omega)
            obtain ⟨b1, b2, b3⟩ := hI p hp
            have hne : ∀ w : isP S (p : Int), sbb S p ≠ i := fun w v => by have := (pp p w).2.1; rw [v] at this; omega
            refine ⟨?_, ?_, fun w => ?_⟩
            · simp [xu11]
              refine b1.trans (xb_congr ⟨fun z => ⟨z.1, by have := z.2; omega⟩, fun z => ⟨z.1, by have := hne z.1; have := z.2; omega⟩⟩)
            · by_cases qq : p = q
              · subst qq
                rw [ldx_yes ⟨s1, d, hq⟩]
                simp [xu11]
              · rw [ldx_no (fun z => by have := z.2.2; rw [hq] at this; omega)]
                simp [xu11, qq]
                exact b2
            · have := b3 ⟨w.1, by have := hne w.1; have : sbb S p < i + 1 := w.2; show sbb S p < i; omega⟩
              simp [xu11]
              exact this
          · have idl := idle (by omega)
            by_cases n0 : w1 S i < 0
            · rw [if_pos n0]; simp only [Option.bind_some, if_true]; exact idl
            · rw [if_neg n0]
              by_cases n1 : w1 S i < 64
              · rw [if_pos n1]
                simp only [Option.bind_some]
                rw [if_neg (by decide)]
                simp only [if_pos g2, c0, c2]
                rw [if_neg b]
                unfold f_X5_rebuild_j105
                simp only [if_pos g2, Int.toNat_natCast, c0, if_neg d]
                exact idl
              · rw [if_neg n1]; simp only [Option.bind_some, if_true]; exact idl
    · rw [if_neg (by omega)]
      have ee : i = sn S := by omega
      subst ee
      refine ⟨τ, rfl, hf, fun p hp => ?_⟩
      obtain ⟨b1, b2, b3⟩ := hI p hp
      have hb : isP S (p : Int) → sbb S p < sn S := fun z => by have := z.2.1; exact (hW.2.2.1 p (by omega)).1
      exact ⟨b1.trans (xb_congr ⟨fun z => z.1, fun z => ⟨z, hb z⟩⟩), fun _ => b2, fun z => b3 ⟨z, hb z⟩⟩
end XP
