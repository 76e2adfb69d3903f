/-! ===== how a title passes, pure ===== -/
def lossB (S : xS) (t : Nat) (d : Int) (r : Nat) : Prop := wS S r = 1 ∧ 7 ≤ wK S r ∧ w2 S r = (t : Int) ∧ wD S r ≤ d
def ltst (S : xS) (t : Nat) (d : Int) (b : Nat) : Prop := (b < sn S ∧ lossB S t d b) ∧ ∀ q, q < sn S → lossB S t d q → wD S q ≤ wD S b ∧ (q < b → wD S q < wD S b)
def lostP (S : xS) (t : Nat) (d : Int) : Prop := ∃ b, ltst S t d b ∧ wK S b = 7
def backP (S : xS) (t : Nat) (d : Int) : Prop := ∃ b, ltst S t d b ∧ wK S b = 8 ∧ wD S b = d
/-- something that could move a title -/
def hap (S : xS) (t r : Nat) : Prop := wS S r = 1 ∧ (wK S r = 0 ∨ wK S r = 3 ∨ (4 ≤ wK S r ∧ w2 S r = (t : Int)))
noncomputable def nxD (S : xS) (t : Nat) (d : Int) : Int := mnx (fun r => hap S t r ∧ d < wD S r) (wD S) 100000 (sn S)
def noev (S : xS) (t : Nat) (D d : Int) : Prop := ∀ r, r < sn S → hap S t r → ¬ (D < wD S r ∧ wD S r < d)
theorem ltst_uniq {S : xS} {t : Nat} {d : Int} {b c : Nat} (h : ltst S t d b) (g : ltst S t d c) : b = c := by
  have h1 := h.2 c g.1.1 g.1.2
  have g1 := g.2 b h.1.1 h.1.2
  rcases Nat.lt_trichotomy b c with z | z | z
  · have := g1.2 z; omega
  · exact z
  · have := h1.2 z; omega
theorem ltst_ex {S : xS} {t : Nat} {d : Int} (h : ∃ q, q < sn S ∧ lossB S t d q) : ∃ b, ltst S t d b := by
  obtain ⟨b, b1, b2, b3⟩ := ex_max (P := lossB S t d) (wD S) (sn S) h
  exact ⟨b, b1, fun q hq hl => ⟨b2 q hq hl, fun z => b3 q z hl⟩⟩
theorem back_iff {S : xS} (hO : OK S) {t : Nat} {d : Int} : backP S t d ↔ ∃ r, r < sn S ∧ wS S r = 1 ∧ wK S r = 8 ∧ w2 S r = (t : Int) ∧ wD S r = d := by
  constructor
  · rintro ⟨b, b1, b2, b3⟩
    exact ⟨b, b1.1.1, b1.1.2.1, b2, b1.1.2.2.2.1, b3⟩
  · rintro ⟨r, r1, r2, r3, r4, r5⟩
    have hl : lossB S t d r := ⟨r2, by omega, r4, by omega⟩
    obtain ⟨b, hb⟩ := ltst_ex ⟨r, r1, hl⟩
    have h1 := (hb.2 r r1 hl).1
    have h2 := hb.1.2.2.2.2
    have e : b = r := by
      refine Classical.byContradiction (fun n => ?_)
      have h9 : hB9 S r := hO.hold (b := 9) (by omega) r1 r2
      exact (h9 (by omega)).2 b hb.1.1 ⟨n, hb.1.2.1, hb.1.2.2.1, by rw [hb.1.2.2.2.1, r4], by omega⟩
    subst e
    exact ⟨b, hb, r3, r5⟩
theorem not_both {S : xS} {t : Nat} {d : Int} (h : lostP S t d) (g : backP S t d) : False := by
  obtain ⟨b, b1, b2⟩ := h
  obtain ⟨c, c1, c2, _⟩ := g
  have := ltst_uniq b1 c1
  subst this
  omega
theorem back_before {S : xS} (hO : OK S) {t : Nat} {d : Int} (h : backP S t d) : ∃ b', (b' < sn S ∧ lossB S t d b') ∧ wK S b' = 7 ∧ wD S b' < d ∧ ∀ q, q < sn S → lossB S t d q → wD S q < d → wD S q ≤ wD S b' ∧ (q < b' → wD S q < wD S b') := by
  obtain ⟨b, b1, b2, b3⟩ := h
  obtain ⟨⟨l1, l2, l3, l4, l5⟩, lm⟩ := b1
  have h9 : hB9 S b := hO.hold (b := 9) (by omega) l1 l2
  have p9 := h9 (by omega)
  have dist : ∀ r, r < sn S → wS S r = 1 → 7 ≤ wK S r → ∀ q, q < sn S → kin S r q → wT S q ≠ wT S r := by
    intro r hr hs hk q hq hkn hT
    have h9r : hB9 S r := hO.hold (b := 9) (by omega) hr hs
    obtain ⟨n1, n2, n3⟩ := hkn
    have e1 := wT_val S r
    have e2 := wT_val S q
    rcases n3 with n3 | n3
    · omega
    · exact (h9r hk).2 q hq ⟨n1, n2, n3.1.2, n3.2, by omega⟩
  have hd := dist b l1 l2 l3
  have eb := wT_val S b
  rcases bef_or (S := S) (r := b) with ⟨b', hb'⟩ | hno
  · have hb2 := hb'
    obtain ⟨⟨c1, ⟨k1, k2, k3⟩, c3⟩, c4, c5⟩ := hb'
    have k3' : 7 ≤ wK S b' ∧ w2 S b' = w2 S b := by
      rcases k3 with k3 | k3
      · omega
      · exact ⟨k3.1.2, k3.2⟩
    have eb' := wT_val S b'
    have h9' : hB9 S b' := hO.hold (b := 9) (by omega) c1 k2
    have p9' := (h9' k3'.1).1
    have st := rk_step (S := S) (r := b) (b := b') l2 (Or.inr l3) (Or.inr k3'.1) hd (dist b' c1 k2 k3'.1) hb2
    have e7 : wK S b' = 7 := by
      refine p9'.mp ?_
      have : ¬ cn (ahM S b) (sn S) % 2 = 0 := fun z => by have := p9.1.mp z; omega
      omega
    refine ⟨b', ⟨c1, k2, k3'.1, by rw [k3'.2, l4], by omega⟩, e7, by omega, fun q hq hl hqd => ?_⟩
    have hkq : kin S b q := ⟨fun z => by rw [z] at hqd; omega, hl.1, Or.inr ⟨⟨l3, hl.2.1⟩, by rw [hl.2.2.1, l4]⟩⟩
    have eq := wT_val S q
    have q7 := hl.2.1
    have h1 := c4 q hq hkq (by omega)
    refine ⟨by omega, fun z => ?_⟩
    have h2 := c5 q z hkq (by omega)
    omega
  · have : cn (ahM S b) (sn S) = 0 := cn_none _ (fun i hi z => hno i hi ((ah_iff (S := S) (r := b) (Or.inr l3) hd hi).mp z))
    have := p9.1.mp (by omega)
    omega
theorem back_lost {S : xS} (hO : OK S) {t : Nat} {D d : Int} (hDd : D < d) (hn : noev S t D d) (h : backP S t d) : lostP S t D := by
  obtain ⟨b', ⟨b1, b2⟩, b3, b4, b5⟩ := back_before hO h
  have hD : wD S b' ≤ D := by
    have b27 := b2.2.1
    have := hn b' b1 ⟨b2.1, Or.inr (Or.inr ⟨by omega, b2.2.2.1⟩)⟩
    omega
  exact ⟨b', ⟨⟨b1, b2.1, b2.2.1, b2.2.2.1, hD⟩, fun q hq hl => b5 q hq ⟨hl.1, hl.2.1, hl.2.2.1, by have := hl.2.2.2; omega⟩ (by have := hl.2.2.2; omega)⟩, b3⟩
theorem back_own {S : xS} (hO : OK S) {t : Nat} {d : Int} (h : backP S t d) : wD S (stb S t) < d := by
  obtain ⟨b', ⟨b1, b2⟩, b3, b4, b5⟩ := back_before hO h
  have h8 : hB8 S b' := hO.hold (b := 8) (by omega) b1 b2.1
  have := h8.2.1 (by omega)
  rw [b2.2.2.1, Int.toNat_natCast] at this
  omega
theorem lost_keep {S : xS} (hO : OK S) {t : Nat} {D d : Int} (hDd : D < d) (hn : noev S t D d) (h : lostP S t D) (hl : ¬ lostP S t d) : backP S t d := by
  obtain ⟨b, b1, b2⟩ := h
  have bl : lossB S t d b := ⟨b1.1.2.1, b1.1.2.2.1, b1.1.2.2.2.1, by have := b1.1.2.2.2.2; omega⟩
  obtain ⟨c, hc⟩ := ltst_ex ⟨b, b1.1.1, bl⟩
  obtain ⟨⟨c1, c2, c3, c4, c5⟩, cm⟩ := hc
  by_cases z : wD S c ≤ D
  · have : ltst S t D c := ⟨⟨c1, c2, c3, c4, z⟩, fun q hq hql => cm q hq ⟨hql.1, hql.2.1, hql.2.2.1, by have := hql.2.2.2; omega⟩⟩
    have := ltst_uniq b1 this
    subst this
    exact absurd ⟨b, ⟨⟨c1, c2, c3, c4, c5⟩, cm⟩, b2⟩ hl
  · have hk := hO.1.kd c1
    have := hn c c1 ⟨c2, Or.inr (Or.inr ⟨by omega, c4⟩)⟩
    have hd : wD S c = d := by omega
    by_cases k7 : wK S c = 7
    · exact absurd ⟨c, ⟨⟨c1, c2, c3, c4, c5⟩, cm⟩, k7⟩ hl
    · exact ⟨c, ⟨⟨c1, c2, c3, c4, c5⟩, cm⟩, by omega, hd⟩
/-- the PERSON of a title, its own day -/
def ow (S : xS) (t : Nat) : Nat := (w1 S (stb S t)).toNat
def oD (S : xS) (t : Nat) : Int := wD S (stb S t)
section XG
variable (S : xS) (A : Nat → Nat) (n : Nat) (m : Nat → Int64) (t : Nat)
noncomputable def psR (d : Int) (r : Nat) : Nat := if (line S A n t d r).length = 0 ∧ r ≠ ow S t then ow S t else r
noncomputable def psS (d : Int) (r : Nat) : Int := if (line S A n t d (psR S A n t d r)).length = 0 then -1 else if rl S t = 5 then (dsc S A n m (line S A n t d (psR S A n t d r)) (psR S A n t d r)).1 else (((line S A n t d (psR S A n t d r)).getD 0 0 : Nat) : Int)
noncomputable def psC (d : Int) (r : Nat) : List Nat := if (line S A n t d (psR S A n t d r)).length = 0 then [] else if rl S t = 5 then (dsc S A n m (line S A n t d (psR S A n t d r)) (psR S A n t d r)).2 else []
def alv (p : Nat) (d : Int) : Prop := wBorn S p ≤ d ∧ (wDead S p < 0 ∨ d < wDead S p)
def must (s d : Int) : Prop := s < 0 ∨ ¬ alv S s.toNat d ∨ wYl S t s.toNat ≤ d
/-- the place of one in a line -/
noncomputable def plc (L : List Nat) (s : Int) : Int := if fsx (fun k => ((L.getD k 0 : Nat) : Int) = s) L.length < L.length then (fsx (fun k => ((L.getD k 0 : Nat) : Int) = s) L.length : Int) else -1
def lateB (d h : Int) (p : Nat) : Prop := wBorn S p = d ∧ wLegit S p ∧ (0 ≤ wDead S (wFa S p) ∧ wDead S (wFa S p) < d) ∧ wDead S (wFa S p) ≤ h
noncomputable def lateK (d : Int) (r : Nat) (s h : Int) : Nat := fsx (fun k => lateB S d h ((line S A n t d r).getD k 0)) (plc (line S A n t d r) s).toNat
noncomputable def bornA (d : Int) (r : Nat) (s h : Int) : Int := if lateK S A n t d r s h < (plc (line S A n t d r) s).toNat then (((line S A n t d r).getD (lateK S A n t d r s h) 0 : Nat) : Int) else s
def callP (d : Int) (r k : Nat) : Prop := wS S k = 1 ∧ wK S k = 6 ∧ w2 S k = (t : Int) ∧ wD S k = d ∧ (w1 S k).toNat ∈ line S A n t d r
noncomputable def callR (d : Int) (r : Nat) : Nat := fsx (callP S A n t d r) (sn S)
abbrev xC : Type := Int × Nat × Int
noncomputable def dP1 (x : xC) (d : Int) : xC := @ite _ (backP S t d) (Classical.propDecidable _) (psS S A n m t d x.2.1, psR S A n t d x.2.1, d) x
noncomputable def dP2 (y : xC) (d : Int) : Int × Nat := @ite _ (must S t y.1 d) (Classical.propDecidable _) (psS S A n m t d y.2.1, psR S A n t d y.2.1) (bornA S A n t d y.2.1 y.1 y.2.2, y.2.1)
noncomputable def dP3 (z : Int × Nat) (d : Int) : Int × Nat := if z.1 = -2 ∧ callR S A n t d z.2 < sn S then (w1 S (callR S A n t d z.2), (w1 S (callR S A n t d z.2)).toNat) else z
/-- a day: state, root and since behind it -/
noncomputable def dP (x : xC) (d : Int) : xC := @ite _ (lostP S t d) (Classical.propDecidable _) (-3, x.2.1, if x.1 = -3 then x.2.2 else d)
  ((dP3 S A n t (dP2 S A n m t (dP1 S A n m t x d) d) d).1, (dP3 S A n t (dP2 S A n m t (dP1 S A n m t x d) d) d).2, if (dP3 S A n t (dP2 S A n m t (dP1 S A n m t x d) d) d).1 = x.1 then (dP1 S A n m t x d).2.2 else d)
noncomputable def stp : Nat → Int × xC
  | 0 => (oD S t, dP S A n m t ((ow S t : Int), ow S t, oD S t) (oD S t))
  | k + 1 => (nxD S t (stp k).1, dP S A n m t (stp k).2 (nxD S t (stp k).1))
noncomputable def NS : Nat := fsx (fun k => 99999 < (stp S A n m t k).1) 201
end XG
section XH
variable {S : xS} {A : Nat → Nat} {n : Nat} {m : Nat → Int64} {t : Nat}
theorem nxD_spec (hW : WF S) (d : Int) : nxD S t d ≤ 100000 ∧ (nxD S t d = 100000 ∨ ∃ r, r < sn S ∧ hap S t r ∧ d < wD S r ∧ nxD S t d = wD S r) ∧ noev S t d (nxD S t d) := by
  obtain ⟨h1, h2, h3⟩ := mnx_le (P := fun r => hap S t r ∧ d < wD S r) (f := wD S) (a := 100000) (sn S)
  refine ⟨h1, ?_, fun r hr hh z => ?_⟩
  · rcases h3 with h3 | ⟨r, r1, r2, r3⟩
    · exact Or.inl h3
    · exact Or.inr ⟨r, r1, r2.1, r2.2, r3⟩
  · have := h2 r hr ⟨hh, z.1⟩
    have h5 := z.2
    unfold nxD at h5
    omega
theorem ow_ok (hO : OK S) (ht : isT S (t : Int)) : isP S (ow S t : Int) ∧ ((ow S t : Nat) : Int) = w1 S (stb S t) ∧ (0 ≤ oD S t ∧ oD S t ≤ 99999) := by
  obtain ⟨t1, t2, t3, t4, t5, t6, t7⟩ := isT_t hO ht
  have h := (hO.2.1 _ t3 t5).2.1 ⟨by omega, by omega⟩
  have e : ((ow S t : Nat) : Int) = w1 S (stb S t) := by unfold ow; have := h.1; omega
  exact ⟨by rw [e]; exact h, e, hO.1.day t3⟩
theorem stp_day (hW : WF S) : ∀ k, (k = 0 ∨ (stp S A n m t k).1 = nxD S t (stp S A n m t (k - 1)).1) := by
  intro k
  cases k with
  | zero => exact Or.inl rfl
  | succ k => exact Or.inr rfl
theorem stp_cn (hO : OK S) (ht : isT S (t : Int)) : ∀ k, (stp S A n m t k).1 ≤ 99999 → k + 1 ≤ cn (fun r => wD S r ≤ (stp S A n m t k).1) (sn S) := by
  intro k
  induction k with
  | zero =>
    intro _
    obtain ⟨t1, t2, t3, t4, t5, t6, t7⟩ := isT_t hO ht
    have : cn (fun r => r = stb S t) (sn S) = cn (fun _ => False) (sn S) + 1 := cn_one (P := fun _ => False) (Q := fun r => r = stb S t) (b := stb S t) (fun h => h) (fun i => ⟨Or.inr, fun z => z.elim False.elim id⟩) (sn S) t3
    have h2 : ∀ N, cn (fun r => r = stb S t) N ≤ cn (fun r => wD S r ≤ oD S t) N := by
      intro N
      induction N with
      | zero => exact Nat.le_refl _
      | succ N ih =>
        by_cases a : N = stb S t
        · rw [cn_yes (P := fun r => r = stb S t) a, cn_yes (P := fun r => wD S r ≤ oD S t) (by show wD S N ≤ oD S t; rw [a]; exact Int.le_refl _)]; omega
        · rw [cn_no (P := fun r => r = stb S t) a]
          by_cases b : wD S N ≤ oD S t
          · rw [cn_yes (P := fun r => wD S r ≤ oD S t) b]; omega
          · rw [cn_no (P := fun r => wD S r ≤ oD S t) b]; exact ih
    have := h2 (sn S)
    show 0 + 1 ≤ cn (fun r => wD S r ≤ oD S t) (sn S)
    omega
  | succ k ih =>
    intro h
    have e : (stp S A n m t (k + 1)).1 = nxD S t (stp S A n m t k).1 := rfl
    rw [e] at h ⊢
    obtain ⟨_, h2, h3⟩ := nxD_spec (t := t) hO.1 (stp S A n m t k).1
    rcases h2 with h2 | ⟨r, r1, r2, r3, r4⟩
    · omega
    · have ihk := ih (by omega)
      have mono : ∀ N, cn (fun q => wD S q ≤ (stp S A n m t k).1) N + (if r < N then 1 else 0) ≤ cn (fun q => wD S q ≤ nxD S t (stp S A n m t k).1) N := by
        intro N
        induction N with
        | zero => exact Nat.le_refl _
        | succ N ihN =>
          by_cases er : N = r
          · subst er
            rw [cn_no (P := fun q => wD S q ≤ (stp S A n m t k).1) (by omega), cn_yes (P := fun q => wD S q ≤ nxD S t (stp S A n m t k).1) (by omega)]
            rw [if_neg (Nat.lt_irrefl _)] at ihN
            rw [if_pos (Nat.lt_succ_self _)]
            omega
          · have ei : (if r < N + 1 then 1 else 0) = (if r < N then 1 else 0) := by
              by_cases q : r < N
              · rw [if_pos q, if_pos (by omega)]
              · rw [if_neg q, if_neg (by omega)]
            rw [ei]
            by_cases a : wD S N ≤ (stp S A n m t k).1
            · rw [cn_yes (P := fun q => wD S q ≤ (stp S A n m t k).1) a, cn_yes (P := fun q => wD S q ≤ nxD S t (stp S A n m t k).1) (by omega)]; omega
            · rw [cn_no (P := fun q => wD S q ≤ (stp S A n m t k).1) a]
              by_cases b : wD S N ≤ nxD S t (stp S A n m t k).1
              · rw [cn_yes (P := fun q => wD S q ≤ nxD S t (stp S A n m t k).1) b]; omega
              · rw [cn_no (P := fun q => wD S q ≤ nxD S t (stp S A n m t k).1) b]; exact ihN
      have := mono (sn S)
      rw [if_pos r1] at this
      omega
theorem NS_ok (hO : OK S) (ht : isT S (t : Int)) : NS S A n m t ≤ 200 ∧ 99999 < (stp S A n m t (NS S A n m t)).1 ∧ (∀ k, k < NS S A n m t → (stp S A n m t k).1 ≤ 99999) ∧ 0 < NS S A n m t := by
  obtain ⟨h1, h2, h3⟩ := fsx_spec (fun k => 99999 < (stp S A n m t k).1) 201
  have hn := hO.1.n
  have c : fsx (fun k => 99999 < (stp S A n m t k).1) 201 < 201 := by
    refine Classical.byContradiction (fun z => ?_)
    have := h3 200 (by omega)
    have := stp_cn (A := A) (n := n) (m := m) hO ht 200 (by omega)
    have := cn_le (fun r => wD S r ≤ (stp S A n m t 200).1) (sn S)
    omega
  have k2 : ∀ k, k < NS S A n m t → (stp S A n m t k).1 ≤ 99999 := fun k hk => by have := h3 k hk; omega
  refine ⟨by unfold NS; omega, h2 c, k2, ?_⟩
  refine Classical.byContradiction (fun z => ?_)
  have e : NS S A n m t = 0 := by omega
  have := h2 c
  have e2 : fsx (fun k => 99999 < (stp S A n m t k).1) 201 = 0 := e
  rw [e2] at this
  have this : 99999 < oD S t := this
  have := (ow_ok hO ht).2.2
  omega
end XH
