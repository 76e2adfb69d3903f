/-! ===== questions of titles: the reference ===== -/
/-- the reference's world -/
def MI (σ : xm_Mem) (S : xS) (A : Nat → Nat) (n : Nat) (m : Nat → Int64) : Prop := MS σ S ∧ RI σ S A n m ∧ ∀ t : Nat, isT S (t : Int) → GI σ S A n m t
/-- what questions change in the reference -/
def zNQ (a k : Nat) : Prop := (zMq a k ∨ a = 95 ∨ (104 ≤ a ∧ a ≤ 110)) ∨ (a = 84 ∧ k = 2)
section XB
variable {σ : xm_Mem} {S : xS} {A : Nat → Nat} {n : Nat} {m : Nat → Int64} {t : Nat}
theorem cnt_same (hO : OK S) (ht : isT S (t : Int)) {D d : Int} (hD : D ≤ d) (hd : d ≤ 99999) (hno : ∀ r, r < sn S → hap S t r → D < wD S r → d < wD S r) {p : Nat} (hp : isP S (p : Int)) : cnt S t d p ↔ cnt S t D p := by
  have hb := hO.rec hp
  have h1 : wBorn S p ≤ d ↔ wBorn S p ≤ D := by
    have e : wBorn S p = wD S (sbb S p) := by unfold wBorn; rw [Int.toNat_natCast]
    rw [e]
    have := hno _ hb.1 ⟨hb.2.2.2.1, Or.inl hb.2.1⟩
    constructor
    · intro z; rcases Int.lt_or_le D (wD S (sbb S p)) with y | y
      · have := this y; omega
      · exact y
    · intro z; omega
  have h2 : (wDead S p < 0 ∨ d < wDead S p) ↔ (wDead S p < 0 ∨ D < wDead S p) := by
    unfold wDead
    obtain ⟨f1, f2, f3⟩ := fsx_spec (fun r => wS S r = 1 ∧ wK S r = 3 ∧ w1 S r = p) (sn S)
    by_cases c : fsx (fun r => wS S r = 1 ∧ wK S r = 3 ∧ w1 S r = p) (sn S) < sn S
    · rw [if_pos c]
      have y := f2 c
      have := hno _ c ⟨y.1, Or.inr (Or.inl y.2.1)⟩
      constructor
      · rintro (z | z)
        · exact Or.inl z
        · exact Or.inr (by omega)
      · rintro (z | z)
        · exact Or.inl z
        · exact Or.inr (this z)
    · rw [if_neg c]; constructor <;> intro _ <;> exact Or.inl (by omega)
  have h3 : wYl S t p ≤ d ↔ wYl S t p ≤ D := by
    unfold wYl
    rcases ldx_two (isYl S t p) (wD S) 100000 100000 (sn S) with ⟨y, _⟩ | ⟨r, r1, r2, r3, _⟩
    · rw [y]; omega
    · rw [r3]
      have := hno _ r1 ⟨r2.1, Or.inr (Or.inr ⟨by rw [r2.2.1]; decide, r2.2.2.1⟩)⟩
      constructor
      · intro z; rcases Int.lt_or_le D (wD S r) with y | y
        · have := this y; omega
        · exact y
      · intro z; omega
  unfold cnt
  rw [h1, h2, h3]
theorem line_same (hO : OK S) (hA : AGE S A n) (ht : isT S (t : Int)) {D d : Int} (hD : D ≤ d) (hd : d ≤ 99999) (hno : ∀ r, r < sn S → hap S t r → D < wD S r → d < wD S r) {r : Nat} (hr : isP S (r : Int)) : line S A n t d r = line S A n t D r := by
  unfold line cntL
  refine List.filter_congr (fun q hq => ?_)
  have c := cnt_same hO ht hD hd hno ((ord_ok hO hA hr).2 q hq)
  by_cases h : cnt S t D q
  · rw [dc_y h, dc_y (c.mpr h)]
  · rw [dc_n h, dc_n (fun z => h (c.mp z))]
theorem psC_same (hO : OK S) (hA : AGE S A n) (ht : isT S (t : Int)) {D d : Int} (hD : D ≤ d) (hd : d ≤ 99999) (hno : ∀ r, r < sn S → hap S t r → D < wD S r → d < wD S r) {r : Nat} (hr : isP S (r : Int)) : psC S A n m t d r = psC S A n m t D r := by
  have e1 := line_same hO hA ht hD hd hno hr
  have eR : psR S A n t d r = psR S A n t D r := by unfold psR; rw [e1]
  have hR := psR_ok (A := A) (n := n) (t := t) (d := D) hO ht hr
  have e2 := line_same hO hA ht hD hd hno hR
  unfold psC
  rw [eR, e2]
theorem sK_no (hO : OK S) (ht : isT S (t : Int)) {d : Int} (hd : d ≤ 99999) {k : Nat} (hk : sK_ S A n m t d = (k : Int)) : k < NS S A n m t ∧ (stp S A n m t k).1 ≤ d ∧ ∀ r, r < sn S → hap S t r → (stp S A n m t k).1 < wD S r → d < wD S r := by
  have hNS := NS_ok (A := A) (n := n) (m := m) hO ht
  rcases sK_rg S A n m t d with ⟨h, _⟩ | ⟨j, j1, j2, j3, j4⟩
  · omega
  · have ej : j = k := by omega
    subst ej
    refine ⟨j1, j2, fun r hr hh hl => ?_⟩
    have dy := (stp_day (A := A) (n := n) (m := m) (t := t) hO.1 (j + 1)).resolve_left (by omega)
    rw [Nat.add_sub_cancel] at dy
    have nx := (nxD_spec (t := t) hO.1 (stp S A n m t j).1).2.2 r hr hh
    rw [← dy] at nx
    have : d < (stp S A n m t (j + 1)).1 := by
      rcases Nat.lt_or_ge (j + 1) (NS S A n m t) with y | y
      · have := j4 (j + 1) (by omega) y; omega
      · have e : j + 1 = NS S A n m t := by omega
        have := hNS.2.1
        rw [← e] at this
        omega
    rcases Int.lt_or_le (wD S r) (stp S A n m t (j + 1)).1 with y | y
    · exact absurd ⟨hl, y⟩ nx
    · omega
theorem snc_le (hU : PU S A n m) (ht : isT S (t : Int)) : ∀ k, (stp S A n m t k).1 ≤ 99999 → (stp S A n m t k).2.2.2 ≤ (stp S A n m t k).1 := by
  intro k
  induction k with
  | zero => intro h; rw [since_eq hU.1 hU.2.1 hU.2.2 ht h, if_neg (Nat.lt_irrefl _)]; exact Int.le_refl _
  | succ k ih =>
    intro h
    have lt := stp_lt (A := A) (n := n) (m := m) (t := t) hU.1 k h
    have := ih (by omega)
    rw [since_eq hU.1 hU.2.1 hU.2.2 ht h, if_pos (Nat.succ_pos k)]
    show (if _ then (stp S A n m t k).2.2.2 else _) ≤ _
    split <;> omega
theorem bgn_zero (hU : PU S A n m) (ht : isT S (t : Int)) (h : (stp S A n m t 0).1 ≤ 99999) : bgn S A n m t 0 := by
  unfold bgn
  rw [since_eq hU.1 hU.2.1 hU.2.2 ht h, if_neg (Nat.lt_irrefl _)]
theorem bgn_succ (hU : PU S A n m) (ht : isT S (t : Int)) {k : Nat} (h : (stp S A n m t (k + 1)).1 ≤ 99999) : bgn S A n m t (k + 1) ↔ ¬ (stp S A n m t (k + 1)).2.2.2 = (stp S A n m t k).2.2.2 := by
  have lt := stp_lt (A := A) (n := n) (m := m) (t := t) hU.1 k h
  have le := snc_le hU ht k (by omega)
  have e := since_eq hU.1 hU.2.1 hU.2.2 ht h
  rw [if_pos (Nat.succ_pos k)] at e
  have e : (stp S A n m t (k + 1)).2.2.2 = if (stp S A n m t (k + 1)).2.1 = (stp S A n m t k).2.1 then (stp S A n m t k).2.2.2 else (stp S A n m t (k + 1)).1 := e
  unfold bgn
  rw [e]
  split <;> omega
theorem mi_ch {σ' : xm_Mem} {Z : Nat → Nat → Prop} (h : MI σ S A n m) (hO : OK S) (hf : gx Z σ σ') (hz : ∀ a k, Z a k → ¬ (a = 84 ∧ (k = 5 ∨ k = 14 ∨ k = 15)) ∧ ¬ (86 ≤ a ∧ a ≤ 94) ∧ a ≠ 95 ∧ ¬ (104 ≤ a ∧ a ≤ 108)) (hR : RI σ' S A n m) (h18 : σ.1 84 18 = 1 → σ'.1 84 18 = 1) : MI σ' S A n m := by
  refine ⟨h.1.gx hf (fun a k z => by have := hz a k z; exact ⟨this.1, this.2.1⟩), hR, fun t ht => ?_⟩
  rcases h.2.2 t ht with g | ⟨g, g18, g1, g2⟩
  · exact Or.inl (by rw [hf.1 95 t (fun z => (hz _ _ z).2.2.1 rfl)]; exact g)
  · refine Or.inr ⟨by rw [hf.1 95 t (fun z => (hz _ _ z).2.2.1 rfl)]; exact g, h18 g18, by rw [hf.1 104 t (fun z => (hz _ _ z).2.2.2 (by omega))]; exact g1, fun k hk => ?_⟩
    rw [hf.1 105 _ (fun z => (hz _ _ z).2.2.2 (by omega)), hf.1 106 _ (fun z => (hz _ _ z).2.2.2 (by omega)), hf.1 107 _ (fun z => (hz _ _ z).2.2.2 (by omega)), hf.1 108 _ (fun z => (hz _ _ z).2.2.2 (by omega))]
    exact g2 k hk
/-- other changes leave it -/
theorem mi_gx {σ' : xm_Mem} {Z : Nat → Nat → Prop} (h : MI σ S A n m) (hO : OK S) (hf : gx Z σ σ') (hz : ∀ a k, Z a k → a < 84 ∨ 111 ≤ a ∨ (a = 84 ∧ k ≠ 5 ∧ k ≠ 14 ∧ k ≠ 15 ∧ k ≠ 18 ∧ k ≠ 22) ∨ a = 85 ∨ (101 ≤ a ∧ a ≤ 103) ∨ 109 ≤ a) : MI σ' S A n m := by
  refine mi_ch h hO hf (fun a k z => by have := hz a k z; omega) ?_ (fun q => by rw [hf.1 84 18 (fun z => by have := hz _ _ z; omega)]; exact q)
  rcases h.2.1 with r | ⟨r1, r2⟩
  · exact Or.inl (by rw [hf.1 84 18 (fun z => by have := hz _ _ z; omega)]; exact r)
  · exact Or.inr ⟨by rw [hf.1 84 18 (fun z => by have := hz _ _ z; omega)]; exact r1, r2.gx hf (fun a k z => by have := hz a k z; omega)⟩
theorem ev_ix (hO : OK S) (ht : isT S (t : Int)) {d : Int} (h : ¬ sK_ S A n m t d < 0) : ∃ k : Nat, sK_ S A n m t d = (k : Int) ∧ k < NS S A n m t ∧ (if sK_ S A n m t d < 0 then -1 else 200 * (t : Int) + sK_ S A n m t d) = ((200 * t + k : Nat) : Int) ∧ (0 ≤ ((200 * t + k : Nat) : Int) ∧ ((200 * t + k : Nat) : Int) < 1600) := by
  have t8 := (isT_t hO ht).1
  have hNS := (NS_ok (A := A) (n := n) (m := m) hO ht).1
  rcases sK_rg S A n m t d with ⟨z, _⟩ | ⟨k, k1, k2, k3, _⟩
  · omega
  · exact ⟨k, k3, k1, by rw [if_neg h]; omega, by omega, by omega⟩
end XB
