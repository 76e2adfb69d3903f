/-! ===== the reference's course ===== -/
/-- a title that is gone through -/
def GO (σ : xm_Mem) (S : xS) (A : Nat → Nat) (n : Nat) (m : Nat → Int64) (t : Nat) : Prop := σ.1 104 t = (NS S A n m t : Int) ∧ ∀ k, k < NS S A n m t → σ.1 105 (200 * t + k) = (stp S A n m t k).1 ∧ σ.1 106 (200 * t + k) = (stp S A n m t k).2.1 ∧ σ.1 107 (200 * t + k) = ((stp S A n m t k).2.2.1 : Int) ∧ σ.1 108 (200 * t + k) = (stp S A n m t k).2.2.2
def zGo (t a k : Nat) : Prop := (zMq a k ∨ (a = 95 ∧ k = t) ∨ (a = 104 ∧ k = t)) ∨ (105 ≤ a ∧ a ≤ 108 ∧ 200 * t ≤ k ∧ k < 200 * t + 200)
section XM
variable {σ : xm_Mem} {S : xS} {A : Nat → Nat} {n : Nat} {m : Nat → Int64} {t : Nat}
theorem zGoM : ∀ a k, zGo t a k → ¬ (a = 84 ∧ (k = 5 ∨ k = 14 ∨ k = 15)) ∧ ¬ (86 ≤ a ∧ a ≤ 94) := fun a k h => by
  rcases h with (h | h) | h
  · exact zMqM a k h
  · omega
  · omega
/-- where a course stands ahead of its k-th day -/
noncomputable def bfr (S : xS) (A : Nat → Nat) (n : Nat) (m : Nat → Int64) (t : Nat) : Nat → xC
  | 0 => ((ow S t : Int), ow S t, oD S t)
  | k + 1 => (stp S A n m t k).2
theorem bfr_stp (k : Nat) : (stp S A n m t k).2 = dP S A n m t (bfr S A n m t k) (stp S A n m t k).1 := by
  cases k with
  | zero => rfl
  | succ k => rfl
theorem bfr_ok (hO : OK S) (hA : AGE S A n) (hm : BDY S A n m) (ht : isT S (t : Int)) (k : Nat) : isP S ((bfr S A n m t k).2.1 : Int) ∧ ((bfr S A n m t k).1 < 0 ∨ isP S (bfr S A n m t k).1) := by
  cases k with
  | zero => exact ⟨(ow_ok hO ht).1, Or.inr (ow_ok hO ht).1⟩
  | succ k => have := stp_ok hO hA hm ht k; exact ⟨this.1, this.2.1⟩
theorem stp_lt (hO : OK S) (k : Nat) (h : (stp S A n m t (k + 1)).1 ≤ 99999) : (stp S A n m t k).1 < (stp S A n m t (k + 1)).1 ∧ noev S t (stp S A n m t k).1 (stp S A n m t (k + 1)).1 := by
  obtain ⟨h1, h2, h3⟩ := nxD_spec (t := t) hO.1 (stp S A n m t k).1
  have e : (stp S A n m t (k + 1)).1 = nxD S t (stp S A n m t k).1 := rfl
  rw [e] at h ⊢
  refine ⟨?_, h3⟩
  rcases h2 with h2 | ⟨r, r1, r2, r3, r4⟩
  · omega
  · omega
/-- what the days' order gives: who was lost, and comes back -/
theorem bfr_lost (hO : OK S) (hA : AGE S A n) (hm : BDY S A n m) (ht : isT S (t : Int)) {k : Nat} (hk : (stp S A n m t k).1 ≤ 99999) : (¬ lostP S t (stp S A n m t k).1 → ¬ backP S t (stp S A n m t k).1 → (bfr S A n m t k).1 ≠ -3) ∧ (backP S t (stp S A n m t k).1 → 0 < k ∧ (bfr S A n m t k).1 = -3) := by
  cases k with
  | zero =>
    refine ⟨fun _ _ z => ?_, fun hb => ?_⟩
    · have z : ((ow S t : Nat) : Int) = -3 := z
      omega
    · have := back_own hO hb
      have this : wD S (stb S t) < oD S t := this
      unfold oD at this
      omega
  | succ k =>
    obtain ⟨l1, l2⟩ := stp_lt (A := A) (n := n) (m := m) (t := t) hO k hk
    have so := (stp_ok hO hA hm ht k).2.2
    refine ⟨fun nl nb z => ?_, fun hb => ⟨Nat.succ_pos k, so.mpr (back_lost hO l1 l2 hb)⟩⟩
    exact nb (lost_keep hO l1 l2 (so.mp z) nl)
/-- since when, as the reference tells it -/
theorem since_eq (hO : OK S) (hA : AGE S A n) (hm : BDY S A n m) (ht : isT S (t : Int)) {k : Nat} (hk : (stp S A n m t k).1 ≤ 99999) : (stp S A n m t k).2.2.2 = (if 0 < k then (if (stp S A n m t k).2.1 = (bfr S A n m t k).1 then (bfr S A n m t k).2.2 else (stp S A n m t k).1) else (stp S A n m t k).1) := by
  obtain ⟨b1, b2⟩ := bfr_lost hO hA hm ht hk
  have so := (stp_ok hO hA hm ht k).2.2
  have e := bfr_stp (S := S) (A := A) (n := n) (m := m) (t := t) k
  have e3 : (stp S A n m t k).2.2.2 = (dP S A n m t (bfr S A n m t k) (stp S A n m t k).1).2.2 := by rw [← e]
  have e1 : (stp S A n m t k).2.1 = (dP S A n m t (bfr S A n m t k) (stp S A n m t k).1).1 := by rw [← e]
  by_cases l : lostP S t (stp S A n m t k).1
  · have x3 := so.mpr l
    rw [e3]
    unfold dP
    rw [if_pos l]
    show (if (bfr S A n m t k).1 = -3 then (bfr S A n m t k).2.2 else (stp S A n m t k).1) = _
    rw [x3]
    cases k with
    | zero =>
      rw [if_neg (Nat.lt_irrefl _), if_neg]
      intro z
      have z : ((ow S t : Nat) : Int) = -3 := z
      omega
    | succ k =>
      rw [if_pos (Nat.succ_pos k)]
      by_cases c : (bfr S A n m t (k + 1)).1 = -3
      · rw [if_pos c, if_pos c.symm]
      · rw [if_neg c, if_neg (fun z => c z.symm)]
  · have n3 : (stp S A n m t k).2.1 ≠ -3 := fun z => l (so.mp z)
    have ed : (dP S A n m t (bfr S A n m t k) (stp S A n m t k).1).2.2 = if (dP S A n m t (bfr S A n m t k) (stp S A n m t k).1).1 = (bfr S A n m t k).1 then (dP1 S A n m t (bfr S A n m t k) (stp S A n m t k).1).2.2 else (stp S A n m t k).1 := by
      unfold dP
      rw [if_neg l]
    rw [e3, ed, ← e1]
    by_cases hb : backP S t (stp S A n m t k).1
    · obtain ⟨c1, c2⟩ := b2 hb
      rw [if_pos c1, if_neg (by rw [c2]; exact n3), if_neg (by rw [c2]; exact n3)]
    · have d1 : dP1 S A n m t (bfr S A n m t k) (stp S A n m t k).1 = bfr S A n m t k := by unfold dP1; rw [if_neg hb]
      rw [d1]
      cases k with
      | zero =>
        rw [if_neg (Nat.lt_irrefl 0)]
        show (if _ then oD S t else oD S t) = oD S t
        rw [ite_self]
      | succ k => rw [if_pos (Nat.succ_pos k)]
/-- gone through or not -/
def GI (σ : xm_Mem) (S : xS) (A : Nat → Nat) (n : Nat) (m : Nat → Int64) (t : Nat) : Prop := σ.1 95 t = 0 ∨ (σ.1 95 t = 1 ∧ σ.1 84 18 = 1 ∧ GO σ S A n m t)
end XM
