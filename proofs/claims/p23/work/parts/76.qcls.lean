/-! ===== the questions of the class alone, on what is there ===== -/
section XG
variable {σ σ1 : xm_Mem} {S : xS} {A : Nat → Nat} {n : Nat} {m : Nat → Int64} {t : Nat} {e : Nat → Nat}
theorem k_holder (hU : PU S A n m) (hC : CI σ S A n m e) (ht : isT S (t : Int)) {d : Int} (hd : 0 ≤ d ∧ d ≤ 99999) : QA σ S A n m e (f_X10_holder σ (t : Int) d) (holdA S A n m t d) 0 := by
  unfold f_X10_holder
  rw [r7_hasTitle hU.1.1 hC.1, Option.bind_some]
  obtain ⟨σ1, a1, a2, a3, a4⟩ := hC.co hU ht
  try dsimp only
  rw [xb_pos ht, if_neg (by decide), c_isDay, Option.bind_some]
  try dsimp only
  rw [xb_pos hd, if_neg (by decide), a1, Option.bind_some]
  try dsimp only
  rw [Int.toNat_natCast, c_stepOn hU.1 ht a4, Option.bind_some]
  try dsimp only
  rw [c_state hU.1 ht a4, Option.bind_some]
  try dsimp only
  rw [holdA_eq]
  exact qa_acc hU.1 a3 (a2.mono zQ1_mono) _
theorem k_since (hU : PU S A n m) (hC : CI σ S A n m e) (ht : isT S (t : Int)) {d : Int} (hd : 0 ≤ d ∧ d ≤ 99999) : QA σ S A n m e (f_X10_since σ (t : Int) d) (sncA S A n m t d) 0 := by
  unfold f_X10_since
  rw [r7_hasTitle hU.1.1 hC.1, Option.bind_some]
  obtain ⟨σ1, a1, a2, a3, a4⟩ := hC.co hU ht
  try dsimp only
  rw [xb_pos ht, if_neg (by decide), c_isDay, Option.bind_some]
  try dsimp only
  rw [xb_pos hd, if_neg (by decide), a1, Option.bind_some]
  try dsimp only
  rw [Int.toNat_natCast, c_stepOn hU.1 ht a4, Option.bind_some]
  try dsimp only
  rw [c_firstDay hU.1 ht a4, Option.bind_some]
  try dsimp only
  rw [sncA_eq]
  exact qa_acc hU.1 a3 (a2.mono zQ1_mono) _
theorem k_line (hU : PU S A n m) (hC : CI σ S A n m e) (ht : isT S (t : Int)) {d : Int} (hd : 0 ≤ d ∧ d ≤ 99999) (j : Nat) : QA σ S A n m e (f_X10_line σ (t : Int) d (j : Int)) (if j < (lineA S A n m t d).length then (((lineA S A n m t d).getD j 0 : Nat) : Int) else -9) (if j < (lineA S A n m t d).length then 0 else 1) := by
  unfold f_X10_line
  rw [r7_hasTitle hU.1.1 hC.1, Option.bind_some]
  obtain ⟨σ1, a1, a2, a3, a4⟩ := hC.co hU ht
  obtain ⟨σ2, c1, c2, c3, c4⟩ := c_lineUp hU a3 ht a4 hd
  have hl := lineA_len (A := A) (n := n) (m := m) hU ht d
  have g2 := (a2.tr c2).mono zQ1_mono
  try dsimp only
  rw [xb_pos ht, if_neg (by decide), c_isDay, Option.bind_some]
  try dsimp only
  rw [xb_pos hd, if_neg (by decide), a1, Option.bind_some]
  try dsimp only
  rw [Int.toNat_natCast, c1, Option.bind_some]
  try dsimp only
  rw [if_neg (by omega)]
  unfold f_X4_size
  rw [Option.bind_some]
  try dsimp only
  by_cases hy : j < (lineA S A n m t d).length
  · rw [c4.1, if_pos (show (j : Int) < _ by omega), if_pos hy, if_pos hy]
    unfold f_X4_at
    rw [if_neg (by omega), c4.1, if_pos (show (j : Int) < _ by omega), if_pos ⟨by omega, by omega⟩, Option.bind_some]
    try dsimp only
    have v := c4.2.1 j (by omega)
    rw [Nat.zero_add] at v
    rw [Int.toNat_natCast, v]
    exact qa_acc hU.1 c3 g2 _
  · rw [c4.1, if_neg (show ¬ (j : Int) < _ by omega), if_neg hy, if_neg hy]
    exact qa_ref hU.1 c3 g2 _
theorem k_rank (hU : PU S A n m) (hC : CI σ S A n m e) (ht : isT S (t : Int)) {p : Int} (hp : isP S p) {d : Int} (hd : 0 ≤ d ∧ d ≤ 99999) : QA σ S A n m e (f_X10_rank σ (t : Int) p d) (plc (lineA S A n m t d) p) 0 := by
  unfold f_X10_rank
  rw [r7_hasTitle hU.1.1 hC.1, Option.bind_some]
  try dsimp only
  rw [xb_pos ht]
  simp only [if_neg (show ¬ (1 : Int) = 0 by decide)]
  rw [c_has hU.1.1 hC.2.2.1.1.1.1, Option.bind_some]
  try dsimp only
  rw [xb_pos hp]
  simp only [if_neg (show ¬ (1 : Int) = 0 by decide)]
  rw [c_isDay, Option.bind_some]
  try dsimp only
  rw [xb_pos hd]
  simp only [if_neg (show ¬ (1 : Int) = 0 by decide)]
  obtain ⟨σ1, a1, a2, a3, a4⟩ := hC.co hU ht
  obtain ⟨σ2, c1, c2, c3, c4⟩ := c_lineUp hU a3 ht a4 hd
  have hl := lineA_len (A := A) (n := n) (m := m) hU ht d
  rw [a1, Option.bind_some]
  try dsimp only
  rw [Int.toNat_natCast, c1, Option.bind_some]
  try dsimp only
  rw [c_placeOf c4 hl, Option.bind_some]
  exact qa_acc hU.1 c3 ((a2.tr c2).mono zQ1_mono) _
theorem k_tenures (hU : PU S A n m) (hC : CI σ S A n m e) (ht : isT S (t : Int)) : QA σ S A n m e (f_X10_tenures σ (t : Int)) (tenN S A n m t : Int) 0 := by
  unfold f_X10_tenures
  rw [r7_hasTitle hU.1.1 hC.1, Option.bind_some]
  try dsimp only
  rw [xb_pos ht]
  simp only [if_neg (show ¬ (1 : Int) = 0 by decide)]
  obtain ⟨σ1, a1, a2, a3, a4⟩ := hC.co hU ht
  rw [a1, Option.bind_some]
  try dsimp only
  rw [Int.toNat_natCast, c_countTenures hU.1 ht a4, Option.bind_some]
  exact qa_acc hU.1 a3 (a2.mono zQ1_mono) _
theorem k_tenure (hU : PU S A n m) (hC : CI σ S A n m e) (ht : isT S (t : Int)) {u : Int} (hF : tenK S A n m t u < NS S A n m t) : QA σ S A n m e (f_X10_tenure σ (t : Int) u 1) (stp S A n m t (tenK S A n m t u)).2.2.2 0 := by
  unfold f_X10_tenure
  rw [r7_hasTitle hU.1.1 hC.1, Option.bind_some]
  try dsimp only
  rw [xb_pos ht]
  simp only [if_neg (show ¬ (1 : Int) = 0 by decide)]
  obtain ⟨σ1, a1, a2, a3, a4⟩ := hC.co hU ht
  rw [a1, Option.bind_some]
  try dsimp only
  rw [Int.toNat_natCast, c_stepOfTenure hU.1 ht a4, Option.bind_some]
  try dsimp only
  rw [if_pos hF, if_neg (show ¬ ((tenK S A n m t u : Nat) : Int) = -1 by omega), if_pos trivial, c_firstDay hU.1 ht a4, Option.bind_some]
  try dsimp only
  rw [if_pos ⟨by omega, by omega⟩, Int.toNat_natCast]
  exact qa_acc hU.1 a3 (a2.mono zQ1_mono) _
theorem k_partner (hU : PU S A n m) (hC : CI σ S A n m e) {p : Int} (hp : isP S p) {d : Int} (hd : 0 ≤ d ∧ d ≤ 99999) : QA σ S A n m e (f_X10_partner σ p d) (prt S p d) 0 := by
  unfold f_X10_partner
  rw [c_has hU.1.1 hC.2.2.1.1.1.1, Option.bind_some]
  try dsimp only
  rw [xb_pos hp]
  simp only [if_neg (show ¬ (1 : Int) = 0 by decide)]
  rw [c_isDay, Option.bind_some]
  try dsimp only
  rw [xb_pos hd]
  simp only [if_neg (show ¬ (1 : Int) = 0 by decide)]
  rw [c_otherIn hU.1 hC.2.1, Option.bind_some]
  exact qa_acc hU.1 hC (gx.rf _ _) _
theorem k_dead (hU : PU S A n m) (hC : CI σ S A n m e) {p : Int} (hp : isP S p) : QA σ S A n m e (f_X10_person σ p 4) (wDead S p) 0 := by
  unfold f_X10_person
  have hr := isP_rg hU.1.1 hp
  rw [c_has hU.1.1 hC.2.2.1.1.1.1, Option.bind_some]
  try dsimp only
  rw [xb_pos hp]
  simp only [if_neg (show ¬ (1 : Int) = 0 by decide), if_neg (show ¬ (4 : Int) = 0 by decide), if_neg (show ¬ (4 : Int) = 1 by decide), if_neg (show ¬ (4 : Int) = 2 by decide), if_neg (show ¬ (4 : Int) = 3 by decide)]
  rw [if_pos trivial, c_deadOn hC.2.2.1.1.1.1 (isP_sn hU.1.1 hp) hr.1 hr.2.2, Option.bind_some, hU.1.uq]
  exact qa_acc hU.1 hC (gx.rf _ _) _
end XG
