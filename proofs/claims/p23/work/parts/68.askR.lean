/-! ===== rank, coheir, tenures, tenure, holds ===== -/
section XG
variable {σ σ1 τ τ1 : xm_Mem} {S : xS} {A : Nat → Nat} {n : Nat} {m : Nat → Int64} {t : Nat} {e : Nat → Nat}
theorem dscN_len (hn : n ≤ 64) (L : List Nat) : ∀ k p, (dscN S A n m L k p).2.length ≤ 64 := by
  intro k
  induction k with
  | zero => intro p; exact Nat.zero_le _
  | succ k ih =>
    intro p
    unfold dscN
    split
    · exact Nat.zero_le _
    · split
      · split
        · exact Nat.le_trans (dfold_len m L A (fun c => dc (isCh S p c ∧ ¬ wMale S c)) n) hn
        · exact ih _
      · exact ih _
theorem cohA_len (hU : PU S A n m) (d : Int) : (cohA S A n m t d).length ≤ 64 := by
  unfold cohA
  split
  · unfold psC
    split
    · exact Nat.zero_le _
    · split
      · exact dscN_len hU.2.1.1 _ _ _
      · exact Nat.zero_le _
  · exact Nat.zero_le _
end XG
