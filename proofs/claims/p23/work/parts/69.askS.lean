/-! ===== tenure and holds ===== -/
theorem cn_back {P : Nat → Prop} : ∀ i, 0 < cn P i → ∃ j, j < i ∧ P j ∧ cn P j + 1 = cn P i := by
  intro i
  induction i with
  | zero => intro h; exact absurd h (Nat.lt_irrefl _)
  | succ i ih =>
    intro h
    by_cases c : P i
    · exact ⟨i, Nat.lt_succ_self i, c, by rw [cn_yes c]⟩
    · rw [cn_no c] at h ⊢
      obtain ⟨j, j1, j2, j3⟩ := ih h
      exact ⟨j, by omega, j2, j3⟩
theorem cn_pos {P : Nat → Prop} (h0 : P 0) : ∀ i, 0 < i → 0 < cn P i := by
  intro i
  induction i with
  | zero => intro h; exact absurd h (Nat.lt_irrefl _)
  | succ i ih =>
    intro _
    by_cases c : P i
    · rw [cn_yes c]; exact Nat.succ_pos _
    · rw [cn_no c]
      refine ih ?_
      cases i with
      | zero => exact absurd h0 c
      | succ i => exact Nat.succ_pos i
section XG
variable {σ σ1 τ τ1 : xm_Mem} {S : xS} {A : Nat → Nat} {n : Nat} {m : Nat → Int64} {t : Nat} {e : Nat → Nat}
/-- the index of a tenure that is looked for, as the reference holds it on the way -/
noncomputable def tIx (t F i : Nat) : Int := if F < i then 200 * (t : Int) + F else -1
/-- a title that one holds -/
def hP (S : xS) (A : Nat → Nat) (n : Nat) (m : Nat → Int64) (p d : Int) (k : Nat) : Prop := isT S (k : Int) ∧ holdA S A n m k d = p
end XG
