/-! ===== the reference's bonds, second half ===== -/
/-- how many below n -/
noncomputable def cn (P : Nat → Prop) : Nat → Nat
  | 0 => 0
  | n + 1 => cn P n + @ite _ (P n) (Classical.propDecidable _) 1 0
theorem cn_yes {P : Nat → Prop} {n : Nat} (h : P n) : cn P (n + 1) = cn P n + 1 := by show cn P n + _ = _; rw [if_pos h]
theorem cn_no {P : Nat → Prop} {n : Nat} (h : ¬ P n) : cn P (n + 1) = cn P n := by show cn P n + _ = _; rw [if_neg h]; rfl
theorem cn_le (P : Nat → Prop) : ∀ n, cn P n ≤ n := by
  intro n
  induction n with
  | zero => exact Nat.le_refl _
  | succ n ih =>
    by_cases h : P n
    · rw [cn_yes h]; omega
    · rw [cn_no h]; omega
theorem cn_congr {P Q : Nat → Prop} : ∀ n, (∀ i, i < n → (P i ↔ Q i)) → cn P n = cn Q n := by
  intro n
  induction n with
  | zero => intro _; rfl
  | succ n ih =>
    intro h
    have e := ih (fun i hi => h i (by omega))
    by_cases p : P n
    · rw [cn_yes p, cn_yes ((h n (Nat.lt_succ_self n)).mp p), e]
    · rw [cn_no p, cn_no (fun q => p ((h n (Nat.lt_succ_self n)).mpr q)), e]
theorem cn_none {P : Nat → Prop} : ∀ n, (∀ i, i < n → ¬ P i) → cn P n = 0 := by
  intro n
  induction n with
  | zero => intro _; rfl
  | succ n ih => intro h; rw [cn_no (h n (Nat.lt_succ_self n)), ih (fun i hi => h i (by omega))]
theorem cn_one {P Q : Nat → Prop} {b : Nat} (hb : ¬ P b) (hq : ∀ i, Q i ↔ P i ∨ i = b) : ∀ n, b < n → cn Q n = cn P n + 1 := by
  intro n
  induction n with
  | zero => intro h; exact absurd h (Nat.not_lt_zero _)
  | succ n ih =>
    intro h
    by_cases e : b = n
    · subst e
      rw [cn_yes ((hq b).mpr (Or.inr rfl)), cn_no hb, cn_congr b (fun i hi => ⟨fun z => ((hq i).mp z).elim id (fun w => absurd w (by omega)), fun z => (hq i).mpr (Or.inl z)⟩)]
    · have := ih (by omega)
      by_cases p : P n
      · rw [cn_yes p, cn_yes ((hq n).mpr (Or.inl p))]; omega
      · rw [cn_no p, cn_no (fun z => ((hq n).mp z).elim p (fun w => e w.symm))]; exact this
section XO
variable {σ : xm_Mem} {S : xS}
def sameDay (S : xS) (r q : Nat) : Prop := q ≠ r ∧ wS S q = 1 ∧ 7 ≤ wK S q ∧ w2 S q = w2 S r ∧ wD S q = wD S r
/-- a record comes ahead of another of its kin, as the reference counts -/
def samM (S : xS) (r k : Nat) : Prop := (wK S r ≤ 2 ∧ (wK S k = 1 ∨ wK S k = 2) ∧ w1 S k = w1 S r ∧ w2 S k = w2 S r) ∨ (3 ≤ wK S r ∧ 7 ≤ wK S k ∧ w2 S k = w2 S r)
def befM (S : xS) (r k : Nat) : Prop := wD S k < wD S r ∨ (wD S k = wD S r ∧ ((wK S k = wK S r ∧ k < r) ∨ (wK S k ≠ wK S r ∧ wK S k = 2)))
def ahM (S : xS) (r k : Nat) : Prop := k ≠ r ∧ wS S k = 1 ∧ samM S r k ∧ befM S r k
/-- another wed of one of the two is open on a day on which this one is -/
def clash (S : xS) (r q : Nat) : Prop := q ≠ r ∧ wS S q = 1 ∧ wK S q = 1 ∧ (w1 S q = w1 S r ∨ w2 S q = w2 S r) ∧ wD S q ≤ wOpen S r ∧ wD S r ≤ wOpen S q
end XO
