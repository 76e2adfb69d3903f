/-! ===== the reference's bonds ===== -/
section XO
variable {σ : xm_Mem} {S : xS}
theorem mnx_succ {P : Nat → Prop} {f : Nat → Int} {a : Int} {n : Nat} : mnx P f a (n + 1) = @ite _ (P n ∧ f n < mnx P f a n) (Classical.propDecidable _) (f n) (mnx P f a n) := rfl
theorem mnx_no {P : Nat → Prop} {f : Nat → Int} {a : Int} {n : Nat} (h : ¬ P n) : mnx P f a (n + 1) = mnx P f a n := by rw [mnx_succ, if_neg (fun z => h z.1)]
theorem wNext_rg (hW : WF S) (r : Nat) : ∀ n, n ≤ sn S → 0 ≤ mnx (isPart S r) (wD S) 100000 n ∧ mnx (isPart S r) (wD S) 100000 n ≤ 100000 := by
  intro n hn
  obtain ⟨g1, g2, g3⟩ := mnx_le (P := isPart S r) (f := wD S) (a := 100000) n
  refine ⟨?_, g1⟩
  rcases g3 with g3 | ⟨k, b1, b2, b3⟩
  · omega
  · rw [b3]; exact (hW.day (by omega)).1
theorem wOpen_rg (hW : WF S) (r : Nat) : -1 ≤ wOpen S r ∧ wOpen S r ≤ 99999 := by
  have h1 := wNext_rg hW r _ (Nat.le_refl _)
  have h2 := wDead_rg hW (w1 S r)
  have h3 := wDead_rg hW (w2 S r)
  unfold wOpen wNext lowD xm_min
  (repeat' split) <;> omega
/-- another record that stands tells the same of the same -/
def again (S : xS) (r q : Nat) : Prop := q ≠ r ∧ wS S q = 1 ∧ wK S q = wK S r ∧ w1 S q = w1 S r ∧ (wK S r = 5 → w2 S q = w2 S r)
def toldTwice (S : xS) (r : Nat) : Prop := ∃ q, q < sn S ∧ again S r q
end XO
