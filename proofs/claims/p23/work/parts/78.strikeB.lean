/-! ===== strike: both look who is named, both strike ===== -/
section XS
variable {σ σ1 τ τ1 : xm_Mem} {S : xS} {A A' : Nat → Nat} {n n' : Nat} {m m' : Nat → Int64} {e : Nat → Nat} {B : Nat → Int} {s : Nat}
theorem nmP_eq (hW : WF S) {q : Nat} (hq : q < sn S) {x : Int} (hx : 0 ≤ x) (h0 : wK S q = 0 → w1 S q ≠ x) : nmP S q x ↔ (wK S q ≠ 0 ∧ w1 S q = x) ∨ ((wK S q = 0 ∨ wK S q = 1 ∨ wK S q = 2) ∧ w2 S q = x) ∨ (wK S q = 0 ∧ w3 S q = x) := by
  unfold nmP
  by_cases c0 : wK S q = 0
  · rw [if_neg (by omega), if_pos c0, if_pos c0]
    have := h0 c0
    constructor
    · rintro (z | z | z | z)
      · exact absurd z this
      · omega
      · exact Or.inr (Or.inl ⟨Or.inl c0, z⟩)
      · exact Or.inr (Or.inr ⟨c0, z⟩)
    · rintro (z | z | z)
      · exact absurd c0 z.1
      · exact Or.inr (Or.inr (Or.inl z.2))
      · exact Or.inr (Or.inr (Or.inr z.2))
  · rw [if_neg c0, if_neg c0]
    by_cases c1 : wK S q = 1 ∨ wK S q = 2
    · rw [if_pos c1]
      constructor
      · rintro (z | z | z | z)
        · exact Or.inl ⟨c0, z⟩
        · exact Or.inr (Or.inl ⟨Or.inr c1, z⟩)
        · omega
        · omega
      · rintro (z | z | z)
        · exact Or.inl z.2
        · exact Or.inr (Or.inl z.2)
        · exact absurd z.1 c0
    · rw [if_neg c1]
      constructor
      · rintro (z | z | z | z)
        · exact Or.inl ⟨c0, z⟩
        · omega
        · omega
        · omega
      · rintro (z | z | z)
        · exact Or.inl z.2
        · exact absurd (z.1.resolve_left c0) c1
        · exact absurd z.1 c0
end XS
