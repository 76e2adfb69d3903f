/-! ===== both climb ===== -/
theorem arr64 {σ : xm_Mem} {a : Nat} (h : a = 16 ∨ a = 17 ∨ a = 109 ∨ a = 110) (hc : 110 ≤ σ.2.2) : xm_arr σ (a : Int) 1 64 := by
  rcases h with h | h | h | h <;> subst h <;> exact ⟨by decide, by omega, by decide⟩
section XK
variable {σ σ1 τ τ1 : xm_Mem} {S : xS} {A : Nat → Nat} {n : Nat} {m : Nat → Int64} {e : Nat → Nat} {p a : Nat} {u : Nat → Int}
theorem par_rg (hO : OK S) {x : Nat} (hx : isP S (x : Int)) : (-1 ≤ wFa S x ∧ wFa S x < 64) ∧ (-1 ≤ wMo S x ∧ wMo S x < 64) := by
  have x64 := (isP_rg hO.1 hx).2.2
  constructor
  · rcases hO.fa hx with y | ⟨y1, y2, _⟩
    · omega
    · have := y1.1; omega
  · rcases hO.mo hx with y | ⟨y1, y2, _⟩
    · omega
    · have := y1.1; omega
end XK
