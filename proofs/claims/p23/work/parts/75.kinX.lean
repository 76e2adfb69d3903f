/-! ===== kin: the reference climbs; both answer alike ===== -/
section XK
variable {σ σ1 τ τ1 : xm_Mem} {S : xS} {A : Nat → Nat} {n : Nat} {m : Nat → Int64} {e : Nat → Nat} {p a : Nat} {u : Nat → Int}
theorem kf_rg (h : KF S p u) : ∀ k, k < 64 → -1 ≤ u k ∧ u k ≤ 63 := by
  obtain ⟨Pr, h1, _⟩ := h
  intro k hk
  have := h1.1 k hk
  refine ⟨this.1, ?_⟩
  by_cases z : 0 ≤ u k
  · have := (this.2 z).1; omega
  · omega
end XK
