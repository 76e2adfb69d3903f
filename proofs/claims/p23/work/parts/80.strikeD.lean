/-! ===== strike: the reference; both ===== -/
section XS
variable {σ σ1 τ τ1 : xm_Mem} {S S' : xS} {A A' : Nat → Nat} {n n' : Nat} {m m' : Nat → Int64} {e e' : Nat → Nat} {B : Nat → Int} {s : Nat}
/-- the law's invariant out of both -/
theorem iv_mk {w b : Int} (h : IV σ S A n m e B s) {σ1 σ2 : xm_Mem} (hU : PU S' A' n' m') (hC : CC σ σ1 S' A' n' m' e' w b) (hM : MM σ1 σ2 S' A' n' m' w b) : IV σ2 S' A' n' m' e' B s ∧ σ2.2.2 = σ.2.2 := by
  obtain ⟨⟨_, hB⟩, _, ⟨hTC, hTM⟩, ⟨_, w2, _⟩, _⟩ := h
  obtain ⟨c1, c2, c3, c4⟩ := hC
  obtain ⟨d1, d2, d3, d4, d5⟩ := hM
  have o1 : ∀ a k, a ≤ 3 ∨ (84 ≤ a ∧ a ≤ 110) → ¬ (a = 1 ∧ (k = 8 ∨ k = 10)) → σ1.1 a k = σ.1 a k := fun b k z y => c1.1 b k (by unfold zC2 zC1; omega)
  have o2 : ∀ a k, a ≤ 85 → ¬ (a = 84 ∧ (k = 2 ∨ k = 4 ∨ k = 6 ∨ k = 18)) → σ2.1 a k = σ1.1 a k := fun b k z y => d1.1 b k (by unfold zM1; omega)
  refine ⟨⟨⟨hU, hB⟩, ⟨ci_gx hU.1 c2 d1 (fun a k z => by unfold zM1 at z; omega), d2⟩, ⟨⟨?_, fun k hk => ?_⟩, ⟨?_, fun k hk => ?_⟩⟩, ⟨?_, ?_, ?_⟩, d5⟩, by rw [d1.2.2, c1.2.2]⟩
  · rw [o2 2 1 (by omega) (by omega), o1 2 1 (by omega) (by omega)]; exact hTC.1
  · rw [o2 3 k (by omega) (by omega), o1 3 k (by omega) (by omega)]; exact hTC.2 k hk
  · rw [o2 84 1 (by omega) (by omega), o1 84 1 (by omega) (by omega)]; exact hTM.1
  · rw [o2 85 k (by omega) (by omega), o1 85 k (by omega) (by omega)]; exact hTM.2 k hk
  · rw [o2 1 8 (by omega) (by omega), c3, d3]
  · rw [o2 1 9 (by omega) (by omega), o1 1 9 (by omega) (by omega), o2 84 3 (by omega) (by omega), o1 84 3 (by omega) (by omega)]; exact w2
  · rw [o2 1 10 (by omega) (by omega), c4, d4]
end XS
