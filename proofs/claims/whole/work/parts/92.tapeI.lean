/-! ===== feed and end keep the law's invariant ===== -/
section XR
variable {σ σ1 σ2 τ : xm_Mem} {S : xS} {A : Nat → Nat} {n : Nat} {m : Nat → Int64} {e : Nat → Nat} {B B' : Nat → Int} {s s' : Nat} {w : Int}
/-- the invariant behind a call that changes bytes and status alone -/
theorem iv_tp (h : IV σ S A n m e B s) (hB : isB B' s') (g1 : gx (fun a k => zTp a k ∨ (a = 1 ∧ k = 8)) σ σ1) (g2 : gx (fun a k => a = 85 ∨ (a = 84 ∧ (k = 1 ∨ k = 2))) σ1 σ2) (t1 : TC σ1 B' s') (t2 : TM σ2 B' s') (w1 : σ1.1 1 8 = w) (w2 : σ2.1 84 2 = w) : IV σ2 S A n m e B' s' ∧ σ2.2.2 = σ.2.2 := by
  obtain ⟨⟨hU, _⟩, ⟨hC, hM⟩, _, ⟨_, v2, v3⟩, h6⟩ := h
  have g := (g1.mono (Y := fun a k => zTp a k ∨ (a = 1 ∧ k = 8) ∨ a = 85 ∨ (a = 84 ∧ (k = 1 ∨ k = 2))) (fun a k z => by unfold zTp at z ⊢; omega)).tr (g2.mono (fun a k z => by unfold zTp; omega))
  have o : ∀ a k, ¬ (zTp a k ∨ (a = 1 ∧ k = 8) ∨ a = 85 ∨ (a = 84 ∧ (k = 1 ∨ k = 2))) → σ2.1 a k = σ.1 a k := g.1
  have o2 : ∀ a k, a ≤ 83 → σ2.1 a k = σ1.1 a k := fun a k z => g2.1 a k (by omega)
  exact ⟨⟨⟨hU, hB⟩, ⟨ci_gx hU.1 hC g (fun a k z => by unfold zTp at z; omega), mi_gx hM hU.1 g (fun a k z => by unfold zTp at z; omega)⟩, ⟨⟨by rw [o2 2 1 (by omega)]; exact t1.1, fun k hk => by rw [o2 3 k (by omega)]; exact t1.2 k hk⟩, t2⟩, ⟨by rw [o2 1 8 (by omega), w1, w2], by rw [o 1 9 (by unfold zTp; omega), o 84 3 (by unfold zTp; omega)]; exact v2, by rw [o 1 10 (by unfold zTp; omega), o 84 4 (by unfold zTp; omega)]; exact v3⟩, by rw [o 84 6 (by unfold zTp; omega)]; exact h6⟩, by rw [g.2.2]⟩
end XR
