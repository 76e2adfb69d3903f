/-! ===== the reference reads a record ===== -/
/-- the six told fields -/
def FL (τ : xm_Mem) (a b c d e f : Int) : Prop := τ.1 84 44 = a ∧ τ.1 84 45 = b ∧ τ.1 84 46 = c ∧ τ.1 84 47 = d ∧ τ.1 84 48 = e ∧ τ.1 84 49 = f
theorem FL.frk {τ τ' : xm_Mem} {a b c d e f : Int} (h : FL τ a b c d e f) (g : frk qR τ τ') : FL τ' a b c d e f := by
  have o : ∀ k, 44 ≤ k → k ≤ 49 → τ'.1 84 k = τ.1 84 k := fun k h1 h2 => g.1 84 k (fun z => by have := z.2; unfold qR at this; omega)
  obtain ⟨h1, h2, h3, h4, h5, h6⟩ := h
  exact ⟨by rw [o 44 (by omega) (by omega)]; exact h1, by rw [o 45 (by omega) (by omega)]; exact h2, by rw [o 46 (by omega) (by omega)]; exact h3, by rw [o 47 (by omega) (by omega)]; exact h4, by rw [o 48 (by omega) (by omega)]; exact h5, by rw [o 49 (by omega) (by omega)]; exact h6⟩
def QS (σ τ : xm_Mem) (B : Nat → Int) (s p : Nat) (w a b c d e f : Int) : Prop := frk qA σ τ ∧ RM τ B s p w ∧ FL τ a b c d e f
section XR
variable {σ τ : xm_Mem} {B : Nat → Int} {s p : Nat} {w a b c d e f : Int}
theorem QS.set (h : QS σ τ B s p w a b c d e f) {k : Nat} {v : Int} (hk : 44 ≤ k ∧ k ≤ 49) : QS σ (xm_u1 τ 84 k v) B s p w (if k = 44 then v else a) (if k = 45 then v else b) (if k = 46 then v else c) (if k = 47 then v else d) (if k = 48 then v else e) (if k = 49 then v else f) := by
  obtain ⟨h1, h2, h3, h4, h5, h6, h7, h8⟩ := h
  refine ⟨h1.u1 (by unfold qA; omega), h2.frk (Q := fun j => j = k) ((frk.rf _ _).u1 rfl) (fun j hj => by omega), ?_⟩
  unfold FL
  simp only [xu11, true_and]
  refine ⟨?_, ?_, ?_, ?_, ?_, ?_⟩ <;> (split <;> split <;> first | rfl | assumption | (exfalso; omega))
end XR
