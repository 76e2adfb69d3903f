/-! ===== the reference reads a record ===== -/
theorem row_kind : rowOf 19 9 wKn (fun i => [0, 5, 9, 14, 19, 25, 31, 36, 41, 46].getD i 0) := by
  refine ⟨by decide, rfl, by decide +kernel, ?_⟩
  have tb : ∀ i, i < 9 → (0 ≤ wKn i ∧ wKn i < 19) ∧ (([0, 5, 9, 14, 19, 25, 31, 36, 41, 46].getD (i + 1) 0 : Nat) : Int) = ([0, 5, 9, 14, 19, 25, 31, 36, 41, 46].getD i 0 : Nat) + xm_slen (wKn i) + 1 ∧ (([0, 5, 9, 14, 19, 25, 31, 36, 41, 46].getD (i + 1) 0 : Nat) : Int) ≤ xm_slen 19 + 1 ∧ ((([0, 5, 9, 14, 19, 25, 31, 36, 41, 46].getD (i + 1) 0 : Nat) : Int) < xm_slen 19 + 1 → xm_chr 19 ((([0, 5, 9, 14, 19, 25, 31, 36, 41, 46].getD (i + 1) 0 : Nat) : Int) - 1) = 32) ∧ ∀ j : Nat, j < 6 → (j : Int) < xm_slen (wKn i) → xm_chr 19 ((([0, 5, 9, 14, 19, 25, 31, 36, 41, 46].getD i 0 + j : Nat)) : Int) = xm_chr (wKn i) (j : Nat) ∧ ¬ xm_chr 19 ((([0, 5, 9, 14, 19, 25, 31, 36, 41, 46].getD i 0 + j : Nat)) : Int) = 32 := by decide +kernel
  have tl : ∀ i, i < 9 → xm_slen (wKn i) ≤ 6 := by decide +kernel
  intro i hi
  obtain ⟨h1, h2, h3, h4, h5⟩ := tb i hi
  exact ⟨h1, h2, h3, h4, fun j hj => h5 j (by have := tl i hi; omega) hj⟩
theorem row_sex : rowOf 20 2 wSx (fun i => [0, 5, 12].getD i 0) := by
  refine ⟨by decide, rfl, by decide +kernel, ?_⟩
  have tb : ∀ i, i < 2 → (0 ≤ wSx i ∧ wSx i < 19) ∧ (([0, 5, 12].getD (i + 1) 0 : Nat) : Int) = ([0, 5, 12].getD i 0 : Nat) + xm_slen (wSx i) + 1 ∧ (([0, 5, 12].getD (i + 1) 0 : Nat) : Int) ≤ xm_slen 20 + 1 ∧ ((([0, 5, 12].getD (i + 1) 0 : Nat) : Int) < xm_slen 20 + 1 → xm_chr 20 ((([0, 5, 12].getD (i + 1) 0 : Nat) : Int) - 1) = 32) ∧ ∀ j : Nat, j < 6 → (j : Int) < xm_slen (wSx i) → xm_chr 20 ((([0, 5, 12].getD i 0 + j : Nat)) : Int) = xm_chr (wSx i) (j : Nat) ∧ ¬ xm_chr 20 ((([0, 5, 12].getD i 0 + j : Nat)) : Int) = 32 := by decide +kernel
  have tl : ∀ i, i < 2 → xm_slen (wSx i) ≤ 6 := by decide +kernel
  intro i hi
  obtain ⟨h1, h2, h3, h4, h5⟩ := tb i hi
  exact ⟨h1, h2, h3, h4, fun j hj => h5 j (by have := tl i hi; omega) hj⟩
theorem row_rule : rowOf 21 6 wRl (fun i => [0, 5, 11, 17, 22, 27, 32].getD i 0) := by
  refine ⟨by decide, rfl, by decide +kernel, ?_⟩
  have tb : ∀ i, i < 6 → (0 ≤ wRl i ∧ wRl i < 19) ∧ (([0, 5, 11, 17, 22, 27, 32].getD (i + 1) 0 : Nat) : Int) = ([0, 5, 11, 17, 22, 27, 32].getD i 0 : Nat) + xm_slen (wRl i) + 1 ∧ (([0, 5, 11, 17, 22, 27, 32].getD (i + 1) 0 : Nat) : Int) ≤ xm_slen 21 + 1 ∧ ((([0, 5, 11, 17, 22, 27, 32].getD (i + 1) 0 : Nat) : Int) < xm_slen 21 + 1 → xm_chr 21 ((([0, 5, 11, 17, 22, 27, 32].getD (i + 1) 0 : Nat) : Int) - 1) = 32) ∧ ∀ j : Nat, j < 6 → (j : Int) < xm_slen (wRl i) → xm_chr 21 ((([0, 5, 11, 17, 22, 27, 32].getD i 0 + j : Nat)) : Int) = xm_chr (wRl i) (j : Nat) ∧ ¬ xm_chr 21 ((([0, 5, 11, 17, 22, 27, 32].getD i 0 + j : Nat)) : Int) = 32 := by decide +kernel
  have tl : ∀ i, i < 6 → xm_slen (wRl i) ≤ 6 := by decide +kernel
  intro i hi
  obtain ⟨h1, h2, h3, h4, h5⟩ := tb i hi
  exact ⟨h1, h2, h3, h4, fun j hj => h5 j (by have := tl i hi; omega) hj⟩
/-- the six told fields -/
def FL (τ : xm_Mem) (a b c d e f : Int) : Prop := τ.1 84 44 = a ∧ τ.1 84 45 = b ∧ τ.1 84 46 = c ∧ τ.1 84 47 = d ∧ τ.1 84 48 = e ∧ τ.1 84 49 = f
theorem FL.frk {τ τ' : xm_Mem} {a b c d e f : Int} (h : FL τ a b c d e f) (g : frk qR τ τ') : FL τ' a b c d e f := by
  have o : ∀ k, 44 ≤ k → k ≤ 49 → τ'.1 84 k = τ.1 84 k := fun k h1 h2 => g.1 84 k (fun z => by have := z.2; unfold qR at this; omega)
  obtain ⟨h1, h2, h3, h4, h5, h6⟩ := h
  exact ⟨by rw [o 44 (by omega) (by omega)]; exact h1, by rw [o 45 (by omega) (by omega)]; exact h2, by rw [o 46 (by omega) (by omega)]; exact h3, by rw [o 47 (by omega) (by omega)]; exact h4, by rw [o 48 (by omega) (by omega)]; exact h5, by rw [o 49 (by omega) (by omega)]; exact h6⟩
def QS (σ τ : xm_Mem) (B : Nat → Int) (s p : Nat) (w a b c d e f : Int) : Prop := frk qA σ τ ∧ RM τ B s p w ∧ FL τ a b c d e f
section XR
variable {σ τ : xm_Mem} {B : Nat → Int} {s p : Nat} {w a b c d e f : Int}
theorem QS.set (h : QS σ τ B s p w a b c d e f) {k : Nat} {v : Int} (hk : 44 ≤ k ∧ k ≤ 49) : QS σ (xm_u1 τ 84 k v) B s p w (if k = 44 then v else a) (if k = 45 then v else b) (if k = 46 then v else c) (if k = 47 then v else d) (if k = 48 then v else e) (if k = 49 then v else f) := by
  obtain ⟨h1, h2, h3, h4, h5, h6, h7, h8⟩ := h
  refine ⟨h1.u1 (by unfold qA; omega), h2.frk (Q := fun j => j = k) ((frk.rf _ _).u1 rfl) (fun j hj => by omega), ?_⟩
  unfold FL
  simp only [xu11, true_and]
  refine ⟨?_, ?_, ?_, ?_, ?_, ?_⟩ <;> (split <;> split <;> first | rfl | assumption | (exfalso; omega))
end XR
