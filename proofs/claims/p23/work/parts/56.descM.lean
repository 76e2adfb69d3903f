/-! ===== the reference goes down ===== -/
theorem hd_filter {P : Nat → Prop} : ∀ (L : List Nat) (k : Nat), k < L.length → (∀ j, j < k → ¬ P (L.getD j 0)) → P (L.getD k 0) → hdI (L.filter (fun q => dc (P q))) = ((L.getD k 0 : Nat) : Int) := by
  intro L
  induction L with
  | nil => intro k h; exact absurd h (Nat.not_lt_zero _)
  | cons a l ih =>
    intro k hk hno hy
    cases k with
    | zero =>
      have hy : P a := hy
      rw [List.filter_cons_of_pos (p := fun q => dc (P q)) (dc_y hy)]
      rfl
    | succ k =>
      have h0 : ¬ P a := hno 0 (Nat.succ_pos k)
      rw [List.filter_cons_of_neg (p := fun q => dc (P q)) (fun z => h0 (dc_t.mp z))]
      exact ih k (by have : k + 1 < l.length + 1 := hk; omega) (fun j hj => hno (j + 1) (by omega)) hy
theorem filter_none {P : Nat → Prop} {L : List Nat} (h : ∀ j, j < L.length → ¬ P (L.getD j 0)) : L.filter (fun q => dc (P q)) = [] := by
  refine List.filter_eq_nil_iff.mpr (fun q hq z => ?_)
  obtain ⟨j, j1, j2⟩ := mem_getD hq
  exact h j j1 (by rw [j2]; exact dc_t.mp z)
theorem filter_cg {P Q : Nat → Prop} {L : List Nat} (h : ∀ q, q ∈ L → (P q ↔ Q q)) : L.filter (fun q => dc (P q)) = L.filter (fun q => dc (Q q)) := by
  refine List.filter_congr (fun q hq => ?_)
  by_cases p : P q
  · rw [dc_y p, dc_y ((h q hq).mp p)]
  · rw [dc_n p, dc_n (fun z => p ((h q hq).mpr z))]
/-- the told line of the reference -/
def ML (σ : xm_Mem) (L : List Nat) : Prop := σ.1 84 27 = (L.length : Int) ∧ LA σ 101 0 L
def zDs (a k : Nat) : Prop := (a = 84 ∧ (k = 30 ∨ k = 33)) ∨ a = 103
theorem zDsM : ∀ a k, zDs a k → ¬ (a = 84 ∧ (k = 5 ∨ k = 14 ∨ k = 15)) ∧ ¬ (86 ≤ a ∧ a ≤ 94) := fun a k h => by unfold zDs at h; omega
theorem zDsR : ∀ a k, zDs a k → ¬ (a = 84 ∧ k = 22) ∧ ¬ (96 ≤ a ∧ a ≤ 100) := fun a k h => by unfold zDs at h; omega
section XE
variable {σ : xm_Mem} {S : xS} {A : Nat → Nat} {n : Nat} {m : Nat → Int64} {L : List Nat}
theorem ML.gx {σ' : xm_Mem} {Z : Nat → Nat → Prop} (h : ML σ L) (hf : gx Z σ σ') (hz : ∀ a k, Z a k → ¬ (a = 84 ∧ k = 27) ∧ a ≠ 101) : ML σ' L :=
  ⟨by rw [hf.1 84 27 (fun z => (hz _ _ z).1 ⟨rfl, rfl⟩)]; exact h.1, h.2.eq (fun i _ => hf.1 101 _ (fun z => (hz _ _ z).2 rfl))⟩
end XE
