/-! ===== strike keeps the law's invariant ===== -/
def zC1 (a k : Nat) : Prop := (a = 1 ∧ (k = 8 ∨ k = 10)) ∨ (10 ≤ a ∧ a ≤ 83)
def zC2 (a k : Nat) : Prop := zC1 a k ∨ 111 ≤ a
def zM1 (a k : Nat) : Prop := (a = 84 ∧ (k = 2 ∨ k = 4 ∨ k = 6 ∨ k = 18)) ∨ a = 92 ∨ a = 95
def CC (σ σ1 : xm_Mem) (S : xS) (A : Nat → Nat) (n : Nat) (m : Nat → Int64) (e : Nat → Nat) (w b : Int) : Prop := gx zC2 σ σ1 ∧ CI σ1 S A n m e ∧ σ1.1 1 8 = w ∧ σ1.1 1 10 = b
def MM (τ τ1 : xm_Mem) (S : xS) (A : Nat → Nat) (n : Nat) (m : Nat → Int64) (w b : Int) : Prop := gx zM1 τ τ1 ∧ MI τ1 S A n m ∧ τ1.1 84 2 = w ∧ τ1.1 84 4 = b ∧ τ1.1 84 6 = (sN S : Int)
section XS
variable {σ σ1 τ τ1 : xm_Mem} {S : xS} {A A' : Nat → Nat} {n n' : Nat} {m m' : Nat → Int64} {e : Nat → Nat} {B : Nat → Int} {s : Nat}
theorem cc_ref (hO : OK S) (hC : CI σ1 S A n m e) (g : gx zC2 σ σ1) {b : Int} (hb : σ1.1 1 10 = b) (w : Int) : ∃ σ2, (f_X10_refuse σ1 w).bind (fun o => some (o.1, o.2)) = some (σ2, -9) ∧ CC σ σ2 S A n m e w b := by
  unfold f_X10_refuse
  rw [xst, Option.bind_some]
  exact ⟨_, rfl, g.u1 (Or.inl (Or.inl ⟨rfl, Or.inl rfl⟩)), ci_gx hO hC ((gx.rf (fun a k => a = 1 ∧ k = 8) _).u1 ⟨rfl, rfl⟩) (fun a k z => by omega), by rw [xu11, if_pos ⟨rfl, rfl⟩], by rw [xu11, if_neg (by omega)]; exact hb⟩
end XS
