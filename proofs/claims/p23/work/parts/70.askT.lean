/-! ===== the simple questions ===== -/
noncomputable def sN (S : xS) : Nat := cn (fun r => wS S r = 1) (sn S)
section XG
variable {σ σ1 τ τ1 : xm_Mem} {S : xS} {A : Nat → Nat} {n : Nat} {m : Nat → Int64} {t : Nat} {e : Nat → Nat}
end XG
