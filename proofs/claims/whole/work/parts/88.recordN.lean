/-! ===== record: the reference writes the row ===== -/
section XR
variable {σ τ τ1 τ2 : xm_Mem} {S : xS} {A : Nat → Nat} {n : Nat} {m : Nat → Int64} {B : Nat → Int} {s : Nat} {p b : Int} {K D x1 x2 x3 x4 : Int}
/-- a row as it was written -/
def RW7 (τ τ1 : xm_Mem) (S : xS) (K D x1 x2 x3 x4 : Int) : Prop := gx (fun x k => 86 ≤ x ∧ x ≤ 92 ∧ k = sn S) τ τ1 ∧ τ1.1 86 (sn S) = K ∧ τ1.1 87 (sn S) = D ∧ τ1.1 88 (sn S) = (if K = 0 then (sp S : Int) else x1) ∧ τ1.1 89 (sn S) = (if K = 4 then (stn S : Int) else x2) ∧ τ1.1 90 (sn S) = x3 ∧ τ1.1 91 (sn S) = x4 ∧ τ1.1 92 (sn S) = 1
theorem m_row7 (hM : MS τ S) (hF : FL τ K D x1 x2 x3 x4) (hn : sn S < 200) : ∃ τ1, f_X11_record_j111 τ = (if (τ1.1 84 44) = 0 then (xm_vl (τ1.1 84 14) (fun v69 => xm_st (xm_u1 τ1 84 14 (xm_w (v69 + (1 : Int)))) (fun σ71 => if 0 ≤ v69 ∧ v69 < 64 then (xm_st (xm_u1 σ71 93 v69.toNat (sn S : Int)) (fun σ72 => f_X11_record_j236 σ72 (sn S : Int))) else none))) else (f_X11_record_j236 τ1 (sn S : Int))) ∧ RW7 τ τ1 S K D x1 x2 x3 x4 := by
  obtain ⟨f0, f1, f2, f3, f4, f5⟩ := hF
  have g200 : 0 ≤ (sn S : Int) ∧ (sn S : Int) < 200 := ⟨by omega, by omega⟩
  have v5 := hM.1
  have v14 := hM.2.1
  have v15 := hM.2.2.1
  unfold f_X11_record_j111 f_X11_record_j159
  rw [v5, xvl, if_pos g200, Int.toNat_natCast, f0, xst]
  have q1 : (xm_u1 τ 86 (sn S) K).1 84 45 = D := by rw [xu11, if_neg (by omega)]; exact f1
  rw [if_pos g200, q1, xst]
  have q2 : ∀ k, (xm_u1 (xm_u1 τ 86 (sn S) K) 87 (sn S) D).1 84 k = τ.1 84 k := fun k => by rw [xu11, if_neg (by omega), xu11, if_neg (by omega)]
  rw [q2 44, q2 14, q2 46, f0, v14, f2]
  -- the first of those named
  have one : ∀ v : Int, v = (if K = 0 then (sp S : Int) else x1) → ∃ τ1, (if 0 ≤ (sn S : Int) ∧ (sn S : Int) < 200 then (xm_st (xm_u1 (xm_u1 (xm_u1 τ 86 (sn S) K) 87 (sn S) D) 88 (sn S : Int).toNat v) (fun σ54 => if (σ54.1 84 44) = (4 : Int) then (f_X11_record_j184 σ54 (σ54.1 84 15) (sn S : Int) (sn S : Int)) else (f_X11_record_j184 σ54 (σ54.1 84 47) (sn S : Int) (sn S : Int)))) else none) = (if (τ1.1 84 44) = 0 then (xm_vl (τ1.1 84 14) (fun v69 => xm_st (xm_u1 τ1 84 14 (xm_w (v69 + (1 : Int)))) (fun σ71 => if 0 ≤ v69 ∧ v69 < 64 then (xm_st (xm_u1 σ71 93 v69.toNat (sn S : Int)) (fun σ72 => f_X11_record_j236 σ72 (sn S : Int))) else none))) else (f_X11_record_j236 τ1 (sn S : Int))) ∧ RW7 τ τ1 S K D x1 x2 x3 x4 := by
    intro v hv
    rw [if_pos g200, xst, Int.toNat_natCast]
    have q3 : ∀ k, (xm_u1 (xm_u1 (xm_u1 τ 86 (sn S) K) 87 (sn S) D) 88 (sn S) v).1 84 k = τ.1 84 k := fun k => by rw [xu11, if_neg (by omega)]; exact q2 k
    rw [q3 44, q3 15, q3 47, f0, v15, f3]
    have two : ∀ v' : Int, v' = (if K = 4 then (stn S : Int) else x2) → ∃ τ1, f_X11_record_j184 (xm_u1 (xm_u1 (xm_u1 τ 86 (sn S) K) 87 (sn S) D) 88 (sn S) v) v' (sn S : Int) (sn S : Int) = (if (τ1.1 84 44) = 0 then (xm_vl (τ1.1 84 14) (fun v69 => xm_st (xm_u1 τ1 84 14 (xm_w (v69 + (1 : Int)))) (fun σ71 => if 0 ≤ v69 ∧ v69 < 64 then (xm_st (xm_u1 σ71 93 v69.toNat (sn S : Int)) (fun σ72 => f_X11_record_j236 σ72 (sn S : Int))) else none))) else (f_X11_record_j236 τ1 (sn S : Int))) ∧ RW7 τ τ1 S K D x1 x2 x3 x4 := by
      intro v' hv'
      unfold f_X11_record_j184
      rw [if_pos g200, xst, Int.toNat_natCast, if_pos g200, xst]
      have q4 : (xm_u1 (xm_u1 (xm_u1 (xm_u1 τ 86 (sn S) K) 87 (sn S) D) 88 (sn S) v) 89 (sn S) v').1 84 48 = x3 := by rw [xu11, if_neg (by omega), q3 48]; exact f4
      rw [q4, if_pos g200, xst]
      have q5 : (xm_u1 (xm_u1 (xm_u1 (xm_u1 (xm_u1 τ 86 (sn S) K) 87 (sn S) D) 88 (sn S) v) 89 (sn S) v') 90 (sn S) x3).1 84 49 = x4 := by rw [xu11, if_neg (by omega), xu11, if_neg (by omega), q3 49]; exact f5
      rw [q5, if_pos g200, xst]
      refine ⟨_, rfl, ((((((((gx.rf _ _).u1 (by omega)).u1 (by omega)).u1 (by omega)).u1 (by omega)).u1 (by omega)).u1 (by omega)).u1 (by omega)), ?_, ?_, ?_, ?_, ?_, ?_, ?_⟩
      · simp [xu11]
      · simp [xu11]
      · rw [← hv]; simp [xu11]
      · rw [← hv']; simp [xu11]
      · simp [xu11]
      · simp [xu11]
      · simp [xu11]
    by_cases k4 : K = 4
    · rw [if_pos k4]; exact two _ (by rw [if_pos k4])
    · rw [if_neg k4]; exact two _ (by rw [if_neg k4])
  by_cases k0 : K = 0
  · rw [if_pos k0]; exact one _ (by rw [if_pos k0])
  · rw [if_neg k0]; exact one _ (by rw [if_neg k0])
end XR
