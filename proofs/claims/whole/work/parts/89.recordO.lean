/-! ===== record: the reference's rows, all of them ===== -/
section XR
variable {σ τ τ1 τ2 : xm_Mem} {S : xS} {A : Nat → Nat} {n : Nat} {m : Nat → Int64} {B : Nat → Int} {s : Nat} {p b : Int} {K D x1 x2 x3 x4 : Int}
theorem m_rows (hW : WF S) (hM : MS τ S) (hF : FL τ K D x1 x2 x3 x4) (hr : rom S K) : ∃ τ1, f_X11_record_j111 τ = f_X11_record_j261 τ1 (sn S : Int) ∧ gx (fun x k => (x = 84 ∧ (k = 14 ∨ k = 15)) ∨ (86 ≤ x ∧ x ≤ 94)) τ τ1 ∧ MS (xm_u1 τ1 84 5 ((sn S + 1 : Nat) : Int)) (adR S K D x1 x2 x3 x4) ∧ (∀ k, k ≠ 14 → k ≠ 15 → τ1.1 84 k = τ.1 84 k) ∧ τ1.1 84 14 = ((if K = 0 then sp S + 1 else sp S : Nat) : Int) ∧ τ1.1 84 15 = ((if K = 4 then stn S + 1 else stn S : Nat) : Int) := by
  obtain ⟨τ7, a1, a2, r86, r87, r88, r89, r90, r91, r92⟩ := m_row7 hM hF hr.1
  have v44 : τ7.1 84 44 = K := by rw [a2.1 84 44 (by omega)]; exact hF.1
  have v14 : τ7.1 84 14 = (sp S : Int) := by rw [a2.1 84 14 (by omega)]; exact hM.2.1
  have v15 : τ7.1 84 15 = (stn S : Int) := by rw [a2.1 84 15 (by omega)]; exact hM.2.2.1
  have z7 : gx (fun x k => (x = 84 ∧ (k = 14 ∨ k = 15)) ∨ (86 ≤ x ∧ x ≤ 94)) τ τ7 := a2.mono (fun x k z => Or.inr (by omega))
  have hold7 : ∀ x r, 86 ≤ x → x ≤ 92 → r < sn S → τ7.1 x r = τ.1 x r := fun x r _ _ h => a2.1 x r (by omega)
  rw [a1, v44, v14]
  by_cases k0 : K = 0
  · have h64 := hr.2.1 k0
    rw [if_pos k0, xvl, xst, if_pos ⟨by omega, by omega⟩, xst, xw1 (by omega), Int.toNat_natCast]
    unfold f_X11_record_j236
    have q44 : (xm_u1 (xm_u1 τ7 84 14 ((sp S + 1 : Nat) : Int)) 93 (sp S) (sn S : Int)).1 84 44 = K := by rw [xu11, if_neg (by omega), xu11, if_neg (by omega)]; exact v44
    rw [q44, if_neg (show ¬ K = 4 by omega)]
    refine ⟨_, rfl, (z7.u1 (Or.inl ⟨rfl, by omega⟩)).u1 (Or.inr (by omega)), ms_ad hW hM ?_ ?_ ?_ (fun x r h1 h2 h3 => ?_) (fun q => ?_) (fun q => ?_) ?_ ?_ ?_ ?_ ?_ ?_ ?_, fun k h1 h2 => ?_, ?_, ?_⟩
    · rw [xu11, if_pos ⟨rfl, rfl⟩]
    · rw [xu11, if_neg (by omega), xu11, if_neg (by omega), xu11, if_pos ⟨rfl, rfl⟩, if_pos k0]
    · rw [xu11, if_neg (by omega), xu11, if_neg (by omega), xu11, if_neg (by omega), if_neg (show ¬ K = 4 by omega)]; exact v15
    · rw [xu11, if_neg (by omega), xu11, if_neg (by omega), xu11, if_neg (by omega)]; exact hold7 x r h1 h2 h3
    · rw [xu11, if_neg (by omega), xu11]
      by_cases y : q = sp S
      · rw [if_pos ⟨rfl, y⟩, if_pos ⟨k0, y⟩]
      · rw [if_neg (fun w => y w.2), if_neg (fun w => y w.2), xu11, if_neg (by omega), a2.1 93 q (by omega)]
    · rw [xu11, if_neg (by omega), xu11, if_neg (by omega), xu11, if_neg (by omega), if_neg (fun w => by omega), a2.1 94 q (by omega)]
    · rw [xu11, if_neg (by omega), xu11, if_neg (by omega), xu11, if_neg (by omega)]; exact r86
    · rw [xu11, if_neg (by omega), xu11, if_neg (by omega), xu11, if_neg (by omega)]; exact r87
    · rw [xu11, if_neg (by omega), xu11, if_neg (by omega), xu11, if_neg (by omega)]; exact r88
    · rw [xu11, if_neg (by omega), xu11, if_neg (by omega), xu11, if_neg (by omega)]; exact r89
    · rw [xu11, if_neg (by omega), xu11, if_neg (by omega), xu11, if_neg (by omega)]; exact r90
    · rw [xu11, if_neg (by omega), xu11, if_neg (by omega), xu11, if_neg (by omega)]; exact r91
    · rw [xu11, if_neg (by omega), xu11, if_neg (by omega), xu11, if_neg (by omega)]; exact r92
    · rw [xu11, if_neg (by omega), xu11, if_neg (by omega), a2.1 84 k (by omega)]
    · rw [xu11, if_neg (by omega), xu11, if_pos ⟨rfl, rfl⟩, if_pos k0]
    · rw [xu11, if_neg (by omega), xu11, if_neg (by omega), if_neg (show ¬ K = 4 by omega)]; exact v15
  · rw [if_neg k0]
    unfold f_X11_record_j236
    rw [v44, v15]
    by_cases k4 : K = 4
    · have h8 := hr.2.2 k4
      rw [if_pos k4, xvl, xst, if_pos ⟨by omega, by omega⟩, xst, xw1 (by omega), Int.toNat_natCast]
      refine ⟨_, rfl, (z7.u1 (Or.inl ⟨rfl, by omega⟩)).u1 (Or.inr (by omega)), ms_ad hW hM ?_ ?_ ?_ (fun x r h1 h2 h3 => ?_) (fun q => ?_) (fun q => ?_) ?_ ?_ ?_ ?_ ?_ ?_ ?_, fun k h1 h2 => ?_, ?_, ?_⟩
      · rw [xu11, if_pos ⟨rfl, rfl⟩]
      · rw [xu11, if_neg (by omega), xu11, if_neg (by omega), xu11, if_neg (by omega), if_neg k0]; exact v14
      · rw [xu11, if_neg (by omega), xu11, if_neg (by omega), xu11, if_pos ⟨rfl, rfl⟩, if_pos k4]
      · rw [xu11, if_neg (by omega), xu11, if_neg (by omega), xu11, if_neg (by omega)]; exact hold7 x r h1 h2 h3
      · rw [xu11, if_neg (by omega), xu11, if_neg (by omega), xu11, if_neg (by omega), if_neg (fun w => k0 w.1), a2.1 93 q (by omega)]
      · rw [xu11, if_neg (by omega), xu11]
        by_cases y : q = stn S
        · rw [if_pos ⟨rfl, y⟩, if_pos ⟨k4, y⟩]
        · rw [if_neg (fun w => y w.2), if_neg (fun w => y w.2), xu11, if_neg (by omega), a2.1 94 q (by omega)]
      · rw [xu11, if_neg (by omega), xu11, if_neg (by omega), xu11, if_neg (by omega)]; exact r86
      · rw [xu11, if_neg (by omega), xu11, if_neg (by omega), xu11, if_neg (by omega)]; exact r87
      · rw [xu11, if_neg (by omega), xu11, if_neg (by omega), xu11, if_neg (by omega)]; exact r88
      · rw [xu11, if_neg (by omega), xu11, if_neg (by omega), xu11, if_neg (by omega)]; exact r89
      · rw [xu11, if_neg (by omega), xu11, if_neg (by omega), xu11, if_neg (by omega)]; exact r90
      · rw [xu11, if_neg (by omega), xu11, if_neg (by omega), xu11, if_neg (by omega)]; exact r91
      · rw [xu11, if_neg (by omega), xu11, if_neg (by omega), xu11, if_neg (by omega)]; exact r92
      · rw [xu11, if_neg (by omega), xu11, if_neg (by omega), a2.1 84 k (by omega)]
      · rw [xu11, if_neg (by omega), xu11, if_neg (by omega), if_neg k0]; exact v14
      · rw [xu11, if_neg (by omega), xu11, if_pos ⟨rfl, rfl⟩, if_pos k4]
    · rw [if_neg k4]
      refine ⟨τ7, rfl, z7, ms_ad hW hM ?_ ?_ ?_ (fun x r h1 h2 h3 => ?_) (fun q => ?_) (fun q => ?_) ?_ ?_ ?_ ?_ ?_ ?_ ?_, fun k h1 h2 => a2.1 84 k (by omega), by rw [if_neg k0]; exact v14, by rw [if_neg k4]; exact v15⟩
      · rw [xu11, if_pos ⟨rfl, rfl⟩]
      · rw [xu11, if_neg (by omega), if_neg k0]; exact v14
      · rw [xu11, if_neg (by omega), if_neg k4]; exact v15
      · rw [xu11, if_neg (by omega)]; exact hold7 x r h1 h2 h3
      · rw [xu11, if_neg (by omega), if_neg (fun w => k0 w.1), a2.1 93 q (by omega)]
      · rw [xu11, if_neg (by omega), if_neg (fun w => k4 w.1), a2.1 94 q (by omega)]
      · rw [xu11, if_neg (by omega)]; exact r86
      · rw [xu11, if_neg (by omega)]; exact r87
      · rw [xu11, if_neg (by omega)]; exact r88
      · rw [xu11, if_neg (by omega)]; exact r89
      · rw [xu11, if_neg (by omega)]; exact r90
      · rw [xu11, if_neg (by omega)]; exact r91
      · rw [xu11, if_neg (by omega)]; exact r92
end XR
