/-! ===== end ===== -/
section XR
variable {σ τ : xm_Mem} {S : xS} {A : Nat → Nat} {n : Nat} {m : Nat → Int64} {e : Nat → Nat} {B : Nat → Int} {s : Nat}
theorem iv_end (h : IV σ S A n m e B s) (x : Int) : ∃ σ1 σ2 a s', f_X10_end σ x = some (σ1, a) ∧ f_X11_end σ1 x = some (σ2, a) ∧ IV σ2 S A n m e B s' ∧ σ2.2.2 = σ.2.2 := by
  have hB := h.1.2
  have hTC := h.2.2.1.1
  have hTM := h.2.2.1.2
  by_cases c : 0 ≤ x ∧ x ≤ (s : Int)
  · obtain ⟨j, rfl⟩ := Int.eq_ofNat_of_zero_le c.1
    have js : j ≤ s := by omega
    have a1 := c_end hTC (j : Int)
    rw [if_pos c] at a1
    have g1 : gx (fun a k => zTp a k ∨ (a = 1 ∧ k = 8)) σ (xm_u1 (xm_u1 σ 2 1 (j : Int)) 1 8 0) := ((gx.rf _ _).u1 (Or.inl (Or.inl ⟨rfl, rfl⟩))).u1 (Or.inr ⟨rfl, rfl⟩)
    have t1 : TC (xm_u1 (xm_u1 σ 2 1 (j : Int)) 1 8 0) B j := ⟨by rw [xu11, if_neg (by omega), xu11, if_pos ⟨rfl, rfl⟩], fun k hk => by rw [xu11, if_neg (by omega), xu11, if_neg (by omega)]; exact hTC.2 k (by omega)⟩
    have w1 : (xm_u1 (xm_u1 σ 2 1 (j : Int)) 1 8 0).1 1 8 = 0 := by rw [xu11, if_pos ⟨rfl, rfl⟩]
    generalize xm_u1 (xm_u1 σ 2 1 (j : Int)) 1 8 0 = σ1 at a1 g1 t1 w1
    have tm := tm_c hTM g1
    have b1 := m_end tm (j : Int)
    rw [if_pos c] at b1
    have g2 : gx (fun a k => a = 85 ∨ (a = 84 ∧ (k = 1 ∨ k = 2))) σ1 (xm_u1 (xm_u1 σ1 84 1 (j : Int)) 84 2 0) := ((gx.rf _ _).u1 (Or.inr ⟨rfl, Or.inl rfl⟩)).u1 (Or.inr ⟨rfl, Or.inr rfl⟩)
    have t2 : TM (xm_u1 (xm_u1 σ1 84 1 (j : Int)) 84 2 0) B j := ⟨by rw [xu11, if_neg (by omega), xu11, if_pos ⟨rfl, rfl⟩], fun k hk => by rw [xu11, if_neg (by omega), xu11, if_neg (by omega)]; exact tm.2 k (by omega)⟩
    exact ⟨σ1, _, _, _, a1, b1, iv_tp h ⟨by have := hB.1; omega, fun k hk => hB.2 k (by omega)⟩ g1 g2 t1 t2 w1 (by rw [xu11, if_pos ⟨rfl, rfl⟩])⟩
  · have a1 := c_end hTC x
    rw [if_neg c] at a1
    have g1 : gx (fun a k => zTp a k ∨ (a = 1 ∧ k = 8)) σ (xm_u1 σ 1 8 3) := (gx.rf _ _).u1 (Or.inr ⟨rfl, rfl⟩)
    have t1 : TC (xm_u1 σ 1 8 3) B s := ⟨by rw [xu11, if_neg (by omega)]; exact hTC.1, fun k hk => by rw [xu11, if_neg (by omega)]; exact hTC.2 k hk⟩
    have w1 : (xm_u1 σ 1 8 3).1 1 8 = 3 := by rw [xu11, if_pos ⟨rfl, rfl⟩]
    generalize xm_u1 σ 1 8 3 = σ1 at a1 g1 t1 w1
    have tm := tm_c hTM g1
    have b1 := m_end tm x
    rw [if_neg c] at b1
    have g2 : gx (fun a k => a = 85 ∨ (a = 84 ∧ (k = 1 ∨ k = 2))) σ1 (xm_u1 σ1 84 2 3) := (gx.rf _ _).u1 (Or.inr ⟨rfl, Or.inr rfl⟩)
    have t2 : TM (xm_u1 σ1 84 2 3) B s := ⟨by rw [xu11, if_neg (by omega)]; exact tm.1, fun k hk => by rw [xu11, if_neg (by omega)]; exact tm.2 k hk⟩
    exact ⟨σ1, _, _, _, a1, b1, iv_tp h hB g1 g2 t1 t2 w1 (by rw [xu11, if_pos ⟨rfl, rfl⟩])⟩
end XR
