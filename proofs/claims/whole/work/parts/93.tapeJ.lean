/-! ===== feed, end ===== -/
section XR
variable {σ τ : xm_Mem} {S : xS} {A : Nat → Nat} {n : Nat} {m : Nat → Int64} {e : Nat → Nat} {B : Nat → Int} {s : Nat}
theorem tm_c {σ1 : xm_Mem} (h : TM σ B s) (g : gx (fun a k => zTp a k ∨ (a = 1 ∧ k = 8)) σ σ1) : TM σ1 B s := ⟨by rw [g.1 84 1 (by unfold zTp; omega)]; exact h.1, fun k hk => by rw [g.1 85 k (by unfold zTp; omega)]; exact h.2 k hk⟩
theorem iv_feed (h : IV σ S A n m e B s) (x1 x2 x3 x4 x5 : Int) : ∃ σ1 σ2 a B' s', f_X10_feed σ x1 x2 x3 x4 x5 = some (σ1, a) ∧ f_X11_feed σ1 x1 x2 x3 x4 x5 = some (σ2, a) ∧ IV σ2 S A n m e B' s' ∧ σ2.2.2 = σ.2.2 := by
  have hB := h.1.2
  have hTC := h.2.2.1.1
  have hTM := h.2.2.1.2
  by_cases c : s + 20 ≤ 80
  · obtain ⟨σ1, a1, a2, a3, a4⟩ := (c_feed hTC x1 x2 x3 x4 x5).1 c
    obtain ⟨σ2, b1, b2, b3, b4⟩ := (m_feed (tm_c hTM a2) x1 x2 x3 x4 x5).1 c
    exact ⟨σ1, σ2, _, _, _, a1, b1, iv_tp h (fdB_ok hB c x1 x2 x3 x4 x5) a2 b2 a3 b3 a4 b4⟩
  · have a1 := (c_feed hTC x1 x2 x3 x4 x5).2 hB.1 c
    have g1 : gx (fun a k => zTp a k ∨ (a = 1 ∧ k = 8)) σ (xm_u1 σ 1 8 9) := (gx.rf _ _).u1 (Or.inr ⟨rfl, rfl⟩)
    have t1 : TC (xm_u1 σ 1 8 9) B s := ⟨by rw [xu11, if_neg (by omega)]; exact hTC.1, fun k hk => by rw [xu11, if_neg (by omega)]; exact hTC.2 k hk⟩
    have w1 : (xm_u1 σ 1 8 9).1 1 8 = 9 := by rw [xu11, if_pos ⟨rfl, rfl⟩]
    generalize xm_u1 σ 1 8 9 = σ1 at a1 g1 t1 w1
    have tm := tm_c hTM g1
    have b1 := (m_feed tm x1 x2 x3 x4 x5).2 hB.1 c
    have g2 : gx (fun a k => a = 85 ∨ (a = 84 ∧ (k = 1 ∨ k = 2))) σ1 (xm_u1 σ1 84 2 9) := (gx.rf _ _).u1 (Or.inr ⟨rfl, Or.inr rfl⟩)
    have t2 : TM (xm_u1 σ1 84 2 9) B s := ⟨by rw [xu11, if_neg (by omega)]; exact tm.1, fun k hk => by rw [xu11, if_neg (by omega)]; exact tm.2 k hk⟩
    exact ⟨σ1, _, _, _, _, a1, b1, iv_tp h hB g1 g2 t1 t2 w1 (by rw [xu11, if_pos ⟨rfl, rfl⟩])⟩
end XR
