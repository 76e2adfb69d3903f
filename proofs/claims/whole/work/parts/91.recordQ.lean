/-! ===== record keeps the law's invariant ===== -/
section XR
variable {σ σ1 σ2 τ : xm_Mem} {S S' : xS} {A A' : Nat → Nat} {n n' : Nat} {m m' : Nat → Int64} {e e' : Nat → Nat} {B : Nat → Int} {s : Nat} {w p b : Int}
theorem iv_mr (hU : PU S' A' n' m') (hC : CR σ σ1 S' A' n' m' e' w p b) (hM : MR σ1 σ2 S' A' n' m' w p b) : IV σ2 S' A' n' m' e' B 0 ∧ σ2.2.2 = σ.2.2 + 1 := by
  obtain ⟨⟨c0, c1, c2, c3, c4⟩, c5, c6⟩ := hC
  obtain ⟨d0, d1, d2, d3, d4, d5, d6⟩ := hM
  have o : ∀ a k, a ≤ 83 → σ2.1 a k = σ1.1 a k := fun a k z => d0.1 a k (by unfold zMR; omega)
  exact ⟨⟨⟨hU, ⟨Nat.zero_le _, fun k h => absurd h (Nat.not_lt_zero _)⟩⟩, ⟨ci_gx hU.1 c5 d0 (fun a k z => by unfold zMR at z; omega), d1⟩, ⟨⟨by rw [o 2 1 (by omega)]; exact c4, fun k h => absurd h (Nat.not_lt_zero _)⟩, ⟨d2, fun k h => absurd h (Nat.not_lt_zero _)⟩⟩, ⟨by rw [o 1 8 (by omega), c6, d3], by rw [o 1 9 (by omega), c2, d4], by rw [o 1 10 (by omega), c3, d5]⟩, d6⟩, by rw [d0.2.2, c1]⟩
theorem mi_up (hO : OK S) (h : MI σ S A n m) (c : ∀ x k, 84 ≤ x → x ≤ 110 → σ1.1 x k = σ.1 x k ∧ σ1.2.1 x k = σ.2.1 x k) : MI σ1 S A n m := by
  have g : gx (fun x _ => x < 84 ∨ 111 ≤ x) σ (σ1.1, σ1.2.1, σ.2.2) := ⟨fun x k z => (c x k (by omega) (by omega)).1, fun x k z => (c x k (by omega) (by omega)).2, rfl⟩
  have h0 := mi_gx h hO g (fun a k z => by omega)
  exact h0
theorem iv_record (h : IV σ S A n m e B s) (hc : σ.2.2 < 100000) : ∃ σ1 σ2 a S' A' n' m' e', f_X10_record σ = some (σ1, a) ∧ f_X11_record σ1 = some (σ2, a) ∧ IV σ2 S' A' n' m' e' B 0 ∧ σ2.2.2 = σ.2.2 + 1 := by
  obtain ⟨⟨hU, hB⟩, ⟨hC, hM⟩, ⟨hTC, hTM⟩, _, h6⟩ := h
  obtain ⟨p1, p2, p3, p4, p5⟩ := c_record hU hC hB hTC hc
  have up : ∀ σ1, (∀ x k, 84 ≤ x → x ≤ 110 → σ1.1 x k = σ.1 x k ∧ σ1.2.1 x k = σ.2.1 x k) → MI σ1 S A n m ∧ TM σ1 B s ∧ σ1.1 84 6 = (sN S : Int) := fun σ1 c => ⟨mi_up hU.1 hM c, ⟨by rw [(c 84 1 (by omega) (by omega)).1]; exact hTM.1, fun k hk => by rw [(c 85 k (by omega) (by omega)).1]; exact hTM.2 k hk⟩, by rw [(c 84 6 (by omega) (by omega)).1]; exact h6⟩
  by_cases q1 : rdW B s = -9
  · by_cases q2 : kwn S (rdK B s) (rd1 B s) (rd2 B s) (rd3 B s)
    · by_cases q3 : rom S (rdK B s)
      · by_cases q4 : fstB (breaks (adR S (rdK B s) (rdD B s) (rd1 B s) (rd2 B s) (rd3 B s) (rd4 B s))) 9 1 = 0
        · obtain ⟨σ1, A', n', m', e', a1, a2, a3⟩ := p5 q1 q2 q3 q4
          obtain ⟨y1, y2, y3⟩ := up σ1 a3.1.1
          obtain ⟨σ2, b1, b2⟩ := (m_record hU y1 hB y2 y3).2.2.2.2 q1 q2 q3 q4 A' n' m'
          exact ⟨σ1, σ2, _, _, A', n', m', e', a1, b1, iv_mr a2 a3 b2⟩
        · obtain ⟨σ1, a1, a3⟩ := p4 q1 q2 q3 q4
          obtain ⟨y1, y2, y3⟩ := up σ1 a3.1.1
          obtain ⟨σ2, b1, b2⟩ := (m_record hU y1 hB y2 y3).2.2.2.1 q1 q2 q3 q4
          exact ⟨σ1, σ2, _, S, A, n, m, e, a1, b1, iv_mr hU a3 b2⟩
      · obtain ⟨σ1, a1, a3⟩ := p3 q1 q2 q3
        obtain ⟨y1, y2, y3⟩ := up σ1 a3.1.1
        obtain ⟨σ2, b1, b2⟩ := (m_record hU y1 hB y2 y3).2.2.1 q1 q2 q3
        exact ⟨σ1, σ2, _, S, A, n, m, e, a1, b1, iv_mr hU a3 b2⟩
    · obtain ⟨σ1, a1, a3⟩ := p2 q1 q2
      obtain ⟨y1, y2, y3⟩ := up σ1 a3.1.1
      obtain ⟨σ2, b1, b2⟩ := (m_record hU y1 hB y2 y3).2.1 q1 q2
      exact ⟨σ1, σ2, _, S, A, n, m, e, a1, b1, iv_mr hU a3 b2⟩
  · obtain ⟨σ1, a1, a3⟩ := p1 q1
    obtain ⟨y1, y2, y3⟩ := up σ1 a3.1.1
    obtain ⟨σ2, b1, b2⟩ := (m_record hU y1 hB y2 y3).1 q1
    exact ⟨σ1, σ2, _, S, A, n, m, e, a1, b1, iv_mr hU a3 b2⟩
end XR
