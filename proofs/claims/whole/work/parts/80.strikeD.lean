/-! ===== strike: the reference; both ===== -/
section XS
variable {σ σ1 τ τ1 : xm_Mem} {S S' : xS} {A A' : Nat → Nat} {n n' : Nat} {m m' : Nat → Int64} {e e' : Nat → Nat} {B : Nat → Int} {s : Nat}
theorem m_strike (hU : PU S A n m) (hM : MI τ S A n m) (h6 : τ.1 84 6 = (sN S : Int)) (x : Int) :
    (¬ (0 ≤ x ∧ x < (sn S : Int)) → ∃ τ1, f_X11_strike τ x = some (τ1, -9) ∧ MM τ τ1 S A n m 1 0) ∧
    ∀ r : Nat, x = (r : Int) → r < sn S →
      (wS S r = 0 → ∃ τ1, f_X11_strike τ x = some (τ1, -9) ∧ MM τ τ1 S A n m 8 0) ∧
      (wS S r = 1 → nmd S r → ∃ τ1, f_X11_strike τ x = some (τ1, -9) ∧ MM τ τ1 S A n m 6 0) ∧
      (wS S r = 1 → ¬ nmd S r → fstB (breaks (setS S r 0)) 9 1 ≠ 0 → ∃ τ1, f_X11_strike τ x = some (τ1, -9) ∧ MM τ τ1 S A n m 5 (fstB (breaks (setS S r 0)) 9 1 : Int)) ∧
      (wS S r = 1 → ¬ nmd S r → fstB (breaks (setS S r 0)) 9 1 = 0 → ∀ A' n' m', ∃ τ1, f_X11_strike τ x = some (τ1, (sN (setS S r 0) : Int)) ∧ MM τ τ1 (setS S r 0) A' n' m' 0 0) := by
  have hn := hU.1.1.1.1
  unfold f_X11_strike
  rw [xst]
  have g1 : gx zM1 τ (xm_u1 τ 84 4 0) := (gx.rf _ _).u1 (Or.inl ⟨rfl, Or.inr (Or.inl rfl)⟩)
  have hM1 := mi_gx hM hU.1 ((gx.rf (fun a k => a = 84 ∧ k = 4) _).u1 (v := 0) ⟨rfl, rfl⟩) (fun a k z => by omega)
  have b1 : (xm_u1 τ 84 4 0).1 84 4 = 0 := by rw [xu11, if_pos ⟨rfl, rfl⟩]
  have h61 : (xm_u1 τ 84 4 0).1 84 6 = (sN S : Int) := by rw [xu11, if_neg (by omega)]; exact h6
  generalize xm_u1 τ 84 4 0 = τ' at g1 hM1 b1 h61
  rw [hM1.1.1, m_isIn', Option.bind_some, xp_w (by omega) (by omega)]
  try dsimp only
  constructor
  · intro hx
    rw [xb_neg (by omega), if_pos rfl]
    exact mm_no hU.1 hM1 g1 b1 h61 1
  · rintro r rfl hr
    have gr : 0 ≤ (r : Int) ∧ (r : Int) < 200 := ⟨by omega, by omega⟩
    obtain ⟨a0, a1, a2, a3, a4, a5, a6⟩ := hM1.1.2.2.2.1 r hr
    rw [xb_pos (by omega), if_neg (by decide)]
    simp only [if_pos gr, Int.toNat_natCast, a6]
    refine ⟨fun s0 => ?_, fun s1 hn => ?_, fun s1 hn hb => ?_, fun s1 hn hb => ?_⟩
    · rw [if_pos s0]
      exact mm_no hU.1 hM1 g1 b1 h61 8
    · rw [if_neg (by omega), m_named hU.1.1 hM1.1 hr, Option.bind_some]
      try dsimp only
      rw [xb_pos hn, if_neg (by decide)]
      exact mm_no hU.1 hM1 g1 b1 h61 6
    · rw [if_neg (by omega), m_named hU.1.1 hM1.1 hr, Option.bind_some]
      try dsimp only
      rw [xb_neg hn, if_pos rfl, xst]
      have hW3 := set_WF hU.1.1 r (v := 0) ⟨by decide, by decide⟩
      have hM3 := ms_set hM1.1 r 0
      rw [m_broken hW3 hM3, Option.bind_some]
      try dsimp only
      rw [xst]
      have e4 : (xm_u1 (xm_u1 τ' 92 r 0) 84 4 (fstB (breaks (setS S r 0)) 9 1 : Int)).1 84 4 = (fstB (breaks (setS S r 0)) 9 1 : Int) := by rw [xu11, if_pos ⟨rfl, rfl⟩]
      rw [e4, if_pos (by omega), xst]
      have g6 : gx (fun a k => a = 84 ∧ k = 4) τ' (xm_u1 (xm_u1 (xm_u1 τ' 92 r 0) 84 4 (fstB (breaks (setS S r 0)) 9 1 : Int)) 92 r 1) := by
        refine ⟨fun a k z => ?_, fun a k z => rfl, rfl⟩
        rw [xu11]
        by_cases q : a = 92 ∧ k = r
        · rw [if_pos q, q.1, q.2, a6, s1]
        · rw [if_neg q, xu11, if_neg z, xu11, if_neg q]
      have v6 : (xm_u1 (xm_u1 (xm_u1 τ' 92 r 0) 84 4 (fstB (breaks (setS S r 0)) 9 1 : Int)) 92 r 1).1 84 4 = (fstB (breaks (setS S r 0)) 9 1 : Int) := by rw [xu11, if_neg (by omega)]; exact e4
      generalize xm_u1 (xm_u1 (xm_u1 τ' 92 r 0) 84 4 (fstB (breaks (setS S r 0)) 9 1 : Int)) 92 r 1 = τ6 at g6 v6
      exact mm_no hU.1 (mi_gx hM1 hU.1 g6 (fun a k z => by omega)) (g1.tr (g6.mono (fun a k z => Or.inl (by omega)))) v6 (by rw [g6.1 84 6 (by omega)]; exact h61) 5
    · intro A' n' m'
      rw [if_neg (by omega), m_named hU.1.1 hM1.1 hr, Option.bind_some]
      try dsimp only
      rw [xb_neg hn, if_pos rfl, xst]
      have hW3 := set_WF hU.1.1 r (v := 0) ⟨by decide, by decide⟩
      have hN3 := set_NM hU.1.1 hU.1.2.1 hn
      have hM3 := ms_set hM1.1 r 0
      rw [m_broken hW3 hM3, Option.bind_some]
      try dsimp only
      rw [xst, hb]
      have g5 : gx (fun a k => a = 84 ∧ k = 4) (xm_u1 τ' 92 r 0) (xm_u1 (xm_u1 τ' 92 r 0) 84 4 ((0 : Nat) : Int)) := (gx.rf _ _).u1 ⟨rfl, rfl⟩
      have hM5 := hM3.gx g5 (fun a k z => by omega)
      have v5 : (xm_u1 (xm_u1 τ' 92 r 0) 84 4 ((0 : Nat) : Int)).1 84 4 = 0 := by rw [xu11, if_pos ⟨rfl, rfl⟩]; rfl
      have v6 : (xm_u1 (xm_u1 τ' 92 r 0) 84 4 ((0 : Nat) : Int)).1 84 6 = (sN S : Int) := by rw [xu11, if_neg (by omega), xu11, if_neg (by omega)]; exact h61
      have g50 : gx zM1 τ' (xm_u1 (xm_u1 τ' 92 r 0) 84 4 ((0 : Nat) : Int)) := ((gx.rf _ _).u1 (Or.inr (Or.inl rfl))).u1 (Or.inl ⟨rfl, Or.inr (Or.inl rfl)⟩)
      generalize xm_u1 (xm_u1 τ' 92 r 0) 84 4 ((0 : Nat) : Int) = τ5 at hM5 v5 v6 g50
      rw [v5, if_neg (by decide), v6, xst]
      have sn0 := sN_set hr s1
      have le : sN S ≤ sn S := cn_le _ _
      have ew : xm_w ((sN S : Int) - 1) = (sN (setS S r 0) : Int) := by rw [xp_w (by omega) (by omega)]; omega
      rw [ew]
      have g7 : gx (fun a k => a = 84 ∧ k = 6) τ5 (xm_u1 τ5 84 6 (sN (setS S r 0) : Int)) := (gx.rf _ _).u1 ⟨rfl, rfl⟩
      have v7 : (xm_u1 τ5 84 6 (sN (setS S r 0) : Int)).1 84 6 = (sN (setS S r 0) : Int) := by rw [xu11, if_pos ⟨rfl, rfl⟩]
      generalize xm_u1 τ5 84 6 (sN (setS S r 0) : Int) = τ7 at g7 v7
      obtain ⟨τ8, c1, c2, c3⟩ := m_changed (hM5.gx g7 (fun a k z => by omega)) A' n' m' ⟨hW3, hN3, hb⟩
      rw [c1, Option.bind_some]
      try dsimp only
      have v8 : τ8.1 84 6 = (sN (setS S r 0) : Int) := by rw [c2.1 84 6 (by omega)]; exact v7
      have u8 : τ8.1 84 4 = 0 := by rw [c2.1 84 4 (by omega), g7.1 84 4 (by omega)]; exact v5
      unfold f_X11_fine
      rw [v8, xst, Option.bind_some]
      have g8 : gx zM1 τ τ8 := ((g1.tr g50).tr (g7.mono (fun a k z => Or.inl (by omega)))).tr (c2.mono (fun a k z => by unfold zM1; omega))
      exact ⟨_, rfl, g8.u1 (Or.inl ⟨rfl, Or.inl rfl⟩), mi_gx c3 ⟨hW3, hN3, hb⟩ ((gx.rf (fun a k => a = 84 ∧ k = 2) _).u1 ⟨rfl, rfl⟩) (fun a k z => by omega), by rw [xu11, if_pos ⟨rfl, rfl⟩], by rw [xu11, if_neg (by omega)]; exact u8, by rw [xu11, if_neg (by omega)]; exact v8⟩
/-- the law's invariant out of both -/
theorem iv_mk {w b : Int} (h : IV σ S A n m e B s) {σ1 σ2 : xm_Mem} (hU : PU S' A' n' m') (hC : CC σ σ1 S' A' n' m' e' w b) (hM : MM σ1 σ2 S' A' n' m' w b) : IV σ2 S' A' n' m' e' B s ∧ σ2.2.2 = σ.2.2 := by
  obtain ⟨⟨_, hB⟩, _, ⟨hTC, hTM⟩, ⟨_, w2, _⟩, _⟩ := h
  obtain ⟨c1, c2, c3, c4⟩ := hC
  obtain ⟨d1, d2, d3, d4, d5⟩ := hM
  have o1 : ∀ a k, a ≤ 3 ∨ (84 ≤ a ∧ a ≤ 110) → ¬ (a = 1 ∧ (k = 8 ∨ k = 10)) → σ1.1 a k = σ.1 a k := fun b k z y => c1.1 b k (by unfold zC2 zC1; omega)
  have o2 : ∀ a k, a ≤ 85 → ¬ (a = 84 ∧ (k = 2 ∨ k = 4 ∨ k = 6 ∨ k = 18)) → σ2.1 a k = σ1.1 a k := fun b k z y => d1.1 b k (by unfold zM1; omega)
  refine ⟨⟨⟨hU, hB⟩, ⟨ci_gx hU.1 c2 d1 (fun a k z => by unfold zM1 at z; omega), d2⟩, ⟨⟨?_, fun k hk => ?_⟩, ⟨?_, fun k hk => ?_⟩⟩, ⟨?_, ?_, ?_⟩, d5⟩, by rw [d1.2.2, c1.2.2]⟩
  · rw [o2 2 1 (by omega) (by omega), o1 2 1 (by omega) (by omega)]; exact hTC.1
  · rw [o2 3 k (by omega) (by omega), o1 3 k (by omega) (by omega)]; exact hTC.2 k hk
  · rw [o2 84 1 (by omega) (by omega), o1 84 1 (by omega) (by omega)]; exact hTM.1
  · rw [o2 85 k (by omega) (by omega), o1 85 k (by omega) (by omega)]; exact hTM.2 k hk
  · rw [o2 1 8 (by omega) (by omega), c3, d3]
  · rw [o2 1 9 (by omega) (by omega), o1 1 9 (by omega) (by omega), o2 84 3 (by omega) (by omega), o1 84 3 (by omega) (by omega)]; exact w2
  · rw [o2 1 10 (by omega) (by omega), c4, d4]
theorem iv_strike (h : IV σ S A n m e B s) (x : Int) : ∃ σ1 σ2 a S' A' n' m', f_X10_strike σ x = some (σ1, a) ∧ f_X11_strike σ1 x = some (σ2, a) ∧ IV σ2 S' A' n' m' e B s ∧ σ2.2.2 = σ.2.2 := by
  have hU := h.1.1
  have hM := h.2.1.2
  have h6 := h.2.2.2.2
  obtain ⟨p1, p2⟩ := c_strike hU h.2.1.1 x
  have mi : ∀ σ1, gx zC2 σ σ1 → MI σ1 S A n m ∧ σ1.1 84 6 = (sN S : Int) := fun σ1 g => ⟨mi_gx hM hU.1 g (fun a k z => by unfold zC2 zC1 at z; omega), by rw [g.1 84 6 (by unfold zC2 zC1; omega)]; exact h6⟩
  by_cases hx : 0 ≤ x ∧ x < (sn S : Int)
  · obtain ⟨r, rfl⟩ := Int.eq_ofNat_of_zero_le hx.1
    have hr : r < sn S := by omega
    obtain ⟨q1, q2, q3, q4⟩ := p2 r rfl hr
    have s01 := (hU.1.1.2.1 r hr).2.2.1
    by_cases s0 : wS S r = 0
    · obtain ⟨σ1, a1, a2⟩ := q1 s0
      obtain ⟨y1, y2⟩ := mi σ1 a2.1
      obtain ⟨σ2, b1, b2⟩ := ((m_strike hU y1 y2 (r : Int)).2 r rfl hr).1 s0
      exact ⟨σ1, σ2, _, S, A, n, m, a1, b1, iv_mk h hU a2 b2⟩
    · have s1 : wS S r = 1 := by omega
      by_cases hn : nmd S r
      · obtain ⟨σ1, a1, a2⟩ := q2 s1 hn
        obtain ⟨y1, y2⟩ := mi σ1 a2.1
        obtain ⟨σ2, b1, b2⟩ := ((m_strike hU y1 y2 (r : Int)).2 r rfl hr).2.1 s1 hn
        exact ⟨σ1, σ2, _, S, A, n, m, a1, b1, iv_mk h hU a2 b2⟩
      · by_cases hb : fstB (breaks (setS S r 0)) 9 1 = 0
        · obtain ⟨σ1, A', n', m', a1, a3, a2⟩ := q4 s1 hn hb
          obtain ⟨y1, y2⟩ := mi σ1 a2.1
          obtain ⟨σ2, b1, b2⟩ := ((m_strike hU y1 y2 (r : Int)).2 r rfl hr).2.2.2 s1 hn hb A' n' m'
          exact ⟨σ1, σ2, _, _, A', n', m', a1, b1, iv_mk h a3 a2 b2⟩
        · obtain ⟨σ1, a1, a2⟩ := q3 s1 hn hb
          obtain ⟨y1, y2⟩ := mi σ1 a2.1
          obtain ⟨σ2, b1, b2⟩ := ((m_strike hU y1 y2 (r : Int)).2 r rfl hr).2.2.1 s1 hn hb
          exact ⟨σ1, σ2, _, S, A, n, m, a1, b1, iv_mk h hU a2 b2⟩
  · obtain ⟨σ1, a1, a2⟩ := p1 hx
    obtain ⟨y1, y2⟩ := mi σ1 a2.1
    obtain ⟨σ2, b1, b2⟩ := (m_strike hU y1 y2 x).1 hx
    exact ⟨σ1, σ2, _, S, A, n, m, a1, b1, iv_mk h hU a2 b2⟩
end XS
