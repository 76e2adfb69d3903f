/-! ===== the simple questions ===== -/
noncomputable def sN (S : xS) : Nat := cn (fun r => wS S r = 1) (sn S)
section XG
variable {σ σ1 τ τ1 : xm_Mem} {S : xS} {A : Nat → Nat} {n : Nat} {m : Nat → Int64} {t : Nat} {e : Nat → Nat}
theorem c_countStanding (hW : WF S) (hC : CS σ S e) : f_X7_countStanding σ = some (σ, (sN S : Int)) := by
  have hn := hW.1.1
  unfold f_X7_countStanding f_X7_countStanding_l4
  refine it_T (γ := Nat) _ _ (fun (g : xm_Mem → Int → Int → Option xm_Out) i => g σ (cn (fun r => wS S r = 1) i : Int) (i : Int)) (fun i => i ≤ sn S) (fun i => sn S - i) (fun z => z = some (σ, (sN S : Int))) ?_ xm_fuel 0 (Nat.zero_le _) (xfu (by show sn S - 0 < _; omega))
  intro self i hi ih
  show f_X7_countStanding_b4 self σ (cn (fun r => wS S r = 1) i : Int) (i : Int) = _
  unfold f_X7_countStanding_b4
  have hcn := cn_le (fun r => wS S r = 1) i
  rw [hC.1.1]
  by_cases h : i < sn S
  · have nx := ih (i + 1) h (by omega)
    have s01 := (hW.2.1 i h).2.2.1
    have ne := (hC.at h).2.2.2.2
    rw [if_pos (by omega), r7_standing hW hC h, Option.bind_some]
    try dsimp only
    by_cases c : wS S i = 1
    · rw [if_neg (show ¬ wS S i = 0 by omega), if_neg ne, xw1 (by omega), xw1 (by omega)]
      rw [cn_yes (P := fun r => wS S r = 1) c] at nx
      exact nx
    · rw [if_pos (show wS S i = 0 by omega), if_pos rfl, xw1 (by omega)]
      rw [cn_no (P := fun r => wS S r = 1) c] at nx
      exact nx
  · rw [if_neg (by omega)]
    have ei : i = sn S := by omega
    subst ei
    rfl
theorem q_count (hU : PU S A n m) (hC : CI σ S A n m e) (hM : MI τ S A n m) {s : Nat} (h1 : σ.1 2 1 = (s : Int)) (h2 : τ.1 84 1 = (s : Int)) (h6 : τ.1 84 6 = (sN S : Int)) (x : Int) : ∃ a w, QA σ S A n m e (f_X10_count σ x) a w ∧ QB τ S A n m (f_X11_count τ x) a w := by
  unfold f_X10_count f_X11_count f_X8_size
  rw [r7_size hC.1, r7_persons hC.1, r7_titles hC.1, c_countStanding hU.1.1 hC.1, hM.1.1, hM.1.2.1, hM.1.2.2.1, h1, h2, h6]
  simp only [Option.bind_some]
  have A1 := fun a => qa_acc (σ := σ) hU.1 hC (gx.rf _ _) a
  have B1 := fun a => qb_fine (τ := τ) hU.1 hM (gx.rf _ _) a
  by_cases c0 : x = 0
  · rw [if_pos c0, if_pos c0]; exact ⟨_, _, A1 _, B1 _⟩
  · rw [if_neg c0, if_neg c0]
    by_cases c1 : x = 1
    · rw [if_pos c1, if_pos c1]; exact ⟨_, _, A1 _, B1 _⟩
    · rw [if_neg c1, if_neg c1]
      by_cases c2 : x = 2
      · rw [if_pos c2, if_pos c2]; exact ⟨_, _, A1 _, B1 _⟩
      · rw [if_neg c2, if_neg c2]
        by_cases c3 : x = 3
        · rw [if_pos c3, if_pos c3]; exact ⟨_, _, A1 _, B1 _⟩
        · rw [if_neg c3, if_neg c3]
          by_cases c4 : x = 4
          · rw [if_pos c4, if_pos c4]; exact ⟨_, _, A1 _, B1 _⟩
          · rw [if_neg c4, if_neg c4]
            exact ⟨_, _, qa_ref hU.1 hC (gx.rf _ _) _, qb_no hU.1 hM (gx.rf _ _) _⟩
theorem q_fact (hU : PU S A n m) (hC : CI σ S A n m e) (hM : MI τ S A n m) (x y : Int) : ∃ a w, QA σ S A n m e (f_X10_fact σ x y) a w ∧ QB τ S A n m (f_X11_fact τ x y) a w := by
  have hn := hU.1.1.1.1
  unfold f_X10_fact f_X11_fact
  rw [r7_taken hU.1.1 hC.1, Option.bind_some, m_isIn', Option.bind_some]
  try dsimp only
  rw [hM.1.1, xp_w (by omega) (by omega)]
  have A1 := fun a => qa_acc (σ := σ) hU.1 hC (gx.rf _ _) a
  have B1 := fun a => qb_fine (τ := τ) hU.1 hM (gx.rf _ _) a
  by_cases hr : 0 ≤ x ∧ x < (sn S : Int)
  · obtain ⟨r, rfl⟩ := Int.eq_ofNat_of_zero_le hr.1
    have h : r < sn S := by omega
    obtain ⟨e1, e2, ⟨k0, k1, k2, k3, k4, k5, k6, k7, k8, k9⟩, e4, e5⟩ := hC.1.at h
    have e3 := (hC.1.at h).2.2.1
    obtain ⟨r1, r2, r3, r4, r5, r6, r7⟩ := hM.1.2.2.2.1 r h
    have kr := (hU.1.1.2.1 r h).1
    have gi : 0 ≤ (r : Int) ∧ (r : Int) < 200 := ⟨by omega, by omega⟩
    rw [if_pos hr, Int.toNat_natCast, xvr _ e4, if_neg e5, xb_pos (by omega), if_neg (show ¬ (1 : Int) = 0 by decide), if_pos gi, xvl]
    simp only [if_pos e2, if_pos gi, Int.toNat_natCast, r1, r2, r3, r4, r7, k0, k1, k2, k9]
    by_cases c0 : y = 0
    · rw [if_pos c0, if_pos c0]; exact ⟨_, _, A1 _, B1 _⟩
    · rw [if_neg c0, if_neg c0]
      by_cases c1 : y = 1
      · rw [if_pos c1, if_pos c1]; exact ⟨_, _, A1 _, B1 _⟩
      · rw [if_neg c1, if_neg c1]
        by_cases c2 : y = 2
        · rw [if_pos c2, if_pos c2]
          by_cases z : wS S r = 0
          · rw [if_pos z, if_pos z]; exact ⟨_, _, A1 _, B1 _⟩
          · rw [if_neg z, if_neg z]; exact ⟨_, _, A1 _, B1 _⟩
        · rw [if_neg c2, if_neg c2]
          by_cases c3 : y = 3
          · rw [if_pos c3, if_pos c3]; exact ⟨_, _, A1 _, B1 _⟩
          · rw [if_neg c3, if_neg c3]
            by_cases c4 : y = 4
            · rw [if_pos c4, if_pos c4, r3_isOfUnion e2 e3, Option.bind_some]
              try dsimp only
              rw [xbi]
              simp only [if_pos e2, Int.toNat_natCast, k3, k6]
              by_cases z : wK S r = 1 ∨ wK S r = 2
              · rw [if_pos z, if_pos z, if_neg (show ¬ wK S r = 0 by omega), if_neg (show ¬ wK S r = 3 by omega)]
                exact ⟨_, _, A1 _, B1 _⟩
              · rw [if_neg z]
                by_cases z0 : wK S r = 0
                · rw [if_pos z0, if_neg (show ¬ 4 ≤ wK S r by omega)]; exact ⟨_, _, A1 _, B1 _⟩
                · rw [if_neg z0]
                  by_cases z3 : wK S r = 3
                  · rw [if_pos z3, if_neg (show ¬ 4 ≤ wK S r by omega)]; exact ⟨_, _, A1 _, B1 _⟩
                  · rw [if_neg z3, if_pos (show 4 ≤ wK S r by omega)]; exact ⟨_, _, A1 _, B1 _⟩
            · rw [if_neg c4, if_neg c4]
              exact ⟨_, _, qa_ref hU.1 hC (gx.rf _ _) _, qb_no hU.1 hM (gx.rf _ _) _⟩
  · rw [if_neg hr, xvr _ (by decide), if_pos rfl, xb_neg (by omega), if_pos rfl]
    exact ⟨_, _, qa_ref hU.1 hC (gx.rf _ _) _, qb_no hU.1 hM (gx.rf _ _) _⟩
theorem mi_rk (hU : PU S A n m) (h : MI τ S A n m) : ∃ τ', f_X11_reckon τ = some (τ', 0) ∧ gx zNQ τ τ' ∧ MI τ' S A n m ∧ RO τ' S A n m := by
  obtain ⟨τ', a1, a2, a3, a4⟩ := m_reckon hU.1 h.1 hU.2.1 hU.2.2 h.2.1
  exact ⟨τ', a1, a2.mono (fun a k z => Or.inl (Or.inl (Or.inl (Or.inl z)))), mi_ch h hU.1 a2 (fun a k z => by unfold zR at z; omega) (Or.inr ⟨a3, a4⟩) (fun _ => a3), a4⟩
theorem q_person (hU : PU S A n m) (hC : CI σ S A n m e) (hM : MI τ S A n m) (x y : Int) : ∃ a w, QA σ S A n m e (f_X10_person σ x y) a w ∧ QB τ S A n m (f_X11_person τ x y) a w := by
  unfold f_X10_person f_X11_person
  have hP := hC.2.2.1.1.1.1
  have hD := hC.2.2.1.1.1.2.1
  rw [c_has hU.1.1 hP, Option.bind_some, m_isPerson hU.1.1 hM.1, Option.bind_some]
  try dsimp only
  have A1 := fun a => qa_acc (σ := σ) hU.1 hC (gx.rf _ _) a
  by_cases hp : isP S x
  · obtain ⟨p, rfl⟩ := Int.eq_ofNat_of_zero_le hp.1
    have p64 := (isP_rg hU.1.1 hp).2.2
    have ps := hp.2.1
    obtain ⟨τ1, b1, b2, b3, b4⟩ := mi_rk hU hM
    have B1 := fun a => qb_fine hU.1 b3 b2 a
    obtain ⟨o1, o2, o3⟩ := b4.p hU.2.1 hp
    have gi : 0 ≤ (p : Int) ∧ (p : Int) < 64 := ⟨by omega, p64⟩
    rw [xb_pos hp]
    simp only [if_neg (show ¬ (1 : Int) = 0 by decide)]
    rw [b1, Option.bind_some]
    try dsimp only
    rw [c_isMale hU.1.1 hP hp, c_bornOn hU.1.1 hP hp, c_father hU.1.1 hP hp, c_mother hU.1.1 hP hp, c_deadOn hP (isP_sn hU.1.1 hp) (by omega) p64, c_isLegit hD (by omega), m_isMale hU.1.1 b3.1 (by omega) ps, m_bornOn hU.1.1 b3.1 (by omega) ps, m_father hU.1.1 b3.1 (by omega) ps, m_mother hU.1.1 b3.1 (by omega) ps, if_pos gi, if_pos gi, Int.toNat_natCast, o1, o2, hU.1.uq]
    rw [Option.bind_some, Option.bind_some, Option.bind_some, Option.bind_some, Option.bind_some, Option.bind_some]
    try dsimp only
    by_cases c0 : y = 0
    · rw [if_pos c0, if_pos c0, Option.bind_some]
      try dsimp only
      rw [xbi, xbi]
      by_cases z : wMale S p
      · rw [if_pos z, if_pos z]; exact ⟨_, _, A1 _, B1 _⟩
      · rw [if_neg z, if_neg z]; exact ⟨_, _, A1 _, B1 _⟩
    · rw [if_neg c0, if_neg c0]
      by_cases c1 : y = 1
      · rw [if_pos c1, if_pos c1]; exact ⟨_, _, A1 _, B1 _⟩
      · rw [if_neg c1, if_neg c1]
        by_cases c2 : y = 2
        · rw [if_pos c2, if_pos c2]; exact ⟨_, _, A1 _, B1 _⟩
        · rw [if_neg c2, if_neg c2]
          by_cases c3 : y = 3
          · rw [if_pos c3, if_pos c3]; exact ⟨_, _, A1 _, B1 _⟩
          · rw [if_neg c3, if_neg c3]
            by_cases c4 : y = 4
            · rw [if_pos c4, if_pos c4]; exact ⟨_, _, A1 _, B1 _⟩
            · rw [if_neg c4, if_neg c4]
              by_cases c5 : y = 5
              · rw [if_pos c5, if_pos c5, xbi, xbi]
                by_cases z : wLegit S p
                · rw [if_pos ⟨hp, z⟩, if_pos z]; exact ⟨_, _, A1 _, B1 _⟩
                · rw [if_neg (fun y => z y.2), if_neg z]; exact ⟨_, _, A1 _, B1 _⟩
              · rw [if_neg c5, if_neg c5]
                exact ⟨_, _, qa_ref hU.1 hC (gx.rf _ _) _, qb_no hU.1 b3 b2 _⟩
  · rw [xb_neg hp]
    simp only [if_pos (show (0 : Int) = 0 by rfl)]
    exact ⟨-9, 1, qa_ref hU.1 hC (gx.rf _ _) _, qb_no hU.1 hM (gx.rf _ _) _⟩
end XG
