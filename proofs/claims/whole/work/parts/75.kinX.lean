/-! ===== kin: the reference climbs; both answer alike ===== -/
section XK
variable {σ σ1 τ τ1 : xm_Mem} {S : xS} {A : Nat → Nat} {n : Nat} {m : Nat → Int64} {e : Nat → Nat} {p a : Nat} {u : Nat → Int}
theorem m_climb (hO : OK S) (hA : AGE S A n) (hM : MS σ S) (hR : RO σ S A n m) (ha : a = 109 ∨ a = 110) (hc : 110 ≤ σ.2.2) (hp : isP S (p : Int)) : ∃ σ', f_X11_climb σ (p : Int) (a : Int) = some (σ', 0) ∧ gx (fun b _ => b = a) σ σ' ∧ KF S p (σ'.1 a) := by
  have p64 := (isP_rg hO.1 hp).2.2
  have n64 := hA.1
  have arr : ∀ τ, gx (fun b _ => b = a) σ τ → xm_arr τ (a : Int) 1 64 := fun τ h => arr64 (by omega) (by rw [h.2.2]; exact hc)
  unfold f_X11_climb f_X11_climb_l2
  refine it_T (γ := xm_Mem × Nat) _ _ (fun (g : xm_Mem → Int → Int → Int → Option xm_Out) x => g x.1 (p : Int) (a : Int) (x.2 : Int)) (fun x => x.2 ≤ 64 ∧ gx (fun b _ => b = a) σ x.1 ∧ ∀ k, k < x.2 → x.1.1 a k = -1) (fun x => 64 - x.2) (fun z => ∃ σ', z = some (σ', 0) ∧ gx (fun b _ => b = a) σ σ' ∧ KF S p (σ'.1 a)) ?_ xm_fuel (σ, 0) ⟨Nat.zero_le _, gx.rf _ _, fun k h => absurd h (Nat.not_lt_zero _)⟩ (xfu (by show 64 - 0 < _; decide))
  rintro self ⟨σ0, i⟩ ⟨hi, hg, hI⟩ ih
  replace hi : i ≤ 64 := hi
  replace hg : gx (fun b _ => b = a) σ σ0 := hg
  replace hI : ∀ k, k < i → σ0.1 a k = -1 := hI
  show ∃ σ', f_X11_climb_b2 _ self σ0 (p : Int) (a : Int) (i : Int) = _ ∧ _
  unfold f_X11_climb_b2
  by_cases h : i < 64
  · have g : xm_arr σ0 (a : Int) 1 64 ∧ 0 ≤ (i : Int) ∧ (i : Int) < 64 := ⟨arr _ hg, by omega, by omega⟩
    rw [if_pos (show (i : Int) < 64 by omega), if_pos g, xst]
    simp only [Int.toNat_natCast]
    rw [xw1 (by omega)]
    refine ih (xm_u1 σ0 a i (-1), i + 1) ⟨h, hg.u1 rfl, fun k hk => ?_⟩ (by show 64 - (i + 1) < 64 - i; omega)
    have hk : k < i + 1 := hk
    show (xm_u1 σ0 a i (-1)).1 a k = _
    rw [xu11]
    by_cases y : k = i
    · rw [if_pos ⟨rfl, y⟩]
    · rw [if_neg (fun z => y z.2)]; exact hI k (by omega)
  · rw [if_neg (show ¬ (i : Int) < 64 by omega)]
    have ei : i = 64 := by omega
    subst ei
    try dsimp only
    clear ih
    have gp : xm_arr σ0 (a : Int) 1 64 ∧ 0 ≤ (p : Int) ∧ (p : Int) < 64 := ⟨arr _ hg, by omega, p64⟩
    rw [if_pos gp, xst]
    simp only [Int.toNat_natCast]
    have hg1 : gx (fun b _ => b = a) σ (xm_u1 σ0 a p 0) := hg.u1 rfl
    have hI1 : ∀ k, k < 64 → (xm_u1 σ0 a p 0).1 a k = if k = p then 0 else -1 := by
      intro k hk
      rw [xu11]
      by_cases y : k = p
      · rw [if_pos ⟨rfl, y⟩, if_pos y]
      · rw [if_neg (fun z => y z.2), if_neg y]; exact hI k hk
    generalize xm_u1 σ0 a p 0 = σ0 at hg1 hI1
    have hR1 : RO σ0 S A n m := hR.gx hg1 (fun b k z => by omega)
    rw [hR1.1, xp_w (by omega) (by omega), xvl]
    unfold f_X11_climb_l29
    have k0 : KI S p (fun c => ∃ j, n ≤ j ∧ j < n ∧ A j = c) (σ0.1 a) := ki_cg (ki_init hp hO) hI1 (fun c => ⟨fun ⟨j, j1, j2, _⟩ => absurd j1 (by omega), fun z => absurd z id⟩) hO (by omega)
    refine it_T (γ := xm_Mem × Nat) _ _ (fun (g : xm_Mem → Int → Int → Option xm_Out) x => g x.1 (a : Int) ((x.2 : Int) - 1)) (fun x => x.2 ≤ n ∧ gx (fun b _ => b = a) σ x.1 ∧ KI S p (fun c => ∃ j, x.2 ≤ j ∧ j < n ∧ A j = c) (x.1.1 a)) (fun x => x.2) (fun z => ∃ σ', z = some (σ', 0) ∧ gx (fun b _ => b = a) σ σ' ∧ KF S p (σ'.1 a)) ?_ xm_fuel (σ0, n) ⟨Nat.le_refl _, hg1, k0⟩ (xfu (by show n < _; omega))
    clear hg hI k0 hg1 hI1 hR1 gp
    rintro self ⟨σ0, i⟩ ⟨hi, hg, hI⟩ ih
    replace hi : i ≤ n := hi
    replace hg : gx (fun b _ => b = a) σ σ0 := hg
    replace hI : KI S p (fun c => ∃ j, i ≤ j ∧ j < n ∧ A j = c) (σ0.1 a) := hI
    show ∃ σ', f_X11_climb_b29 self σ0 (a : Int) ((i : Int) - 1) = _ ∧ _
    unfold f_X11_climb_b29
    cases i with
    | zero =>
      rw [if_pos (by omega)]
      refine ⟨σ0, rfl, hg, _, hI, fun c hc h0 => ?_⟩
      obtain ⟨j, j1, j2⟩ := hA.2.2.2 c hc
      exact ⟨j, Nat.zero_le _, j1, j2⟩
    | succ x =>
      have ex : ((x + 1 : Nat) : Int) - 1 = (x : Int) := by omega
      have gx' : 0 ≤ (x : Int) ∧ (x : Int) < 64 := ⟨by omega, by omega⟩
      obtain ⟨hx, hx64⟩ := hA.2.1 x (by omega)
      have hxs := hx.2.1
      have g : ∀ τ, gx (fun b _ => b = a) σ τ → xm_arr τ (a : Int) 1 64 ∧ 0 ≤ ((A x : Nat) : Int) ∧ ((A x : Nat) : Int) < 64 := fun τ h => ⟨arr _ h, by omega, by omega⟩
      have ro := ((hR.gx hg (fun b k z => by omega)).2.1 x (by omega)).1
      have em : xm_w ((x : Int) + -1) = (x : Int) - 1 := by rw [xp_w (by omega) (by omega)]; omega
      have prq : ∀ c, (∃ j, x ≤ j ∧ j < n ∧ A j = c) ↔ ((∃ j, x + 1 ≤ j ∧ j < n ∧ A j = c) ∨ c = A x) := by
        intro c
        constructor
        · rintro ⟨j, j1, j2, j3⟩
          by_cases y : j = x
          · subst y; exact Or.inr j3.symm
          · exact Or.inl ⟨j, by omega, j2, j3⟩
        · rintro (⟨j, j1, j2, j3⟩ | y)
          · exact ⟨j, by omega, j2, j3⟩
          · exact ⟨x, Nat.le_refl _, by omega, y.symm⟩
      rw [ex, if_neg (by omega), if_pos gx']
      simp only [Int.toNat_natCast]
      rw [ro, xvl, if_pos (g _ hg)]
      simp only [Int.toNat_natCast]
      have ux := hI.1 (A x) hx64
      by_cases c : σ0.1 a (A x) < 0
      · rw [if_pos c, em]
        exact ih (σ0, x) ⟨by show x ≤ n; omega, hg, ki_cg (ki_skip hI (x := A x) (by omega)) (fun _ _ => rfl) prq hO (by omega)⟩ (Nat.lt_succ_self x)
      · have bx := (ux.2 (by omega)).1
        obtain ⟨pf, pm⟩ := par_rg hO hx
        have hM0 := hM.gx hg (fun b k z => by omega)
        have ev : xm_w (σ0.1 a (A x) + 1) = σ0.1 a (A x) + 1 := xp_w (by omega) (by omega)
        obtain ⟨σ2, b1, b2, b3⟩ := m_closer (arr _ hg) pf (σ0.1 a (A x) + 1)
        have g2 := hg.tr b2
        have hM2 := hM.gx g2 (fun b k z => by omega)
        have nf : ¬ wFa S (A x) = ((A x : Nat) : Int) := fun z => by have := (par_ok hO hx (Or.inl z)).2.1; omega
        have ux2 : σ2.1 a (A x) = σ0.1 a (A x) := by rw [b3 (A x)]; unfold lwr; rw [if_neg (fun z => nf z.1.symm)]
        obtain ⟨σ3, d1, d2, d3⟩ := m_closer (arr _ g2) pm (σ0.1 a (A x) + 1)
        have g3 := g2.tr d2
        rw [if_neg c, m_father hO.1 hM0 (by omega) hxs, Option.bind_some]
        try dsimp only
        rw [if_pos (g _ hg), ev, b1, Option.bind_some]
        try dsimp only
        rw [m_mother hO.1 hM2 (by omega) hxs, Option.bind_some]
        try dsimp only
        rw [if_pos (g _ g2), ux2, ev, d1, Option.bind_some]
        try dsimp only
        rw [em]
        have st := ki_step hO hI hx (by omega) (fun q z ⟨j, j1, j2, j3⟩ => by
          have o1 := (par_ok hO hx z).2.2
          have o2 := hA.2.2.1 x j (by omega) j2
          rw [j3] at o2
          exact older_as o1 o2)
        refine ih (σ3, x) ⟨by show x ≤ n; omega, g3, ki_cg st (fun q hq => ?_) prq hO (by omega)⟩ (Nat.lt_succ_self x)
        show σ3.1 a q = _
        have ef : σ2.1 a = lwr (σ0.1 a) (wFa S (A x)) (σ0.1 a (A x) + 1) := funext b3
        rw [d3 q, ef]
theorem kf_rg (h : KF S p u) : ∀ k, k < 64 → -1 ≤ u k ∧ u k ≤ 63 := by
  obtain ⟨Pr, h1, _⟩ := h
  intro k hk
  have := h1.1 k hk
  refine ⟨this.1, ?_⟩
  by_cases z : 0 ≤ u k
  · have := (this.2 z).1; omega
  · omega
theorem q_kin (hU : PU S A n m) (hC : CI σ S A n m e) (hM : MI τ S A n m) (hc : 110 ≤ τ.2.2) (x y : Int) : ∃ a w, QA σ S A n m e (f_X10_kin σ x y) a w ∧ QB τ S A n m (f_X11_kin τ x y) a w := by
  unfold f_X10_kin f_X11_kin
  have hP := hC.2.2.1.1.1.1
  rw [c_has hU.1.1 hP, Option.bind_some, m_isPerson hU.1.1 hM.1, Option.bind_some]
  try dsimp only
  by_cases hx : isP S x
  · rw [xb_pos hx]
    simp only [if_neg (show ¬ (1 : Int) = 0 by decide)]
    rw [c_has hU.1.1 hP, Option.bind_some, m_isPerson hU.1.1 hM.1, Option.bind_some]
    try dsimp only
    by_cases hy : isP S y
    · rw [xb_pos hy]
      simp only [if_neg (show ¬ (1 : Int) = 0 by decide)]
      obtain ⟨p, rfl⟩ := Int.eq_ofNat_of_zero_le hx.1
      obtain ⟨q, rfl⟩ := Int.eq_ofNat_of_zero_le hy.1
      have c110 := hC.1.2.1.1
      obtain ⟨σ1, a1, a2, a3⟩ := c_up hU.1 hP (a := 16) (Or.inl rfl) c110 hx
      have hP1 := hP.gx a2 (fun b k z => by unfold zP; omega)
      obtain ⟨σ2, b1, b2, b3⟩ := c_up hU.1 hP1 (a := 17) (Or.inr rfl) (by rw [a2.2.2]; exact c110) hy
      have e16 : σ2.1 16 = σ1.1 16 := funext (fun k => b2.1 16 k (by omega))
      have gC : gx (fun b _ => b = 16 ∨ b = 17) σ σ2 := (a2.mono (fun b k z => Or.inl z)).tr (b2.mono (fun b k z => Or.inr z))
      have hC2 := ci_gx hU.1 hC gC (fun b k z => by omega)
      have gQ : gx zQ1 σ σ2 := gC.mono (fun b k z => Or.inl (Or.inr z))
      obtain ⟨τ0, k1, k2, k3, k4⟩ := mi_rk hU hM
      have c0 : 110 ≤ τ0.2.2 := by rw [k2.2.2]; exact hc
      obtain ⟨τ1, r1, r2, r3⟩ := m_climb hU.1 hU.2.1 k3.1 k4 (a := 109) (Or.inl rfl) c0 hx
      have hM1 := mi_gx k3 hU.1 r2 (fun b k z => by omega)
      have hR1 : RO τ1 S A n m := k4.gx r2 (fun b k z => by omega)
      obtain ⟨τ2, s1, s2, s3⟩ := m_climb hU.1 hU.2.1 hM1.1 hR1 (a := 110) (Or.inr rfl) (by rw [r2.2.2]; exact c0) hy
      have hM2 := mi_gx hM1 hU.1 s2 (fun b k z => by omega)
      have gN : gx zNQ τ τ2 := (k2.tr (r2.mono (fun b k z => Or.inl (Or.inr (Or.inr (by omega)))))).tr (s2.mono (fun b k z => Or.inl (Or.inr (Or.inr (by omega)))))
      have e109 : τ2.1 109 = τ1.1 109 := funext (fun k => s2.1 109 k (by omega))
      have u1 := kf_uniq hU.1 r3 a3
      have u2 := kf_uniq hU.1 s3 b3
      rw [← e109, ← e16] at u1
      have g1 := kf_rg a3
      rw [← e16] at g1
      have g2 := kf_rg b3
      have kg := knF_ge g1 g2
      have ke : ∀ i, i ≤ 64 → knF (τ2.1 109) (τ2.1 110) i = knF (σ2.1 16) (σ2.1 17) i := fun i hi => knF_cg i (fun k hk => ⟨u1 k (by omega), u2 k (by omega)⟩)
      refine ⟨knF (σ2.1 16) (σ2.1 17) 64, 0, ?_, ?_⟩
      · unfold f_X5_birthsBetween
        rw [a1, Option.bind_some]
        try dsimp only
        rw [b1, Option.bind_some]
        try dsimp only
        have lp : f_X5_birthsBetween_l23 xm_fuel σ2 (-1) 0 = some (σ2, knF (σ2.1 16) (σ2.1 17) 64) := by
          unfold f_X5_birthsBetween_l23
          refine it_T (γ := Nat) _ _ (fun (g : xm_Mem → Int → Int → Option xm_Out) i => g σ2 (knF (σ2.1 16) (σ2.1 17) i) (i : Int)) (fun i => i ≤ 64) (fun i => 64 - i) (fun z => z = some (σ2, knF (σ2.1 16) (σ2.1 17) 64)) ?_ xm_fuel 0 (Nat.zero_le _) (xfu (by show 64 - 0 < _; decide))
          intro self i hi ih
          show f_X5_birthsBetween_b23 self σ2 (knF (σ2.1 16) (σ2.1 17) i) (i : Int) = _
          unfold f_X5_birthsBetween_b23
          by_cases h : i < 64
          · have nx := ih (i + 1) h (by omega)
            have gi : 0 ≤ (i : Int) ∧ (i : Int) < 64 := ⟨by omega, by omega⟩
            have w1 := g1 i h
            have w2 := g2 i h
            have w3 := kg i (by omega)
            rw [if_pos gi.2]
            simp only [if_pos gi, Int.toNat_natCast]
            rw [xw1 (by omega), xvl, xp_w (by omega) (by omega)]
            rw [knF] at nx
            by_cases z1 : σ2.1 16 i = -1
            · rw [if_pos z1]
              rw [if_pos (by omega)] at nx
              exact nx
            · rw [if_neg z1]
              by_cases z2 : σ2.1 17 i = -1
              · rw [if_pos z2]
                rw [if_pos (by omega)] at nx
                exact nx
              · rw [if_neg z2]
                rw [if_neg (by omega)] at nx
                by_cases z3 : knF (σ2.1 16) (σ2.1 17) i = -1
                · rw [if_pos z3]
                  rw [if_pos (by omega)] at nx
                  exact nx
                · rw [if_neg z3]
                  by_cases z4 : σ2.1 16 i + σ2.1 17 i < knF (σ2.1 16) (σ2.1 17) i
                  · rw [if_pos z4]
                    rw [if_pos (by omega)] at nx
                    exact nx
                  · rw [if_neg z4]
                    rw [if_neg (by omega)] at nx
                    exact nx
          · rw [if_neg (by omega)]
            have ei : i = 64 := by omega
            subst ei
            rfl
        rw [lp, Option.bind_some]
        exact qa_acc hU.1 hC2 gQ _
      · rw [k1, Option.bind_some]
        try dsimp only
        rw [r1, Option.bind_some]
        try dsimp only
        rw [s1, Option.bind_some]
        try dsimp only
        unfold f_X11_kin_l49
        refine it_T (γ := Nat) _ _ (fun (g : xm_Mem → Int → Int → Option xm_Out) i => g τ2 (knF (σ2.1 16) (σ2.1 17) i) (i : Int)) (fun i => i ≤ 64) (fun i => 64 - i) (fun z => QB τ S A n m z (knF (σ2.1 16) (σ2.1 17) 64) 0) ?_ xm_fuel 0 (Nat.zero_le _) (xfu (by show 64 - 0 < _; decide))
        intro self i hi ih
        show QB τ S A n m (f_X11_kin_b49 _ self τ2 (knF (σ2.1 16) (σ2.1 17) i) (i : Int)) _ _
        unfold f_X11_kin_b49
        by_cases h : i < 64
        · have nx := ih (i + 1) h (by omega)
          have gi : 0 ≤ (i : Int) ∧ (i : Int) < 64 := ⟨by omega, by omega⟩
          have w1 := g1 i h
          have w2 := g2 i h
          have w3 := kg i (by omega)
          have v1 := u1 i h
          have v2 := u2 i h
          unfold f_X11_kin_j99
          rw [if_pos gi.2]
          simp only [if_pos gi, Int.toNat_natCast]
          rw [v1, v2, xw1 (by omega), xvl, xp_w (by omega) (by omega)]
          rw [knF] at nx
          by_cases z1 : σ2.1 16 i < 0
          · rw [if_pos z1]
            rw [if_pos (by omega)] at nx
            exact nx
          · rw [if_neg z1]
            by_cases z2 : σ2.1 17 i < 0
            · rw [if_pos z2]
              rw [if_pos (by omega)] at nx
              exact nx
            · rw [if_neg z2]
              rw [if_neg (by omega)] at nx
              by_cases z3 : knF (σ2.1 16) (σ2.1 17) i < 0
              · rw [if_pos z3]
                rw [if_pos (by omega)] at nx
                exact nx
              · rw [if_neg z3]
                by_cases z4 : σ2.1 16 i + σ2.1 17 i < knF (σ2.1 16) (σ2.1 17) i
                · rw [if_pos z4]
                  rw [if_pos (by omega)] at nx
                  exact nx
                · rw [if_neg z4]
                  rw [if_neg (by omega)] at nx
                  exact nx
        · rw [if_neg (by omega)]
          have ei : i = 64 := by omega
          subst ei
          exact qb_fine hU.1 hM2 gN _
    · rw [xb_neg hy]
      simp only [if_pos (show (0 : Int) = 0 by rfl)]
      exact ⟨-9, 1, qa_ref hU.1 hC (gx.rf _ _) _, qb_no hU.1 hM (gx.rf _ _) _⟩
  · rw [xb_neg hx]
    simp only [if_pos (show (0 : Int) = 0 by rfl)]
    exact ⟨-9, 1, qa_ref hU.1 hC (gx.rf _ _) _, qb_no hU.1 hM (gx.rf _ _) _⟩
end XK
