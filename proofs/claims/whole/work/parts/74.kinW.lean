/-! ===== both climb ===== -/
theorem arr64 {σ : xm_Mem} {a : Nat} (h : a = 16 ∨ a = 17 ∨ a = 109 ∨ a = 110) (hc : 110 ≤ σ.2.2) : xm_arr σ (a : Int) 1 64 := by
  rcases h with h | h | h | h <;> subst h <;> exact ⟨by decide, by omega, by decide⟩
section XK
variable {σ σ1 τ τ1 : xm_Mem} {S : xS} {A : Nat → Nat} {n : Nat} {m : Nat → Int64} {e : Nat → Nat} {p a : Nat} {u : Nat → Int}
theorem c_lower (ha : xm_arr σ (a : Int) 1 64) (hu : ∀ k, k < 64 → -1 ≤ σ.1 a k) {q : Int} (hq : -1 ≤ q ∧ q < 64) (v : Int) : ∃ σ', f_X5_lower σ (a : Int) q v = some (σ', 0) ∧ gx (fun b _ => b = a) σ σ' ∧ ∀ k, σ'.1 a k = lwr (σ.1 a) q v k := by
  unfold f_X5_lower
  by_cases h : q < 0
  · rw [if_pos h]
    exact ⟨σ, rfl, gx.rf _ _, fun k => by unfold lwr; rw [if_neg (by omega)]⟩
  · obtain ⟨j, rfl⟩ := Int.eq_ofNat_of_zero_le (show 0 ≤ q by omega)
    have g : xm_arr σ (a : Int) 1 64 ∧ 0 ≤ (j : Int) ∧ (j : Int) < 64 := ⟨ha, by omega, hq.2⟩
    have hj := hu j (by omega)
    rw [if_neg h, if_pos ha, if_pos hq.2]
    simp only [if_pos g, Int.toNat_natCast]
    have set : (σ.1 a j < 0 ∨ v < σ.1 a j) → ∃ σ', xm_st (xm_u1 σ a j v) (fun σ9 => some (σ9, (0 : Int))) = some (σ', 0) ∧ gx (fun b _ => b = a) σ σ' ∧ ∀ k, σ'.1 a k = lwr (σ.1 a) (j : Int) v k := by
      intro z
      rw [xst]
      refine ⟨_, rfl, (gx.rf _ _).u1 rfl, fun k => ?_⟩
      unfold lwr
      rw [xu11]
      by_cases y : k = j
      · subst y; rw [if_pos ⟨rfl, rfl⟩, if_pos ⟨rfl, z⟩]
      · rw [if_neg (fun w => y w.2), if_neg (fun w => y (by omega))]
    by_cases c1 : σ.1 a j = -1
    · rw [if_pos c1]; exact set (Or.inl (by omega))
    · rw [if_neg c1]
      by_cases c2 : v < σ.1 a j
      · rw [if_pos c2]; exact set (Or.inr c2)
      · rw [if_neg c2]
        refine ⟨σ, rfl, gx.rf _ _, fun k => ?_⟩
        unfold lwr
        rw [if_neg]
        rintro ⟨y, z⟩
        have : k = j := by omega
        subst this
        omega
theorem m_closer (ha : xm_arr σ (a : Int) 1 64) {q : Int} (hq : -1 ≤ q ∧ q < 64) (v : Int) : ∃ σ', f_X11_closer σ (a : Int) q v = some (σ', 0) ∧ gx (fun b _ => b = a) σ σ' ∧ ∀ k, σ'.1 a k = lwr (σ.1 a) q v k := by
  unfold f_X11_closer
  by_cases h : q < 0
  · rw [if_pos h]
    exact ⟨σ, rfl, gx.rf _ _, fun k => by unfold lwr; rw [if_neg (by omega)]⟩
  · obtain ⟨j, rfl⟩ := Int.eq_ofNat_of_zero_le (show 0 ≤ q by omega)
    have g : xm_arr σ (a : Int) 1 64 ∧ 0 ≤ (j : Int) ∧ (j : Int) < 64 := ⟨ha, by omega, hq.2⟩
    rw [if_neg h]
    simp only [if_pos g, Int.toNat_natCast]
    have set : (σ.1 a j < 0 ∨ v < σ.1 a j) → ∃ σ', xm_st (xm_u1 σ a j v) (fun σ9 => some (σ9, (0 : Int))) = some (σ', 0) ∧ gx (fun b _ => b = a) σ σ' ∧ ∀ k, σ'.1 a k = lwr (σ.1 a) (j : Int) v k := by
      intro z
      rw [xst]
      refine ⟨_, rfl, (gx.rf _ _).u1 rfl, fun k => ?_⟩
      unfold lwr
      rw [xu11]
      by_cases y : k = j
      · subst y; rw [if_pos ⟨rfl, rfl⟩, if_pos ⟨rfl, z⟩]
      · rw [if_neg (fun w => y w.2), if_neg (fun w => y (by omega))]
    by_cases c1 : σ.1 a j < 0
    · rw [if_pos c1]; exact set (Or.inl c1)
    · rw [if_neg c1]
      by_cases c2 : v < σ.1 a j
      · rw [if_pos c2]; exact set (Or.inr c2)
      · rw [if_neg c2]
        refine ⟨σ, rfl, gx.rf _ _, fun k => ?_⟩
        unfold lwr
        rw [if_neg]
        rintro ⟨y, z⟩
        have : k = j := by omega
        subst this
        omega
theorem par_rg (hO : OK S) {x : Nat} (hx : isP S (x : Int)) : (-1 ≤ wFa S x ∧ wFa S x < 64) ∧ (-1 ≤ wMo S x ∧ wMo S x < 64) := by
  have x64 := (isP_rg hO.1 hx).2.2
  constructor
  · rcases hO.fa hx with y | ⟨y1, y2, _⟩
    · omega
    · have := y1.1; omega
  · rcases hO.mo hx with y | ⟨y1, y2, _⟩
    · omega
    · have := y1.1; omega
theorem c_up (hO : OK S) (hP : PO σ S) (ha : a = 16 ∨ a = 17) (hc : 110 ≤ σ.2.2) (hp : isP S (p : Int)) : ∃ σ', f_X5_countBirthsUp σ (p : Int) (a : Int) = some (σ', 0) ∧ gx (fun b _ => b = a) σ σ' ∧ KF S p (σ'.1 a) := by
  have p64 := (isP_rg hO.1 hp).2.2
  have arr : ∀ τ, gx (fun b _ => b = a) σ τ → xm_arr τ (a : Int) 1 64 := fun τ h => arr64 (by omega) (by rw [h.2.2]; exact hc)
  unfold f_X5_countBirthsUp f_X5_countBirthsUp_l2
  refine it_T (γ := xm_Mem × Nat) _ _ (fun (g : xm_Mem → Int → Int → Int → Option xm_Out) x => g x.1 (p : Int) (a : Int) (x.2 : Int)) (fun x => x.2 ≤ 64 ∧ gx (fun b _ => b = a) σ x.1 ∧ ∀ k, k < x.2 → x.1.1 a k = if k = p then 0 else -1) (fun x => 64 - x.2) (fun z => ∃ σ', z = some (σ', 0) ∧ gx (fun b _ => b = a) σ σ' ∧ KF S p (σ'.1 a)) ?_ xm_fuel (σ, 0) ⟨Nat.zero_le _, gx.rf _ _, fun k h => absurd h (Nat.not_lt_zero _)⟩ (xfu (by show 64 - 0 < _; decide))
  rintro self ⟨σ0, i⟩ ⟨hi, hg, hI⟩ ih
  replace hi : i ≤ 64 := hi
  replace hg : gx (fun b _ => b = a) σ σ0 := hg
  replace hI : ∀ k, k < i → σ0.1 a k = if k = p then 0 else -1 := hI
  show ∃ σ', f_X5_countBirthsUp_b2 _ self σ0 (p : Int) (a : Int) (i : Int) = _ ∧ _
  unfold f_X5_countBirthsUp_b2
  by_cases h : i < 64
  · have g : xm_arr σ0 (a : Int) 1 64 ∧ 0 ≤ (i : Int) ∧ (i : Int) < 64 := ⟨arr _ hg, by omega, by omega⟩
    have nx : ∀ v : Int, v = (if i = p then 0 else -1) → ∃ σ', self (xm_u1 σ0 a i v) (p : Int) (a : Int) (xm_w ((i : Int) + 1)) = some (σ', 0) ∧ gx (fun b _ => b = a) σ σ' ∧ KF S p (σ'.1 a) := by
      intro v hv
      rw [xw1 (by omega)]
      refine ih (xm_u1 σ0 a i v, i + 1) ⟨h, hg.u1 rfl, fun k hk => ?_⟩ (by show 64 - (i + 1) < 64 - i; omega)
      have hk : k < i + 1 := hk
      show (xm_u1 σ0 a i v).1 a k = _
      rw [xu11]
      by_cases y : k = i
      · subst y; rw [if_pos ⟨rfl, rfl⟩]; exact hv
      · rw [if_neg (fun z => y z.2)]; exact hI k (by omega)
    rw [if_pos (show (i : Int) < 64 by omega)]
    by_cases c : (i : Int) = (p : Int)
    · rw [if_pos c, if_pos g, Int.toNat_natCast, Int.toNat_natCast, xst]
      exact nx 0 (by rw [if_pos (by omega)])
    · rw [if_neg c, if_pos g, Int.toNat_natCast, Int.toNat_natCast, xst]
      exact nx (-1) (by rw [if_neg (by omega)])
  · rw [if_neg (show ¬ (i : Int) < 64 by omega)]
    have ei : i = 64 := by omega
    subst ei
    try dsimp only
    clear ih
    unfold f_X5_countBirthsUp_l30
    have k0 : KI S p (fun c => 64 ≤ c ∧ c < 64) (σ0.1 a) := ki_cg (ki_init hp hO) hI (fun c => ⟨fun z => absurd z (by omega), fun z => absurd z id⟩) hO (by omega)
    have e0 : (63 : Int) = ((64 : Nat) : Int) - 1 := by omega
    rw [e0]
    refine it_T (γ := xm_Mem × Nat) _ _ (fun (g : xm_Mem → Int → Int → Option xm_Out) x => g x.1 (a : Int) ((x.2 : Int) - 1)) (fun x => x.2 ≤ 64 ∧ gx (fun b _ => b = a) σ x.1 ∧ KI S p (fun c => x.2 ≤ c ∧ c < 64) (x.1.1 a)) (fun x => x.2) (fun z => ∃ σ', z = some (σ', 0) ∧ gx (fun b _ => b = a) σ σ' ∧ KF S p (σ'.1 a)) ?_ xm_fuel (σ0, 64) ⟨Nat.le_refl _, hg, k0⟩ (xfu (by show 64 < _; decide))
    clear hg hI k0
    rintro self ⟨σ0, i⟩ ⟨hi, hg, hI⟩ ih
    replace hi : i ≤ 64 := hi
    replace hg : gx (fun b _ => b = a) σ σ0 := hg
    replace hI : KI S p (fun c => i ≤ c ∧ c < 64) (σ0.1 a) := hI
    show ∃ σ', f_X5_countBirthsUp_b30 self σ0 (a : Int) ((i : Int) - 1) = _ ∧ _
    unfold f_X5_countBirthsUp_b30
    cases i with
    | zero =>
      rw [if_pos (by omega)]
      refine ⟨σ0, rfl, hg, _, hI, fun c hc h0 => ⟨Nat.zero_le _, ?_⟩⟩
      have c64 := (isP_rg hO.1 hc).2.2
      omega
    | succ x =>
      have ex : ((x + 1 : Nat) : Int) - 1 = (x : Int) := by omega
      have g : ∀ τ, gx (fun b _ => b = a) σ τ → xm_arr τ (a : Int) 1 64 ∧ 0 ≤ (x : Int) ∧ (x : Int) < 64 := fun τ h => ⟨arr _ h, by omega, by omega⟩
      have gx' : 0 ≤ (x : Int) ∧ (x : Int) < 64 := ⟨by omega, by omega⟩
      have ux := (hI.1 x (by omega)).1
      have em : xm_w ((x : Int) + -1) = (x : Int) - 1 := by rw [xp_w (by omega) (by omega)]; omega
      have prq : ∀ c, (x ≤ c ∧ c < 64) ↔ ((x + 1 ≤ c ∧ c < 64) ∨ c = x) := fun c => by omega
      rw [ex, if_neg (by omega), if_pos (g _ hg)]
      simp only [Int.toNat_natCast]
      by_cases c : σ0.1 a x = -1
      · rw [if_pos c, em]
        exact ih (σ0, x) ⟨by show x ≤ 64; omega, hg, ki_cg (ki_skip hI (x := x) (by omega)) (fun _ _ => rfl) prq hO (by omega)⟩ (Nat.lt_succ_self x)
      · have hx : isP S (x : Int) := ((hI.1 x (by omega)).2 (by omega)).2
        have bx := ((hI.1 x (by omega)).2 (by omega)).1
        obtain ⟨pf, pm⟩ := par_rg hO hx
        have hP0 := hP.gx hg (fun b k z => by unfold zP; omega)
        have pi := hP0.is hO.1 hx
        rw [Int.toNat_natCast] at pi
        have ev : xm_w (σ0.1 a x + 1) = σ0.1 a x + 1 := xp_w (by omega) (by omega)
        obtain ⟨σ2, b1, b2, b3⟩ := c_lower (arr _ hg) (fun k hk => (hI.1 k hk).1) pf (σ0.1 a x + 1)
        have g2 := hg.tr b2
        have hP2 := hP.gx g2 (fun b k z => by unfold zP; omega)
        have pi2 := hP2.is hO.1 hx
        rw [Int.toNat_natCast] at pi2
        have nf : ¬ wFa S x = (x : Int) := fun z => by have := (par_ok hO hx (Or.inl z)).2.1; omega
        have ux2 : σ2.1 a x = σ0.1 a x := by rw [b3 x]; unfold lwr; rw [if_neg (fun z => nf z.1.symm)]
        obtain ⟨σ3, d1, d2, d3⟩ := c_lower (arr _ g2) (fun k hk => by
          rw [b3 k]
          have := (hI.1 k hk).1
          unfold lwr
          split <;> omega) pm (σ0.1 a x + 1)
        have g3 := g2.tr d2
        rw [if_neg c, if_pos gx', if_pos (g _ hg), pi.2.2.1, ev, b1, Option.bind_some]
        try dsimp only
        rw [if_pos gx', if_pos (g _ g2), pi2.2.2.2, ux2, ev, d1, Option.bind_some]
        try dsimp only
        rw [em]
        have st := ki_step hO hI hx (by omega) (fun q z y => by have := (par_ok hO hx z).2.1; omega)
        refine ih (σ3, x) ⟨by show x ≤ 64; omega, g3, ki_cg st (fun q hq => ?_) prq hO (by omega)⟩ (Nat.lt_succ_self x)
        show σ3.1 a q = _
        have ef : σ2.1 a = lwr (σ0.1 a) (wFa S x) (σ0.1 a x + 1) := funext b3
        rw [d3 q, ef]
end XK
