/-! ===== the class's course, whole ===== -/
/-- a course that is known -/
def KO (σ : xm_Mem) (S : xS) (A : Nat → Nat) (n : Nat) (m : Nat → Int64) (t : Nat) : Prop := (σ.1 (xm_cb t) 12 = rl S t ∧ σ.1 (xm_cb t) 13 = (ow S t : Int)) ∧ YV σ S t ∧ CA σ S A n m t (NS S A n m t)
section XK
variable {σ : xm_Mem} {S : xS} {A : Nat → Nat} {n : Nat} {m : Nat → Int64} {t : Nat} {e : Nat → Nat}
theorem c_noteYields (hO : OK S) (hC : CS σ S e) (ht : t < 8) : ∃ σ', f_X1_noteYields t σ = some (σ', 0) ∧ gx (fun a _ => a = xm_cb t + 1) σ σ' ∧ YV σ' S t := by
  have cr := cb_rg ht
  have hn := hO.1.n
  unfold f_X1_noteYields f_X1_noteYields_l2
  refine it_T (γ := xm_Mem × Nat) _ _ (fun (g : xm_Mem → Int → Option xm_Out) a => g a.1 (a.2 : Int)) (fun a => a.2 ≤ 64 ∧ gx (fun a _ => a = xm_cb t + 1) σ a.1 ∧ ∀ p, p < a.2 → a.1.1 (xm_cb t + 1) p = -1) (fun a => 64 - a.2) (fun z => ∃ σ', z = some (σ', 0) ∧ gx (fun a _ => a = xm_cb t + 1) σ σ' ∧ YV σ' S t) ?_ xm_fuel (σ, 0) ⟨Nat.zero_le _, gx.rf _ _, fun p h => absurd h (Nat.not_lt_zero _)⟩ (xfu (by show 64 - 0 < _; decide))
  rintro self ⟨τ, i⟩ ⟨hi, hf, hz⟩ ih
  replace hi : i ≤ 64 := hi
  replace hf : gx (fun a _ => a = xm_cb t + 1) σ τ := hf
  replace hz : ∀ p, p < i → τ.1 (xm_cb t + 1) p = -1 := hz
  show ∃ σ', f_X1_noteYields_b2 t _ self τ (i : Int) = _ ∧ _
  unfold f_X1_noteYields_b2
  by_cases h : i < 64
  · rw [if_pos (by omega), if_pos ⟨by omega, by omega⟩, xst, Int.toNat_natCast, xw1 (by omega)]
    refine ih (_, i + 1) ⟨h, hf.u1 rfl, fun p hp => ?_⟩ (by show 64 - (i + 1) < 64 - i; omega)
    have hp : p < i + 1 := hp
    show (xm_u1 τ (xm_cb t + 1) i (-1)).1 (xm_cb t + 1) p = _
    rw [xu11]
    by_cases ep : p = i
    · rw [if_pos ⟨rfl, ep⟩]
    · rw [if_neg (fun z => ep z.2)]; exact hz p (by omega)
  · rw [if_neg (by omega)]
    try dsimp only
    have e64 : i = 64 := by omega
    subst e64
    unfold f_X1_noteYields_l23
    refine it_T (γ := xm_Mem × Nat) _ _ (fun (g : xm_Mem → Int → Option xm_Out) a => g a.1 (a.2 : Int)) (fun a => a.2 ≤ sn S ∧ gx (fun a _ => a = xm_cb t + 1) σ a.1 ∧ ∀ p, p < 64 → a.1.1 (xm_cb t + 1) p = ldx (isYl S t p) (wD S) (-1) a.2) (fun a => sn S - a.2) (fun z => ∃ σ', z = some (σ', 0) ∧ gx (fun a _ => a = xm_cb t + 1) σ σ' ∧ YV σ' S t) ?_ xm_fuel (τ, 0) ⟨Nat.zero_le _, hf, fun p hp => hz p hp⟩ (xfu (by show sn S - 0 < _; omega))
    clear ih hz hf hi h
    rintro self ⟨τ, i⟩ ⟨hi, hf, hY⟩ ih
    replace hi : i ≤ sn S := hi
    replace hf : gx (fun a _ => a = xm_cb t + 1) σ τ := hf
    replace hY : ∀ p, p < 64 → τ.1 (xm_cb t + 1) p = ldx (isYl S t p) (wD S) (-1) i := hY
    have hCτ := hC.gx hf (fun a k z => by omega)
    show ∃ σ', f_X1_noteYields_b23 t self τ (i : Int) = _ ∧ _
    unfold f_X1_noteYields_b23
    rw [r7_size hCτ, Option.bind_some]
    try dsimp only
    by_cases h : i < sn S
    · obtain ⟨g1, g2, g3, g4, g5⟩ := hCτ.at h
      have no : (∀ p, ¬ isYl S t p i) → ∃ σ', self τ (xm_w ((i : Int) + 1)) = some (σ', 0) ∧ gx (fun a _ => a = xm_cb t + 1) σ σ' ∧ YV σ' S t := by
        intro z
        rw [xw1 (by omega)]
        exact ih (τ, i + 1) ⟨h, hf, fun p hp => by show τ.1 (xm_cb t + 1) p = ldx _ _ _ (i + 1); rw [ldx_no (z p)]; exact hY p hp⟩ (by show sn S - (i + 1) < sn S - i; omega)
      have e0 : τ.1 (e i) 0 = wK S i := g3.1
      have e1 : τ.1 (e i) 1 = wD S i := g3.2.1
      have e2 : τ.1 (e i) 2 = w1 S i := g3.2.2.1
      rw [if_pos (by omega), r7_standing hO.1 hCτ h, Option.bind_some]
      try dsimp only
      by_cases s : wS S i = 0
      · rw [if_pos s, xvr _ (by decide), if_pos rfl]; exact no (fun p z => by have := z.1; omega)
      · have s1 : wS S i = 1 := by rcases hO.1.st h with z | z; exact absurd z s; exact z
        rw [if_neg s, xvr _ g4, if_neg g5]
        simp only [if_pos g2, Int.toNat_natCast, e0, e1, e2]
        by_cases k : wK S i = 5
        · have e6 : τ.1 (e i) 6 = w2 S i := by rw [g3.2.2.2.2.2.2.1, if_pos (by omega)]
          rw [if_pos k, e6]
          by_cases kt : w2 S i = (t : Int)
          · obtain ⟨b1, b2, _⟩ := (hO.1.2.1 i h).2.2.2.2.2.2.2.2.1 (Or.inl k)
            have hsp := hO.1.1.2.1
            obtain ⟨q, hq⟩ : ∃ q : Nat, w1 S i = (q : Int) := ⟨(w1 S i).toNat, by omega⟩
            unfold f_X10_isPersonNumber
            rw [if_pos kt, hq, if_neg (by omega), if_pos (by omega), Option.bind_some]
            try dsimp only
            rw [if_neg (by decide)]
            simp only [if_pos g2, Int.toNat_natCast, e1, e2, hq, xst]
            rw [if_pos ⟨by omega, by omega⟩, xw1 (by omega)]
            refine ih (_, i + 1) ⟨h, hf.u1 rfl, fun p hp => ?_⟩ (by show sn S - (i + 1) < sn S - i; omega)
            show (xm_u1 τ (xm_cb t + 1) q (wD S i)).1 (xm_cb t + 1) p = ldx _ _ _ (i + 1)
            rw [xu11]
            by_cases z : isYl S t p i
            · rw [ldx_yes z, if_pos ⟨rfl, by have := z.2.2.2; omega⟩]
            · rw [ldx_no z, if_neg (fun y => z ⟨s1, k, kt, by rw [hq, y.2]⟩)]
              exact hY p hp
          · rw [if_neg kt]; exact no (fun p z => kt z.2.2.1)
        · rw [if_neg k]; exact no (fun p z => k z.2.1)
    · rw [if_neg (by omega)]
      have ei : i = sn S := by omega
      subst ei
      exact ⟨τ, rfl, hf, hY⟩
theorem c_nextDay (hO : OK S) (hC : CS σ S e) (ht : t < 8) (d : Int) : f_X1_nextDay t σ d = some (σ, if nxD S t d = 100000 then -1 else nxD S t d) := by
  have hn := hO.1.n
  unfold f_X1_nextDay f_X1_nextDay_l4
  refine it_T (γ := Nat) _ _ (fun (g : xm_Mem → Int → Int → Int → Option xm_Out) i => g σ d (if mnx (fun r => hap S t r ∧ d < wD S r) (wD S) 100000 i = 100000 then -1 else mnx (fun r => hap S t r ∧ d < wD S r) (wD S) 100000 i) (i : Int)) (fun i => i ≤ sn S) (fun i => sn S - i) (fun z => z = some (σ, if nxD S t d = 100000 then -1 else nxD S t d)) ?_ xm_fuel 0 (Nat.zero_le _) (xfu (by show sn S - 0 < _; omega))
  intro self i hi ih
  have rg : ∀ k, k ≤ sn S → 0 ≤ mnx (fun r => hap S t r ∧ d < wD S r) (wD S) 100000 k ∧ mnx (fun r => hap S t r ∧ d < wD S r) (wD S) 100000 k ≤ 100000 := by
    intro k hk
    obtain ⟨g1, g2, g3⟩ := mnx_le (P := fun r => hap S t r ∧ d < wD S r) (f := wD S) (a := 100000) k
    refine ⟨?_, g1⟩
    rcases g3 with g3 | ⟨r, b1, b2, b3⟩
    · omega
    · rw [b3]; exact (hO.1.day (by omega)).1
  show f_X1_nextDay_b4 t self σ d (if mnx (fun r => hap S t r ∧ d < wD S r) (wD S) 100000 i = 100000 then -1 else mnx (fun r => hap S t r ∧ d < wD S r) (wD S) 100000 i) (i : Int) = _
  unfold f_X1_nextDay_b4
  rw [r7_size hC, Option.bind_some]
  try dsimp only
  have rgi := rg i hi
  by_cases h : i < sn S
  · obtain ⟨g1, g2, g3, g4, g5⟩ := hC.at h
    have hdd := hO.1.day h
    have go : ¬ (hap S t i ∧ d < wD S i) → self σ d (if mnx (fun r => hap S t r ∧ d < wD S r) (wD S) 100000 i = 100000 then -1 else mnx (fun r => hap S t r ∧ d < wD S r) (wD S) 100000 i) (xm_w ((i : Int) + 1)) = some (σ, if nxD S t d = 100000 then -1 else nxD S t d) := by
      intro q
      have := ih (i + 1) h (by omega)
      rw [mnx_no (P := fun r => hap S t r ∧ d < wD S r) q] at this
      rw [xw1 (by omega)]
      exact this
    have e0 : σ.1 (e i) 0 = wK S i := g3.1
    have e1 : σ.1 (e i) 1 = wD S i := g3.2.1
    have e6 : σ.1 (e i) 6 = if 4 ≤ wK S i then w2 S i else -1 := g3.2.2.2.2.2.2.1
    rw [if_pos (by omega), r7_standing hO.1 hC h, Option.bind_some]
    try dsimp only
    by_cases s : wS S i = 0
    · rw [if_pos s, xvr _ (by decide), if_pos rfl]; exact go (fun z => by have := z.1.1; omega)
    · have s1 : wS S i = 1 := by rcases hO.1.st h with z | z; exact absurd z s; exact z
      have hcm : f_X1_couldMove t σ (e i : Int) = some (σ, xb (hap S t i)) := by
        unfold f_X1_couldMove hap
        simp only [if_pos g2, Int.toNat_natCast, e0, e6]
        by_cases k0 : wK S i = 0
        · rw [if_pos k0, xb_pos ⟨s1, Or.inl k0⟩]
        · rw [if_neg k0]
          by_cases k3 : wK S i = 3
          · rw [if_pos k3, xb_pos ⟨s1, Or.inr (Or.inl k3)⟩]
          · rw [if_neg k3]
            by_cases k4 : 4 ≤ wK S i
            · rw [if_pos k4]
              by_cases kt : w2 S i = (t : Int)
              · rw [if_pos kt, xb_pos ⟨s1, Or.inr (Or.inr ⟨k4, kt⟩)⟩]
              · rw [if_neg kt, xb_neg (fun z => by omega)]
            · rw [if_neg k4, if_neg (by omega), xb_neg (fun z => by omega)]
      rw [if_neg s, xvr _ g4, if_neg g5]
      simp only [if_pos g2, Int.toNat_natCast, e1]
      by_cases dd : d < wD S i
      · rw [if_pos dd, hcm, Option.bind_some]
        try dsimp only
        rw [xbi]
        by_cases hp : hap S t i
        · rw [if_pos hp]
          simp only [if_pos g2, Int.toNat_natCast, e1, xvl]
          have key : self σ d (mnx (fun r => hap S t r ∧ d < wD S r) (wD S) 100000 (i + 1)) (xm_w ((i : Int) + 1)) = some (σ, if nxD S t d = 100000 then -1 else nxD S t d) := by
            have := ih (i + 1) h (by omega)
            have hle := (mnx_le (P := fun r => hap S t r ∧ d < wD S r) (f := wD S) (a := 100000) (i + 1)).2.1 i (Nat.lt_succ_self i) ⟨hp, dd⟩
            rw [if_neg (by omega)] at this
            rw [xw1 (by omega)]
            exact this
          by_cases mm : mnx (fun r => hap S t r ∧ d < wD S r) (wD S) 100000 i = 100000
          · rw [if_pos mm, if_pos rfl]
            rw [mnx_succ, if_pos ⟨⟨hp, dd⟩, by omega⟩] at key
            exact key
          · rw [if_neg mm, if_neg (by omega)]
            by_cases l : wD S i < mnx (fun r => hap S t r ∧ d < wD S r) (wD S) 100000 i
            · rw [if_pos l]
              rw [mnx_succ, if_pos ⟨⟨hp, dd⟩, l⟩] at key
              exact key
            · rw [if_neg l]
              rw [mnx_succ, if_neg (fun z => l z.2)] at key
              exact key
        · rw [if_neg hp]; exact go (fun z => hp z.1)
      · rw [if_neg dd]; exact go (fun z => dd z.2)
  · have q : i = sn S := by omega
    subst q
    rw [if_neg (by omega)]
    rfl
theorem c_courseOf (hO : OK S) (hA : AGE S A n) (hm : BDY S A n m) (hC : CS σ S e) (ht : isT S (t : Int)) (hF : FI σ S A n) (hB : BD σ S m) (hk : σ.1 (xm_cb t) 11 = 0 ∨ (σ.1 (xm_cb t) 11 = 1 ∧ KO σ S A n m t)) :
    ∃ σ', f_X10_courseOf σ (t : Int) = some (σ', (t : Int)) ∧ gx (zG t) σ σ' ∧ FI σ' S A n ∧ BD σ' S m ∧ σ'.1 (xm_cb t) 11 = 1 ∧ KO σ' S A n m t := by
  obtain ⟨t8, t2, t3, t4, t5, t6, t7⟩ := isT_t hO ht
  have cr := cb_rg t8
  have how := ow_ok hO ht
  have hNS := NS_ok (A := A) (n := n) (m := m) hO ht
  unfold f_X10_courseOf f_X1_isKnown
  rw [if_pos ⟨by omega, by omega⟩, Int.toNat_natCast, Option.bind_some]
  try dsimp only
  rcases hk with hk | ⟨hk, hK⟩
  · rw [if_pos hk]
    unfold f_X1_begin
    rw [xst, xst]
    generalize hτ0 : xm_u1 (xm_u1 σ (xm_cb t) 11 1) (xm_cb t) 10 0 = τ0
    have z0 : gx (fun a k => a = xm_cb t ∧ (k = 10 ∨ k = 11)) σ τ0 := by rw [← hτ0]; exact ((gx.rf _ _).u1 ⟨rfl, Or.inr rfl⟩).u1 ⟨rfl, Or.inl rfl⟩
    have e11 : τ0.1 (xm_cb t) 11 = 1 := by rw [← hτ0, xu11, if_neg (by omega), xu11, if_pos ⟨rfl, rfl⟩]
    have e10 : τ0.1 (xm_cb t) 10 = 0 := by rw [← hτ0, xu11, if_pos ⟨rfl, rfl⟩]
    have hC0 := hC.gx z0 (fun a k z => by omega)
    obtain ⟨g1, g2, g3, g4, g5⟩ := hC0.at t3
    have ge := (hC0.2.2.1 _ t3).2.1
    rw [r7_grantOf hO.1 hC0, if_pos ht, Int.toNat_natCast, Option.bind_some]
    try dsimp only
    rw [xvr _ g4, if_neg g5, if_pos g2]
    have f7 : τ0.1 (e (stb S t)) 7 = rl S t := g3.2.2.2.2.2.2.2.1 t6
    have f2 : τ0.1 (e (stb S t)) 2 = (ow S t : Int) := by rw [how.2.1]; exact g3.2.2.1
    have f1 : τ0.1 (e (stb S t)) 1 = oD S t := g3.2.1
    have nE : ¬ e (stb S t) = xm_cb t := by omega
    simp only [xst, xobj1, if_pos g2, Int.toNat_natCast, xu11, nE, false_and, if_false, f7, f2, f1, and_self, if_true, true_and, show ¬ ((13 : Nat) = 14) by decide, show ¬ ((13 : Nat) = 12) by decide]
    generalize hτ1 : xm_u1 (xm_u1 (xm_u1 (xm_u1 (xm_u1 τ0 (xm_cb t) 12 (rl S t)) (xm_cb t) 13 (ow S t : Int)) (xm_cb t) 14 (ow S t : Int)) (xm_cb t) 15 (ow S t : Int)) (xm_cb t) 16 (oD S t) = τ1
    have z1 : gx (fun a k => a = xm_cb t ∧ 12 ≤ k) τ0 τ1 := by rw [← hτ1]; exact (((((gx.rf _ _).u1 (by omega)).u1 (by omega)).u1 (by omega)).u1 (by omega)).u1 (by omega)
    have hC1 := hC0.gx z1 (fun a k z => by omega)
    obtain ⟨τ2, a1, a2, a3⟩ := c_noteYields hO hC1 t8
    rw [a1, Option.bind_some]
    try dsimp only
    have z12 : gx (fun a k => (a = xm_cb t ∧ 10 ≤ k) ∨ a = xm_cb t + 1) σ τ2 := ((z0.mono (fun a k z => by omega)).tr (z1.mono (fun a k z => by omega))).tr (a2.mono (fun a k z => by omega))
    have z2 : gx (zG t) σ τ2 := z12.mono (fun a k z => by unfold zG; omega)
    have hC2 := hC.gx z2 (zGC t8)
    have g2' : xm_obj τ2 (e (stb S t) : Int) 2 := (hC2.at t3).2.1
    have f1' : τ2.1 (e (stb S t)) 1 = oD S t := (hC2.at t3).2.2.1.2.1
    simp only [if_pos g2', Int.toNat_natCast, f1', Option.bind_some]
    have o2 : ∀ k, τ2.1 (xm_cb t) k = τ1.1 (xm_cb t) k := fun k => a2.1 _ _ (by omega)
    have q0 : CQ τ2 S A n m t (ow S t : Int) (ow S t) (oD S t) := by
      refine ⟨⟨hF.gx z12 (fun a k z => by unfold zP; omega), hB.gx z12 (fun a k z => by omega), a3⟩, ⟨?_, ?_⟩, ?_, ?_, ?_⟩
      all_goals
        rw [o2, ← hτ1]
        simp [xu11]
    have e10' : τ2.1 (xm_cb t) 10 = ((0 : Nat) : Int) := by rw [o2, z1.1 _ _ (by omega)]; exact e10
    have e11' : τ2.1 (xm_cb t) 11 = 1 := by rw [o2, z1.1 _ _ (by omega)]; exact e11
    -- the days, one by one
    unfold f_X10_courseOf_l24
    have key := it_T (γ := xm_Mem × Nat) (f_X10_courseOf_b24) (fun _ _ _ _ => none) (fun (g : xm_Mem → Int → Int → Int → Option xm_Out) a => g a.1 (t : Int) (if 99999 < (stp S A n m t a.2).1 then -1 else (stp S A n m t a.2).1) (a.2 : Int)) (fun a => a.2 ≤ NS S A n m t ∧ gx (zG t) σ a.1 ∧ a.1.1 (xm_cb t) 11 = 1 ∧ CA a.1 S A n m t a.2 ∧ ∃ x : xC, CQ a.1 S A n m t x.1 x.2.1 x.2.2 ∧ (isP S (x.2.1 : Int) ∧ (x.1 < 0 ∨ isP S x.1)) ∧ (stp S A n m t a.2).2 = dP S A n m t x (stp S A n m t a.2).1) (fun a => NS S A n m t - a.2) (fun z => ∃ σ', z = some (σ', (t : Int)) ∧ gx (zG t) σ σ' ∧ FI σ' S A n ∧ BD σ' S m ∧ σ'.1 (xm_cb t) 11 = 1 ∧ KO σ' S A n m t) (fun self a ha ih => by
      obtain ⟨τ, K⟩ := a
      obtain ⟨hK, hz, h11, hCA, x, hq, ⟨hx1, hx2⟩, hx3⟩ := ha
      replace hK : K ≤ NS S A n m t := hK
      replace hz : gx (zG t) σ τ := hz
      replace h11 : τ.1 (xm_cb t) 11 = 1 := h11
      replace hCA : CA τ S A n m t K := hCA
      replace hq : CQ τ S A n m t x.1 x.2.1 x.2.2 := hq
      replace hx3 : (stp S A n m t K).2 = dP S A n m t x (stp S A n m t K).1 := hx3
      have rg := stp_rg (A := A) (n := n) (m := m) hO ht K
      show ∃ σ', f_X10_courseOf_b24 self τ (t : Int) (if 99999 < (stp S A n m t K).1 then -1 else (stp S A n m t K).1) (K : Int) = _ ∧ _
      unfold f_X10_courseOf_b24
      by_cases h : K < NS S A n m t
      · have hle := hNS.2.2.1 K h
        have hCτ := hC.gx hz (zGC t8)
        obtain ⟨τ3, b1, b2, b3, b4, b5, b6, b7, b8⟩ := c_day hO hA hm hCτ ht (K := K) (by omega) hq hCA.1 ⟨rg, hle⟩ hx1 hx2
        have zd : gx (zG t) τ τ3 := b2.mono (fun a k z => by
          rcases z with z | z
          · exact zYG a k z
          · unfold zG; omega)
        have hC3 := hC.gx (hz.tr zd) (zGC t8)
        rw [if_pos (by omega), if_neg (show ¬ 99999 < (stp S A n m t K).1 by omega), if_neg (by omega), Int.toNat_natCast, b1, Option.bind_some]
        try dsimp only
        rw [c_nextDay hO hC3 t8, Option.bind_some]
        try dsimp only
        rw [xw1 (by omega)]
        have es : (stp S A n m t (K + 1)).1 = nxD S t (stp S A n m t K).1 := rfl
        obtain ⟨n1, n2, _⟩ := nxD_spec (t := t) hO.1 (stp S A n m t K).1
        have en : (if nxD S t (stp S A n m t K).1 = 100000 then (-1 : Int) else nxD S t (stp S A n m t K).1) = (if 99999 < (stp S A n m t (K + 1)).1 then -1 else (stp S A n m t (K + 1)).1) := by
          rw [es]
          by_cases c : nxD S t (stp S A n m t K).1 = 100000
          · rw [if_pos c, if_pos (by omega)]
          · rw [if_neg c, if_neg (by omega)]
        rw [en]
        have hso := stp_ok hO hA hm ht K
        rw [← hx3] at b3 b6 b7 b8
        refine ih (τ3, K + 1) ⟨h, hz.tr zd, by show τ3.1 (xm_cb t) 11 = 1; rw [b2.1 _ _ (by unfold zDy zY; omega)]; exact h11, ⟨b4, fun k hk => ?_⟩, (stp S A n m t K).2, b3, ⟨hso.1, hso.2.1⟩, rfl⟩ (by show NS S A n m t - (K + 1) < NS S A n m t - K; omega)
        have hk : k < K + 1 := hk
        show τ3.1 (xm_cb t + 2) k = _ ∧ τ3.1 (xm_cb t + 3) k = _ ∧ τ3.1 (xm_cb t + 4) k = _ ∧ τ3.1 (xm_cb t + 5) k = _
        by_cases ek : k = K
        · subst ek; exact ⟨b5, b6, b7, b8⟩
        · rw [b2.1 _ _ (by unfold zDy zY; omega), b2.1 _ _ (by unfold zDy zY; omega), b2.1 _ _ (by unfold zDy zY; omega), b2.1 _ _ (by unfold zDy zY; omega)]
          exact hCA.2 k (by omega)
      · have eK : K = NS S A n m t := by omega
        have fin : ∃ σ', some (τ, (t : Int)) = some (σ', (t : Int)) ∧ gx (zG t) σ σ' ∧ FI σ' S A n ∧ BD σ' S m ∧ σ'.1 (xm_cb t) 11 = 1 ∧ KO σ' S A n m t := ⟨τ, rfl, hz, hq.1.1, hq.1.2.1, h11, hq.2.1, hq.1.2.2, by rw [← eK]; exact hCA⟩
        by_cases c : (K : Int) < 200
        · rw [if_pos c, if_pos (if_pos (by rw [eK]; exact hNS.2.1))]; exact fin
        · rw [if_neg c]; exact fin) xm_fuel (τ2, 0) ⟨Nat.zero_le _, z2, e11', ⟨e10', fun k h => absurd h (Nat.not_lt_zero _)⟩, ((ow S t : Int), ow S t, oD S t), q0, ⟨how.1, Or.inr how.1⟩, rfl⟩ (xfu (by show NS S A n m t - 0 < _; omega))
    have es0 : (if 99999 < (stp S A n m t 0).1 then (-1 : Int) else (stp S A n m t 0).1) = oD S t := if_neg (by show ¬ 99999 < oD S t; omega)
    rw [es0] at key
    exact key
  · rw [if_neg (by omega)]
    exact ⟨σ, rfl, gx.rf _ _, hF, hB, hk, hK⟩
end XK
