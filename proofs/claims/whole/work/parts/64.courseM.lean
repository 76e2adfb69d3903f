/-! ===== the reference's course ===== -/
/-- a title that is gone through -/
def GO (σ : xm_Mem) (S : xS) (A : Nat → Nat) (n : Nat) (m : Nat → Int64) (t : Nat) : Prop := σ.1 104 t = (NS S A n m t : Int) ∧ ∀ k, k < NS S A n m t → σ.1 105 (200 * t + k) = (stp S A n m t k).1 ∧ σ.1 106 (200 * t + k) = (stp S A n m t k).2.1 ∧ σ.1 107 (200 * t + k) = ((stp S A n m t k).2.2.1 : Int) ∧ σ.1 108 (200 * t + k) = (stp S A n m t k).2.2.2
def zGo (t a k : Nat) : Prop := (zMq a k ∨ (a = 95 ∧ k = t) ∨ (a = 104 ∧ k = t)) ∨ (105 ≤ a ∧ a ≤ 108 ∧ 200 * t ≤ k ∧ k < 200 * t + 200)
section XM
variable {σ : xm_Mem} {S : xS} {A : Nat → Nat} {n : Nat} {m : Nat → Int64} {t : Nat}
theorem zGoM : ∀ a k, zGo t a k → ¬ (a = 84 ∧ (k = 5 ∨ k = 14 ∨ k = 15)) ∧ ¬ (86 ≤ a ∧ a ≤ 94) := fun a k h => by
  rcases h with (h | h) | h
  · exact zMqM a k h
  · omega
  · omega
theorem m_happens (hO : OK S) (hM : MS σ S) (ht : isT S (t : Int)) {r : Nat} (hr : r < sn S) : f_X11_happens σ (r : Int) (t : Int) = some (σ, xb (hap S t r)) := by
  obtain ⟨t8, t2, t3, t4, t5, t6, t7⟩ := isT_t hO ht
  obtain ⟨a1, a2, a3, a4, a5, a6, a7⟩ := hM.2.2.2.1 r hr
  have hn := hO.1.n
  have hg : 0 ≤ (r : Int) ∧ (r : Int) < 200 := ⟨by omega, by omega⟩
  have hg8 : 0 ≤ (t : Int) ∧ (t : Int) < 8 := ⟨by omega, by omega⟩
  unfold f_X11_happens hap
  simp only [if_pos hg, if_pos hg8, Int.toNat_natCast, xvl, a1, a4, a7, hM.2.2.2.2.2 t t2]
  by_cases s : wS S r = 0
  · rw [if_pos s, xb_neg (fun z => by have := z.1; omega)]
  · have s1 : wS S r = 1 := by rcases hO.1.st hr with z | z; exact absurd z s; exact z
    rw [if_neg s]
    by_cases k0 : wK S r = 0
    · rw [if_pos k0, xb_pos ⟨s1, Or.inl k0⟩]
    · rw [if_neg k0]
      by_cases k3 : wK S r = 3
      · rw [if_pos k3, xb_pos ⟨s1, Or.inr (Or.inl k3)⟩]
      · rw [if_neg k3]
        by_cases kt : (r : Int) = (stb S t : Int)
        · have e : r = stb S t := by omega
          rw [if_pos kt, xb_pos ⟨s1, Or.inr (Or.inr (by rw [e, t6, t7]; exact ⟨by decide, rfl⟩))⟩]
        · rw [if_neg kt]
          by_cases k5 : wK S r < 5
          · rw [if_pos k5, xb_neg (fun z => ?_)]
            rcases z.2 with z | z | z
            · exact k0 z
            · exact k3 z
            · have k4 : wK S r = 4 := by omega
              have := ((hO.1.2.1 r hr).2.2.2.2.2.2.2.1 k4).2.1.2.2
              rw [z.2, Int.toNat_natCast] at this
              omega
          · rw [if_neg k5]
            by_cases w : w2 S r = (t : Int)
            · rw [if_pos w, xb_pos ⟨s1, Or.inr (Or.inr ⟨by omega, w⟩)⟩]
            · rw [if_neg w, xb_neg (fun z => by rcases z.2 with z | z | z; exact k0 z; exact k3 z; exact w z.2)]
theorem m_dayBehind (hO : OK S) (hM : MS σ S) (ht : isT S (t : Int)) (d : Int) : f_X11_dayBehind σ (t : Int) d = some (σ, nxD S t d) := by
  have hn := hO.1.n
  unfold f_X11_dayBehind f_X11_dayBehind_l6
  refine it_T (γ := Nat) _ _ (fun (g : xm_Mem → Int → Int → Int → Int → Option xm_Out) i => g σ (t : Int) d (mnx (fun r => hap S t r ∧ d < wD S r) (wD S) 100000 i) (i : Int)) (fun i => i ≤ sn S) (fun i => sn S - i) (fun z => z = some (σ, nxD S t d)) ?_ xm_fuel 0 (Nat.zero_le _) (xfu (by show sn S - 0 < _; omega))
  intro self i hi ih
  show f_X11_dayBehind_b6 self σ (t : Int) d (mnx (fun r => hap S t r ∧ d < wD S r) (wD S) 100000 i) (i : Int) = _
  unfold f_X11_dayBehind_b6
  rw [hM.1]
  by_cases h : i < sn S
  · obtain ⟨a1, a2, a3, a4, a5, a6, a7⟩ := hM.2.2.2.1 i h
    have hg : 0 ≤ (i : Int) ∧ (i : Int) < 200 := ⟨by omega, by omega⟩
    have nx := ih (i + 1) h (by omega)
    rw [if_pos (by omega), m_happens hO hM ht h, Option.bind_some]
    try dsimp only
    rw [xbi, xw1 (by omega)]
    by_cases hp : hap S t i
    · rw [if_pos hp, if_pos hg, Int.toNat_natCast, a2]
      by_cases dd : d < wD S i
      · rw [if_pos dd, if_pos hg, xvl]
        have e : xm_min (mnx (fun r => hap S t r ∧ d < wD S r) (wD S) 100000 i) (wD S i) = mnx (fun r => hap S t r ∧ d < wD S r) (wD S) 100000 (i + 1) := by
          rw [mnx_succ]
          unfold xm_min
          by_cases q : wD S i < mnx (fun r => hap S t r ∧ d < wD S r) (wD S) 100000 i
          · rw [if_pos q, if_pos ⟨⟨hp, dd⟩, q⟩]
          · rw [if_neg q, if_neg (fun z => q z.2)]
        rw [e]; exact nx
      · rw [if_neg dd]
        rw [mnx_no (P := fun r => hap S t r ∧ d < wD S r) (fun z => dd z.2)] at nx
        exact nx
    · rw [if_neg hp]
      rw [mnx_no (P := fun r => hap S t r ∧ d < wD S r) (fun z => hp z.1)] at nx
      exact nx
  · rw [if_neg (by omega)]
    have e : i = sn S := by omega
    subst e
    rfl
/-- where a course stands ahead of its k-th day -/
noncomputable def bfr (S : xS) (A : Nat → Nat) (n : Nat) (m : Nat → Int64) (t : Nat) : Nat → xC
  | 0 => ((ow S t : Int), ow S t, oD S t)
  | k + 1 => (stp S A n m t k).2
theorem bfr_stp (k : Nat) : (stp S A n m t k).2 = dP S A n m t (bfr S A n m t k) (stp S A n m t k).1 := by
  cases k with
  | zero => rfl
  | succ k => rfl
theorem bfr_ok (hO : OK S) (hA : AGE S A n) (hm : BDY S A n m) (ht : isT S (t : Int)) (k : Nat) : isP S ((bfr S A n m t k).2.1 : Int) ∧ ((bfr S A n m t k).1 < 0 ∨ isP S (bfr S A n m t k).1) := by
  cases k with
  | zero => exact ⟨(ow_ok hO ht).1, Or.inr (ow_ok hO ht).1⟩
  | succ k => have := stp_ok hO hA hm ht k; exact ⟨this.1, this.2.1⟩
theorem stp_lt (hO : OK S) (k : Nat) (h : (stp S A n m t (k + 1)).1 ≤ 99999) : (stp S A n m t k).1 < (stp S A n m t (k + 1)).1 ∧ noev S t (stp S A n m t k).1 (stp S A n m t (k + 1)).1 := by
  obtain ⟨h1, h2, h3⟩ := nxD_spec (t := t) hO.1 (stp S A n m t k).1
  have e : (stp S A n m t (k + 1)).1 = nxD S t (stp S A n m t k).1 := rfl
  rw [e] at h ⊢
  refine ⟨?_, h3⟩
  rcases h2 with h2 | ⟨r, r1, r2, r3, r4⟩
  · omega
  · omega
/-- what the days' order gives: who was lost, and comes back -/
theorem bfr_lost (hO : OK S) (hA : AGE S A n) (hm : BDY S A n m) (ht : isT S (t : Int)) {k : Nat} (hk : (stp S A n m t k).1 ≤ 99999) : (¬ lostP S t (stp S A n m t k).1 → ¬ backP S t (stp S A n m t k).1 → (bfr S A n m t k).1 ≠ -3) ∧ (backP S t (stp S A n m t k).1 → 0 < k ∧ (bfr S A n m t k).1 = -3) := by
  cases k with
  | zero =>
    refine ⟨fun _ _ z => ?_, fun hb => ?_⟩
    · have z : ((ow S t : Nat) : Int) = -3 := z
      omega
    · have := back_own hO hb
      have this : wD S (stb S t) < oD S t := this
      unfold oD at this
      omega
  | succ k =>
    obtain ⟨l1, l2⟩ := stp_lt (A := A) (n := n) (m := m) (t := t) hO k hk
    have so := (stp_ok hO hA hm ht k).2.2
    refine ⟨fun nl nb z => ?_, fun hb => ⟨Nat.succ_pos k, so.mpr (back_lost hO l1 l2 hb)⟩⟩
    exact nb (lost_keep hO l1 l2 (so.mp z) nl)
/-- since when, as the reference tells it -/
theorem since_eq (hO : OK S) (hA : AGE S A n) (hm : BDY S A n m) (ht : isT S (t : Int)) {k : Nat} (hk : (stp S A n m t k).1 ≤ 99999) : (stp S A n m t k).2.2.2 = (if 0 < k then (if (stp S A n m t k).2.1 = (bfr S A n m t k).1 then (bfr S A n m t k).2.2 else (stp S A n m t k).1) else (stp S A n m t k).1) := by
  obtain ⟨b1, b2⟩ := bfr_lost hO hA hm ht hk
  have so := (stp_ok hO hA hm ht k).2.2
  have e := bfr_stp (S := S) (A := A) (n := n) (m := m) (t := t) k
  have e3 : (stp S A n m t k).2.2.2 = (dP S A n m t (bfr S A n m t k) (stp S A n m t k).1).2.2 := by rw [← e]
  have e1 : (stp S A n m t k).2.1 = (dP S A n m t (bfr S A n m t k) (stp S A n m t k).1).1 := by rw [← e]
  by_cases l : lostP S t (stp S A n m t k).1
  · have x3 := so.mpr l
    rw [e3]
    unfold dP
    rw [if_pos l]
    show (if (bfr S A n m t k).1 = -3 then (bfr S A n m t k).2.2 else (stp S A n m t k).1) = _
    rw [x3]
    cases k with
    | zero =>
      rw [if_neg (Nat.lt_irrefl _), if_neg]
      intro z
      have z : ((ow S t : Nat) : Int) = -3 := z
      omega
    | succ k =>
      rw [if_pos (Nat.succ_pos k)]
      by_cases c : (bfr S A n m t (k + 1)).1 = -3
      · rw [if_pos c, if_pos c.symm]
      · rw [if_neg c, if_neg (fun z => c z.symm)]
  · have n3 : (stp S A n m t k).2.1 ≠ -3 := fun z => l (so.mp z)
    have ed : (dP S A n m t (bfr S A n m t k) (stp S A n m t k).1).2.2 = if (dP S A n m t (bfr S A n m t k) (stp S A n m t k).1).1 = (bfr S A n m t k).1 then (dP1 S A n m t (bfr S A n m t k) (stp S A n m t k).1).2.2 else (stp S A n m t k).1 := by
      unfold dP
      rw [if_neg l]
    rw [e3, ed, ← e1]
    by_cases hb : backP S t (stp S A n m t k).1
    · obtain ⟨c1, c2⟩ := b2 hb
      rw [if_pos c1, if_neg (by rw [c2]; exact n3), if_neg (by rw [c2]; exact n3)]
    · have d1 : dP1 S A n m t (bfr S A n m t k) (stp S A n m t k).1 = bfr S A n m t k := by unfold dP1; rw [if_neg hb]
      rw [d1]
      cases k with
      | zero =>
        rw [if_neg (Nat.lt_irrefl 0)]
        show (if _ then oD S t else oD S t) = oD S t
        rw [ite_self]
      | succ k => rw [if_pos (Nat.succ_pos k)]
/-- gone through or not -/
def GI (σ : xm_Mem) (S : xS) (A : Nat → Nat) (n : Nat) (m : Nat → Int64) (t : Nat) : Prop := σ.1 95 t = 0 ∨ (σ.1 95 t = 1 ∧ σ.1 84 18 = 1 ∧ GO σ S A n m t)
theorem m_goThrough (hO : OK S) (hA : AGE S A n) (hm : BDY S A n m) (ht : isT S (t : Int)) (hM : MS σ S) (hR : RI σ S A n m) (hG : GI σ S A n m t) :
    ∃ σ', f_X11_goThrough σ (t : Int) = some (σ', 0) ∧ gx (zGo t) σ σ' ∧ (MS σ' S ∧ RI σ' S A n m) ∧ (σ'.1 95 t = 1 ∧ σ'.1 84 18 = 1) ∧ GO σ' S A n m t := by
  obtain ⟨t8, t2, t3, t4, t5, t6, t7⟩ := isT_t hO ht
  have how := ow_ok hO ht
  have hNS := NS_ok (A := A) (n := n) (m := m) hO ht
  have hg8 : 0 ≤ (t : Int) ∧ (t : Int) < 8 := ⟨by omega, by omega⟩
  unfold f_X11_goThrough
  rw [if_pos hg8, Int.toNat_natCast]
  rcases hG with hG | ⟨hG, hG18, hGO⟩
  · rw [if_pos hG, if_pos hg8, xst]
    have z0 : gx (zGo t) σ (xm_u1 σ 95 t 1) := (gx.rf _ _).u1 (Or.inl (Or.inr (Or.inl ⟨rfl, rfl⟩)))
    have y0 : gx (fun a k => a = 95 ∧ k = t) σ (xm_u1 σ 95 t 1) := (gx.rf _ _).u1 ⟨rfl, rfl⟩
    have hM0 := hM.gx z0 zGoM
    have hR0 : RI (xm_u1 σ 95 t 1) S A n m := by
      rcases hR with h | ⟨h1, h2⟩
      · exact Or.inl (by rw [xu11, if_neg (by omega)]; exact h)
      · exact Or.inr ⟨by rw [xu11, if_neg (by omega)]; exact h1, h2.gx y0 (fun a k z => by omega)⟩
    obtain ⟨σ1, a1, a2, a3, a4⟩ := m_reckon hO hM0 hA hm hR0
    have z1 : gx (zGo t) σ σ1 := z0.tr (a2.mono (fun a k z => Or.inl (Or.inl (Or.inl (Or.inl z)))))
    have hM1 := hM.gx z1 zGoM
    have f94 := hM1.2.2.2.2.2 t t2
    obtain ⟨b1, b2, b3, b4, b5, b6, b7⟩ := hM1.2.2.2.1 _ t3
    have hg2 : 0 ≤ ((stb S t : Nat) : Int) ∧ ((stb S t : Nat) : Int) < 200 := ⟨by omega, by omega⟩
    rw [a1, Option.bind_some]
    try dsimp only
    rw [if_pos hg8, f94, xvl, if_pos hg2, Int.toNat_natCast, b2, xvl, if_pos hg8, xvl, if_pos hg2, Int.toNat_natCast, b3, xst]
    have e30 : (xm_u1 σ1 84 30 (w1 S (stb S t))).1 84 30 = w1 S (stb S t) := by rw [xu11, if_pos ⟨rfl, rfl⟩]
    rw [e30, xst, ← how.2.1]
    generalize hτ : xm_u1 (xm_u1 σ1 84 30 (ow S t : Int)) 84 31 (ow S t : Int) = τ
    have w1' : gx (fun a k => a = 84 ∧ (k = 30 ∨ k = 31)) σ1 τ := by rw [← hτ]; exact ((gx.rf _ _).u1 ⟨rfl, Or.inl rfl⟩).u1 ⟨rfl, Or.inr rfl⟩
    have z2 : gx (zGo t) σ τ := z1.tr (w1'.mono (fun a k z => Or.inl (Or.inl (Or.inr (Or.inl (by omega))))))
    have q0 : MY τ S A n m (ow S t : Int) (ow S t) := ⟨⟨hM1.gx w1' (fun a k z => by omega), by rw [w1'.1 84 18 (by omega)]; exact a3, roQ a4 w1' (fun a k z => by omega)⟩, by rw [← hτ]; simp [xu11], by rw [← hτ]; simp [xu11]⟩
    have e95 : τ.1 95 t = 1 := by
      rw [w1'.1 95 t (by omega), a2.1 95 t (by unfold zR; omega), xu11, if_pos ⟨rfl, rfl⟩]
    unfold f_X11_goThrough_l61
    refine it_T (γ := xm_Mem × Nat) _ _ (fun (g : xm_Mem → Int → Int → Int → Int → Option xm_Out) a => g a.1 (t : Int) (stp S A n m t a.2).1 (bfr S A n m t a.2).2.2 (a.2 : Int)) (fun a => a.2 ≤ NS S A n m t ∧ gx (zGo t) σ a.1 ∧ a.1.1 95 t = 1 ∧ MY a.1 S A n m (bfr S A n m t a.2).1 (bfr S A n m t a.2).2.1 ∧ ∀ k, k < a.2 → a.1.1 105 (200 * t + k) = (stp S A n m t k).1 ∧ a.1.1 106 (200 * t + k) = (stp S A n m t k).2.1 ∧ a.1.1 107 (200 * t + k) = ((stp S A n m t k).2.2.1 : Int) ∧ a.1.1 108 (200 * t + k) = (stp S A n m t k).2.2.2) (fun a => NS S A n m t - a.2) (fun z => ∃ σ', z = some (σ', 0) ∧ gx (zGo t) σ σ' ∧ (MS σ' S ∧ RI σ' S A n m) ∧ (σ'.1 95 t = 1 ∧ σ'.1 84 18 = 1) ∧ GO σ' S A n m t) ?_ xm_fuel (τ, 0) ⟨Nat.zero_le _, z2, e95, q0, fun k h => absurd h (Nat.not_lt_zero _)⟩ (xfu (by show NS S A n m t - 0 < _; omega))
    rintro self ⟨τ, K⟩ ⟨hK, hz, h95, hq, hnote⟩ ih
    replace hK : K ≤ NS S A n m t := hK
    replace hz : gx (zGo t) σ τ := hz
    replace h95 : τ.1 95 t = 1 := h95
    replace hq : MY τ S A n m (bfr S A n m t K).1 (bfr S A n m t K).2.1 := hq
    replace hnote : ∀ k, k < K → τ.1 105 (200 * t + k) = (stp S A n m t k).1 ∧ τ.1 106 (200 * t + k) = (stp S A n m t k).2.1 ∧ τ.1 107 (200 * t + k) = ((stp S A n m t k).2.2.1 : Int) ∧ τ.1 108 (200 * t + k) = (stp S A n m t k).2.2.2 := hnote
    show ∃ σ', f_X11_goThrough_b61 _ self τ (t : Int) (stp S A n m t K).1 (bfr S A n m t K).2.2 (K : Int) = _ ∧ _
    unfold f_X11_goThrough_b61
    by_cases h : K < NS S A n m t
    · have hle := hNS.2.2.1 K h
      have bo := bfr_ok hO hA hm ht K
      obtain ⟨τ1, c1, c2, c3⟩ := m_oneDay hO hA hm ht (d := (stp S A n m t K).1) hq bo.1 bo.2 (bfr_lost hO hA hm ht hle).1
      rw [← bfr_stp] at c3
      have se := since_eq hO hA hm ht hle
      rw [if_neg (by omega), hq.2.1, xvl, c1, Option.bind_some]
      try dsimp only
      rw [c3.2.1]
      -- the note
      have j99 : ∀ v : Int, v = (stp S A n m t K).2.2.2 → ∃ σ', f_X11_goThrough_j99 self τ1 v (t : Int) (stp S A n m t K).1 (K : Int) = some (σ', 0) ∧ gx (zGo t) σ σ' ∧ (MS σ' S ∧ RI σ' S A n m) ∧ (σ'.1 95 t = 1 ∧ σ'.1 84 18 = 1) ∧ GO σ' S A n m t := by
        intro v hv
        unfold f_X11_goThrough_j99
        have ei : xm_w (xm_w (200 * (t : Int)) + (K : Int)) = ((200 * t + K : Nat) : Int) := by
          rw [xp_w (x := 200 * (t : Int)) (by omega) (by omega), xp_w (by omega) (by omega)]; omega
        have gi : 0 ≤ ((200 * t + K : Nat) : Int) ∧ ((200 * t + K : Nat) : Int) < 1600 := ⟨by omega, by omega⟩
        rw [ei, xvl, if_pos gi, xst, if_pos gi, xst, if_pos gi, xst, if_pos gi, xst, Int.toNat_natCast]
        have r30 : (xm_u1 τ1 105 (200 * t + K) (stp S A n m t K).1).1 84 30 = (stp S A n m t K).2.1 := by rw [xu11, if_neg (by omega)]; exact c3.2.1
        rw [r30]
        have r31 : (xm_u1 (xm_u1 τ1 105 (200 * t + K) (stp S A n m t K).1) 106 (200 * t + K) (stp S A n m t K).2.1).1 84 31 = ((stp S A n m t K).2.2.1 : Int) := by rw [xu11, if_neg (by omega), xu11, if_neg (by omega)]; exact c3.2.2
        rw [r31]
        generalize hτ4 : xm_u1 (xm_u1 (xm_u1 (xm_u1 τ1 105 (200 * t + K) (stp S A n m t K).1) 106 (200 * t + K) (stp S A n m t K).2.1) 107 (200 * t + K) ((stp S A n m t K).2.2.1 : Int)) 108 (200 * t + K) v = τ4
        have w4 : gx (fun a k => 105 ≤ a ∧ a ≤ 108 ∧ k = 200 * t + K) τ1 τ4 := by rw [← hτ4]; exact ((((gx.rf _ _).u1 (by omega)).u1 (by omega)).u1 (by omega)).u1 (by omega)
        have z4 : gx (zGo t) σ τ4 := (hz.tr (c2.mono (fun a k z => Or.inl (Or.inl z)))).tr (w4.mono (fun a k z => Or.inr (by omega)))
        have hM4 := hM.gx z4 zGoM
        rw [m_dayBehind hO hM4 ht, Option.bind_some]
        try dsimp only
        rw [xw1 (by omega)]
        have q4 : MY τ4 S A n m (stp S A n m t K).2.1 (stp S A n m t K).2.2.1 := ⟨⟨hM4, by rw [w4.1 84 18 (by omega)]; exact c3.1.2.1, roQ c3.1.2.2 w4 (fun a k z => by omega)⟩, by rw [w4.1 84 30 (by omega)]; exact c3.2.1, by rw [w4.1 84 31 (by omega)]; exact c3.2.2⟩
        rw [hv]
        refine ih (τ4, K + 1) ⟨h, z4, ?_, q4, fun k hk => ?_⟩ (by show NS S A n m t - (K + 1) < NS S A n m t - K; omega)
        · show τ4.1 95 t = 1
          rw [w4.1 95 t (by omega), c2.1 95 t (by unfold zMq zLn zR; omega)]; exact h95
        · have hk : k < K + 1 := hk
          show τ4.1 105 (200 * t + k) = _ ∧ τ4.1 106 (200 * t + k) = _ ∧ τ4.1 107 (200 * t + k) = _ ∧ τ4.1 108 (200 * t + k) = _
          by_cases ek : k = K
          · subst ek
            rw [← hτ4]
            refine ⟨?_, ?_, ?_, ?_⟩
            · rw [xu11, if_neg (by omega), xu11, if_neg (by omega), xu11, if_neg (by omega), xu11, if_pos ⟨rfl, rfl⟩]
            · rw [xu11, if_neg (by omega), xu11, if_neg (by omega), xu11, if_pos ⟨rfl, rfl⟩]
            · rw [xu11, if_neg (by omega), xu11, if_pos ⟨rfl, rfl⟩]
            · rw [xu11, if_pos ⟨rfl, rfl⟩]; exact hv
          · have o : ∀ a, 105 ≤ a → a ≤ 108 → τ4.1 a (200 * t + k) = τ.1 a (200 * t + k) := fun a h1 h2 => by
              rw [w4.1 a _ (by omega), c2.1 a _ (by unfold zMq zLn zR; omega)]
            rw [o 105 (by omega) (by omega), o 106 (by omega) (by omega), o 107 (by omega) (by omega), o 108 (by omega) (by omega)]
            exact hnote k (by omega)
      unfold f_X11_goThrough_j98
      by_cases k0 : 0 < K
      · rw [if_pos k0] at se
        rw [if_pos (by omega)]
        by_cases c : (stp S A n m t K).2.1 = (bfr S A n m t K).1
        · rw [if_pos c] at se
          rw [if_pos c]; exact j99 _ se.symm
        · rw [if_neg c] at se
          rw [if_neg c]; exact j99 _ se.symm
      · rw [if_neg k0] at se
        rw [if_neg (by omega)]; exact j99 _ se.symm
    · have eK : K = NS S A n m t := by omega
      rw [if_pos (by rw [eK]; exact hNS.2.1)]
      try dsimp only
      rw [if_pos hg8, xst, Int.toNat_natCast]
      have w5 : gx (fun a k => a = 104 ∧ k = t) τ (xm_u1 τ 104 t (K : Int)) := (gx.rf _ _).u1 ⟨rfl, rfl⟩
      have z5 : gx (zGo t) σ (xm_u1 τ 104 t (K : Int)) := hz.tr (w5.mono (fun a k z => Or.inl (Or.inr (Or.inr z))))
      refine ⟨_, rfl, z5, ⟨hM.gx z5 zGoM, Or.inr ⟨by rw [w5.1 84 18 (by omega)]; exact hq.1.2.1, roQ hq.1.2.2 w5 (fun a k z => by omega)⟩⟩, ⟨by rw [w5.1 95 t (by omega)]; exact h95, by rw [w5.1 84 18 (by omega)]; exact hq.1.2.1⟩, by rw [xu11, if_pos ⟨rfl, rfl⟩, eK], fun k hk => ?_⟩
      rw [w5.1 105 _ (by omega), w5.1 106 _ (by omega), w5.1 107 _ (by omega), w5.1 108 _ (by omega)]
      exact hnote k (by omega)
  · rw [if_neg (by omega)]
    exact ⟨σ, rfl, gx.rf _ _, ⟨hM, hR⟩, ⟨hG, hG18⟩, hGO⟩
end XM
