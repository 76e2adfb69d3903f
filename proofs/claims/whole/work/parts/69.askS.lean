/-! ===== tenure and holds ===== -/
theorem cn_back {P : Nat → Prop} : ∀ i, 0 < cn P i → ∃ j, j < i ∧ P j ∧ cn P j + 1 = cn P i := by
  intro i
  induction i with
  | zero => intro h; exact absurd h (Nat.lt_irrefl _)
  | succ i ih =>
    intro h
    by_cases c : P i
    · exact ⟨i, Nat.lt_succ_self i, c, by rw [cn_yes c]⟩
    · rw [cn_no c] at h ⊢
      obtain ⟨j, j1, j2, j3⟩ := ih h
      exact ⟨j, by omega, j2, j3⟩
theorem cn_pos {P : Nat → Prop} (h0 : P 0) : ∀ i, 0 < i → 0 < cn P i := by
  intro i
  induction i with
  | zero => intro h; exact absurd h (Nat.lt_irrefl _)
  | succ i ih =>
    intro _
    by_cases c : P i
    · rw [cn_yes c]; exact Nat.succ_pos _
    · rw [cn_no c]
      refine ih ?_
      cases i with
      | zero => exact absurd h0 c
      | succ i => exact Nat.succ_pos i
section XG
variable {σ σ1 τ τ1 : xm_Mem} {S : xS} {A : Nat → Nat} {n : Nat} {m : Nat → Int64} {t : Nat} {e : Nat → Nat}
/-- the index of a tenure that is looked for, as the reference holds it on the way -/
noncomputable def tIx (t F i : Nat) : Int := if F < i then 200 * (t : Int) + F else -1
theorem ref_ten (hU : PU S A n m) (ht : isT S (t : Int)) (hG : GO τ1 S A n m t) (x y : Int) (K : xm_Mem → Int → Int → Option xm_Out) : f_X11_tenure_l28 K xm_fuel τ1 (t : Int) x y (-1) (-1) 0 = K τ1 y (tIx t (tenK S A n m t x) (NS S A n m t)) := by
  have hNS := NS_ok (A := A) (n := n) (m := m) hU.1 ht
  have t8 := (isT_t hU.1 ht).1
  obtain ⟨f1, f2, f3⟩ := fsx_spec (fun k => bgn S A n m t k ∧ (cn (bgn S A n m t) k : Int) = x) (NS S A n m t)
  have hF : tenK S A n m t x = fsx (fun k => bgn S A n m t k ∧ (cn (bgn S A n m t) k : Int) = x) (NS S A n m t) := rfl
  rw [← hF] at f1 f2 f3
  generalize tenK S A n m t x = F at f1 f2 f3
  unfold f_X11_tenure_l28
  refine it_T (γ := (Int × Int) × Nat) _ _ (fun (g : xm_Mem → Int → Int → Int → Int → Int → Int → Option xm_Out) a => g τ1 (t : Int) x y a.1.1 a.1.2 (a.2 : Int)) (fun a => a.2 ≤ NS S A n m t ∧ a.1.1 = (cn (bgn S A n m t) a.2 : Int) - 1 ∧ a.1.2 = tIx t F a.2) (fun a => NS S A n m t - a.2) (fun z => z = K τ1 y (tIx t F (NS S A n m t))) ?_ xm_fuel ((-1, -1), 0) ⟨Nat.zero_le _, rfl, (if_neg (Nat.not_lt_zero _)).symm⟩ (xfu (by show NS S A n m t - 0 < _; omega))
  rintro self ⟨⟨c, v⟩, i⟩ ⟨hi, hc, hv⟩ ih
  replace hi : i ≤ NS S A n m t := hi
  replace hc : c = (cn (bgn S A n m t) i : Int) - 1 := hc
  replace hv : v = tIx t F i := hv
  show f_X11_tenure_b28 K self τ1 (t : Int) x y c v (i : Int) = _
  unfold f_X11_tenure_b28
  have hcn := cn_le (bgn S A n m t) i
  rw [if_pos ⟨by omega, by omega⟩, Int.toNat_natCast, hG.1]
  by_cases h : i < NS S A n m t
  · have le := hNS.2.2.1 0 hNS.2.2.2
    have b0 := bgn_zero hU ht le
    rw [if_pos (by omega), m_begins hU ht hG h, Option.bind_some]
    try dsimp only
    rw [xbi]
    have nx : ∀ c' v', c' = (cn (bgn S A n m t) (i + 1) : Int) - 1 → v' = tIx t F (i + 1) → self τ1 (t : Int) x y c' v' (xm_w ((i : Int) + 1)) = K τ1 y (tIx t F (NS S A n m t)) := by
      intro c' v' e1 e2
      rw [xw1 (by omega)]
      exact ih ((c', v'), i + 1) ⟨h, e1, e2⟩ (by show NS S A n m t - (i + 1) < NS S A n m t - i; omega)
    have vneg : v < 0 ↔ ¬ F < i := by
      rw [hv]; unfold tIx
      by_cases z : F < i
      · rw [if_pos z]; omega
      · rw [if_neg z]; omega
    have keep : (F < i ∨ F ≠ i) → v = tIx t F (i + 1) := by
      intro z
      rw [hv]; unfold tIx
      by_cases z1 : F < i
      · rw [if_pos z1, if_pos (by omega)]
      · rw [if_neg z1, if_neg (by omega)]
    by_cases b : bgn S A n m t i
    · have e1 : xm_w (c + 1) = (cn (bgn S A n m t) (i + 1) : Int) - 1 := by rw [hc, xp_w (by omega) (by omega), cn_yes (P := bgn S A n m t) b]; omega
      rw [if_pos b]
      unfold f_X11_tenure_j56
      rw [e1, xvl]
      by_cases q : (cn (bgn S A n m t) (i + 1) : Int) - 1 = x
      · rw [if_pos q]
        have q' : (cn (bgn S A n m t) i : Int) = x := by rw [cn_yes (P := bgn S A n m t) b] at q; omega
        by_cases z : v < 0
        · have eF : F = i := by
            rcases Nat.lt_trichotomy F i with y | y | y
            · exact absurd y (vneg.mp z)
            · exact y
            · exact absurd ⟨b, q'⟩ (f3 i y)
          rw [if_pos z]
          have e2 : xm_w (xm_w (200 * (t : Int)) + (i : Int)) = 200 * (t : Int) + i := by
            rw [xp_w (x := 200 * (t : Int)) (by omega) (by omega), xp_w (by omega) (by omega)]
          rw [e2, xvl]
          exact nx _ _ rfl (by unfold tIx; rw [if_pos (by omega), eF])
        · rw [if_neg z]
          exact nx _ _ rfl (keep (Or.inl (Decidable.not_not.mp (fun y => z (vneg.mpr y)))))
      · rw [if_neg q]
        refine nx _ _ rfl (keep ?_)
        by_cases y : F = i
        · subst y
          have := (f2 h).2
          rw [cn_yes (P := bgn S A n m t) b] at q
          omega
        · exact Or.inr y
    · have e1 : xm_w (c + 0) = (cn (bgn S A n m t) (i + 1) : Int) - 1 := by rw [hc, xp_w (by omega) (by omega), cn_no (P := bgn S A n m t) b]; omega
      have i0 : 0 < i := by
        cases i with
        | zero => exact absurd b0 b
        | succ i => exact Nat.succ_pos i
      have nF : F ≠ i := fun y => by subst y; exact b (f2 h).1
      rw [if_neg b]
      unfold f_X11_tenure_j56
      rw [e1, xvl]
      by_cases q : (cn (bgn S A n m t) (i + 1) : Int) - 1 = x
      · rw [if_pos q]
        obtain ⟨j, j1, j2, j3⟩ := cn_back i (cn_pos b0 i i0)
        have q' : (cn (bgn S A n m t) j : Int) = x := by rw [cn_no (P := bgn S A n m t) b] at q; omega
        have z : F < i := by
          rcases Nat.lt_or_ge j F with y | y
          · exact absurd ⟨j2, q'⟩ (f3 j y)
          · omega
        rw [if_neg (fun y => vneg.mp y z)]
        exact nx _ _ rfl (keep (Or.inl z))
      · rw [if_neg q]
        exact nx _ _ rfl (keep (Or.inr nF))
  · rw [if_neg (by omega)]
    have ei : i = NS S A n m t := by omega
    subst ei
    rw [hv]
theorem q_tenure (hU : PU S A n m) (hC : CI σ S A n m e) (hM : MI τ S A n m) (x u y : Int) : ∃ a w, QA σ S A n m e (f_X10_tenure σ x u y) a w ∧ QB τ S A n m (f_X11_tenure τ x u y) a w := by
  unfold f_X10_tenure f_X11_tenure
  rw [r7_hasTitle hU.1.1 hC.1, Option.bind_some, m_isTitle hU.1.1 hM.1, Option.bind_some]
  try dsimp only
  by_cases ht : isT S x
  · rw [xb_pos ht]
    simp only [if_neg (show ¬ (1 : Int) = 0 by decide)]
    obtain ⟨t, rfl⟩ := Int.eq_ofNat_of_zero_le ht.1
    obtain ⟨σ1, a1, a2, a3, a4⟩ := hC.co hU ht
    obtain ⟨τ1, b1, b2, b3, b4, b18⟩ := mi_go hU hM ht
    have hNS := NS_ok (A := A) (n := n) (m := m) hU.1 ht
    have t8 := (isT_t hU.1 ht).1
    have g2 := a2.mono zQ1_mono
    rw [a1, Option.bind_some]
    try dsimp only
    rw [Int.toNat_natCast, c_stepOfTenure hU.1 ht a4, Option.bind_some]
    try dsimp only
    rw [b1, Option.bind_some]
    try dsimp only
    rw [ref_ten hU ht b4]
    generalize tenK S A n m t u = F
    by_cases hF : F < NS S A n m t
    · have eI : tIx t F (NS S A n m t) = ((200 * t + F : Nat) : Int) := by unfold tIx; rw [if_pos hF]; omega
      have gi : 0 ≤ ((200 * t + F : Nat) : Int) ∧ ((200 * t + F : Nat) : Int) < 1600 := ⟨by omega, by omega⟩
      have gF : 0 ≤ (F : Int) ∧ (F : Int) < (NS S A n m t : Int) := ⟨by omega, by omega⟩
      obtain ⟨v1, v2, v3, v4⟩ := b4.2 F hF
      rw [eI, if_pos hF, if_neg (show ¬ (F : Int) = -1 by omega)]
      by_cases y0 : y = 0
      · refine ⟨(stp S A n m t F).2.1, 0, ?_, ?_⟩
        · rw [if_pos y0, c_state hU.1 ht a4, Option.bind_some]
          try dsimp only
          rw [if_pos gF, Int.toNat_natCast]
          exact qa_acc hU.1 a3 g2 _
        · rw [if_pos y0]
          unfold f_X11_tenure_j110
          rw [if_neg (show ¬ ((200 * t + F : Nat) : Int) < 0 by omega), if_pos y0, if_pos gi, Int.toNat_natCast, v2]
          exact qb_fine hU.1 b3 b2 _
      · by_cases y1 : y = 1
        · refine ⟨(stp S A n m t F).2.2.2, 0, ?_, ?_⟩
          · rw [if_neg y0, if_pos y1, c_firstDay hU.1 ht a4, Option.bind_some]
            try dsimp only
            rw [if_pos gF, Int.toNat_natCast]
            exact qa_acc hU.1 a3 g2 _
          · rw [if_neg y0, if_pos y1]
            unfold f_X11_tenure_j110
            rw [if_neg (show ¬ ((200 * t + F : Nat) : Int) < 0 by omega), if_neg y0, if_pos gi, Int.toNat_natCast, v4]
            exact qb_fine hU.1 b3 b2 _
        · refine ⟨-9, 3, ?_, ?_⟩
          · rw [if_neg y0, if_neg y1]
            exact qa_ref hU.1 a3 g2 _
          · rw [if_neg y0, if_neg y1]
            unfold f_X11_tenureWhy
            rw [if_neg (show ¬ ((200 * t + F : Nat) : Int) < 0 by omega), Option.bind_some]
            exact qb_no hU.1 b3 b2 _
    · have eI : tIx t F (NS S A n m t) = -1 := by unfold tIx; rw [if_neg hF]
      rw [eI, if_neg hF, if_pos rfl]
      refine ⟨-9, 1, qa_ref hU.1 a3 g2 _, ?_⟩
      unfold f_X11_tenure_j110 f_X11_tenureWhy
      rw [if_pos (show (-1 : Int) < 0 by decide), if_pos (show (-1 : Int) < 0 by decide), Option.bind_some]
      (repeat' split) <;> exact qb_no hU.1 b3 b2 _
  · rw [xb_neg ht]
    simp only [if_pos (show (0 : Int) = 0 by rfl)]
    exact ⟨-9, 1, qa_ref hU.1 hC (gx.rf _ _) _, qb_no hU.1 hM (gx.rf _ _) _⟩
/-- a title that one holds -/
def hP (S : xS) (A : Nat → Nat) (n : Nat) (m : Nat → Int64) (p d : Int) (k : Nat) : Prop := isT S (k : Int) ∧ holdA S A n m k d = p
theorem q_holds (hU : PU S A n m) (hC : CI σ S A n m e) (hM : MI τ S A n m) (p d y : Int) : ∃ a w, QA σ S A n m e (f_X10_holds σ p d y) a w ∧ QB τ S A n m (f_X11_holds τ p d y) a w := by
  unfold f_X10_holds f_X11_holds
  rw [c_has hU.1.1 hC.2.2.1.1.1.1, Option.bind_some, m_isPerson hU.1.1 hM.1, Option.bind_some]
  try dsimp only
  by_cases hp : isP S p
  · rw [xb_pos hp]
    simp only [if_neg (show ¬ (1 : Int) = 0 by decide)]
    rw [c_isDay, Option.bind_some, m_isIn', Option.bind_some]
    try dsimp only
    by_cases hd : 0 ≤ d ∧ d ≤ 99999
    · rw [xb_pos hd]
      simp only [if_neg (show ¬ (1 : Int) = 0 by decide)]
      obtain ⟨f1, f2, f3⟩ := fsx_spec (fun k => hP S A n m p d k ∧ (cn (hP S A n m p d) k : Int) = y) 8
      generalize fsx (fun k => hP S A n m p d k ∧ (cn (hP S A n m p d) k : Int) = y) 8 = F at f1 f2 f3
      have s8 : stn S ≤ 8 := hU.1.1.1.2.2
      refine ⟨if F < 8 then (F : Int) else -9, if F < 8 then 0 else 1, ?_, ?_⟩
      · unfold f_X10_holds_l36
        refine it_T (γ := xm_Mem × Nat) _ _ (fun (g : xm_Mem → Int → Int → Int → Int → Int → Option xm_Out) a => g a.1 p d y (cn (hP S A n m p d) a.2 : Int) (a.2 : Int)) (fun a => a.2 ≤ F ∧ gx zQ1 σ a.1 ∧ CI a.1 S A n m e) (fun a => 8 - a.2) (fun z => QA σ S A n m e z (if F < 8 then (F : Int) else -9) (if F < 8 then 0 else 1)) ?_ xm_fuel (σ, 0) ⟨Nat.zero_le _, gx.rf _ _, hC⟩ (xfu (by show 8 - 0 < _; decide))
        rintro self ⟨σ0, i⟩ ⟨hi, hg, hI⟩ ih
        replace hi : i ≤ F := hi
        replace hg : gx zQ1 σ σ0 := hg
        replace hI : CI σ0 S A n m e := hI
        show QA σ S A n m e (f_X10_holds_b36 _ _ self σ0 p d y (cn (hP S A n m p d) i : Int) (i : Int)) _ _
        unfold f_X10_holds_b36
        have hcn := cn_le (hP S A n m p d) i
        by_cases h : i < 8
        · rw [if_pos (show (i : Int) < 8 by omega), r7_hasTitle hU.1.1 hI.1, Option.bind_some]
          try dsimp only
          rw [xbi]
          have nx : ∀ σ', gx zQ1 σ σ' → CI σ' S A n m e → i + 1 ≤ F → self σ' p d y (cn (hP S A n m p d) (i + 1) : Int) (xm_w ((i : Int) + 1)) = self σ' p d y (cn (hP S A n m p d) (i + 1) : Int) (((i + 1 : Nat)) : Int) ∧ QA σ S A n m e (self σ' p d y (cn (hP S A n m p d) (i + 1) : Int) (((i + 1 : Nat)) : Int)) (if F < 8 then (F : Int) else -9) (if F < 8 then 0 else 1) := fun σ' g1 g2 g3 => ⟨by rw [xw1 (by omega)], ih (σ', i + 1) ⟨g3, g1, g2⟩ (by show 8 - (i + 1) < 8 - i; omega)⟩
          have step : ¬ (hP S A n m p d i ∧ (cn (hP S A n m p d) i : Int) = y) → i + 1 ≤ F := by
            intro z
            by_cases q : F = i
            · subst q; exact absurd (f2 h) z
            · omega
          by_cases ht : isT S (i : Int)
          · rw [if_pos ht]
            obtain ⟨σ1, a1, a2, a3, a4⟩ := hI.co hU ht
            have g1 := hg.tr (a2.mono zQ1_mono)
            rw [a1, Option.bind_some]
            try dsimp only
            rw [Int.toNat_natCast, c_stepOn hU.1 ht a4, Option.bind_some]
            try dsimp only
            rw [c_state hU.1 ht a4, Option.bind_some]
            try dsimp only
            rw [holdA_eq]
            by_cases c : holdA S A n m i d = p
            · have b : hP S A n m p d i := ⟨ht, c⟩
              rw [if_pos c]
              by_cases q : (cn (hP S A n m p d) i : Int) = y
              · have eF : F = i := by
                  rcases Nat.lt_or_ge i F with z | z
                  · exact absurd ⟨b, q⟩ (f3 i z)
                  · omega
                rw [if_pos q, if_pos (by omega), if_pos (by omega), eF]
                exact qa_acc hU.1 a3 g1 _
              · obtain ⟨e1, e2⟩ := nx σ1 g1 a3 (step (fun z => q z.2))
                rw [if_neg q, xw1 (by omega), ← cn_yes (P := hP S A n m p d) b, e1]
                exact e2
            · obtain ⟨e1, e2⟩ := nx σ1 g1 a3 (step (fun z => c z.1.2))
              rw [cn_no (P := hP S A n m p d) (fun z => c z.2)] at e1 e2
              rw [if_neg c, e1]
              exact e2
          · obtain ⟨e1, e2⟩ := nx σ0 hg hI (step (fun z => ht z.1.1))
            rw [cn_no (P := hP S A n m p d) (fun z => ht z.1)] at e1 e2
            rw [if_neg ht, e1]
            exact e2
        · rw [if_neg (show ¬ (i : Int) < 8 by omega), if_neg (by omega), if_neg (by omega)]
          exact qa_ref hU.1 hI hg _
      · unfold f_X11_holds_l36
        refine it_T (γ := xm_Mem × Nat) _ _ (fun (g : xm_Mem → Int → Int → Int → Int → Int → Option xm_Out) a => g a.1 p d y (cn (hP S A n m p d) a.2 : Int) (a.2 : Int)) (fun a => (a.2 ≤ F ∧ a.2 ≤ stn S) ∧ gx zNQ τ a.1 ∧ MI a.1 S A n m) (fun a => 8 - a.2) (fun z => QB τ S A n m z (if F < 8 then (F : Int) else -9) (if F < 8 then 0 else 1)) ?_ xm_fuel (τ, 0) ⟨⟨Nat.zero_le _, Nat.zero_le _⟩, gx.rf _ _, hM⟩ (xfu (by show 8 - 0 < _; decide))
        rintro self ⟨σ0, i⟩ ⟨⟨hi, his⟩, hg, hI⟩ ih
        replace hi : i ≤ F := hi
        replace his : i ≤ stn S := his
        replace hg : gx zNQ τ σ0 := hg
        replace hI : MI σ0 S A n m := hI
        show QB τ S A n m (f_X11_holds_b36 _ _ self σ0 p d y (cn (hP S A n m p d) i : Int) (i : Int)) _ _
        unfold f_X11_holds_b36
        have hcn := cn_le (hP S A n m p d) i
        rw [hI.1.2.2.1]
        by_cases h : i < stn S
        · rw [if_pos (show (i : Int) < (stn S : Int) by omega), m_isTitle hU.1.1 hI.1, Option.bind_some]
          try dsimp only
          rw [xbi]
          have nx : ∀ σ', gx zNQ τ σ' → MI σ' S A n m → i + 1 ≤ F → self σ' p d y (cn (hP S A n m p d) (i + 1) : Int) (xm_w ((i : Int) + 1)) = self σ' p d y (cn (hP S A n m p d) (i + 1) : Int) (((i + 1 : Nat)) : Int) ∧ QB τ S A n m (self σ' p d y (cn (hP S A n m p d) (i + 1) : Int) (((i + 1 : Nat)) : Int)) (if F < 8 then (F : Int) else -9) (if F < 8 then 0 else 1) := fun σ' g1 g2 g3 => ⟨by rw [xw1 (by omega)], ih (σ', i + 1) ⟨⟨g3, h⟩, g1, g2⟩ (by show 8 - (i + 1) < 8 - i; omega)⟩
          have step : ¬ (hP S A n m p d i ∧ (cn (hP S A n m p d) i : Int) = y) → i + 1 ≤ F := by
            intro z
            by_cases q : F = i
            · subst q; exact absurd (f2 (by omega)) z
            · omega
          by_cases ht : isT S (i : Int)
          · rw [if_pos ht]
            obtain ⟨τ1, a1, a2, a3⟩ := m_stateOn hU hI ht d
            have g1 := hg.tr a2
            rw [a1, Option.bind_some]
            try dsimp only
            by_cases c : holdA S A n m i d = p
            · have b : hP S A n m p d i := ⟨ht, c⟩
              rw [if_pos c]
              by_cases q : (cn (hP S A n m p d) i : Int) = y
              · have eF : F = i := by
                  rcases Nat.lt_or_ge i F with z | z
                  · exact absurd ⟨b, q⟩ (f3 i z)
                  · omega
                rw [if_pos q, if_pos (by omega), if_pos (by omega), eF]
                exact qb_fine hU.1 a3 g1 _
              · obtain ⟨e1, e2⟩ := nx τ1 g1 a3 (step (fun z => q z.2))
                rw [if_neg q, xw1 (by omega), ← cn_yes (P := hP S A n m p d) b, e1]
                exact e2
            · obtain ⟨e1, e2⟩ := nx τ1 g1 a3 (step (fun z => c z.1.2))
              rw [cn_no (P := hP S A n m p d) (fun z => c z.2)] at e1 e2
              rw [if_neg c, e1]
              exact e2
          · obtain ⟨e1, e2⟩ := nx σ0 hg hI (step (fun z => ht z.1.1))
            rw [cn_no (P := hP S A n m p d) (fun z => ht z.1)] at e1 e2
            rw [if_neg ht, e1]
            exact e2
        · have nF : ¬ F < 8 := fun z => by
            have := (f2 z).1.1.2.1
            omega
          rw [if_neg (show ¬ (i : Int) < (stn S : Int) by omega), if_neg nF, if_neg nF]
          exact qb_no hU.1 hI hg _
    · rw [xb_neg hd]
      simp only [if_pos (show (0 : Int) = 0 by rfl)]
      exact ⟨-9, 3, qa_ref hU.1 hC (gx.rf _ _) _, qb_no hU.1 hM (gx.rf _ _) _⟩
  · rw [xb_neg hp]
    simp only [if_pos (show (0 : Int) = 0 by rfl)]
    exact ⟨-9, 1, qa_ref hU.1 hC (gx.rf _ _) _, qb_no hU.1 hM (gx.rf _ _) _⟩
end XG
