/-! ===== rank, coheir, tenures, tenure, holds ===== -/
section XG
variable {σ σ1 τ τ1 : xm_Mem} {S : xS} {A : Nat → Nat} {n : Nat} {m : Nat → Int64} {t : Nat} {e : Nat → Nat}
theorem dscN_len (hn : n ≤ 64) (L : List Nat) : ∀ k p, (dscN S A n m L k p).2.length ≤ 64 := by
  intro k
  induction k with
  | zero => intro p; exact Nat.zero_le _
  | succ k ih =>
    intro p
    unfold dscN
    split
    · exact Nat.zero_le _
    · split
      · split
        · exact Nat.le_trans (dfold_len m L A (fun c => dc (isCh S p c ∧ ¬ wMale S c)) n) hn
        · exact ih _
      · exact ih _
theorem cohA_len (hU : PU S A n m) (d : Int) : (cohA S A n m t d).length ≤ 64 := by
  unfold cohA
  split
  · unfold psC
    split
    · exact Nat.zero_le _
    · split
      · exact dscN_len hU.2.1.1 _ _ _
      · exact Nat.zero_le _
  · exact Nat.zero_le _
theorem q_rank (hU : PU S A n m) (hC : CI σ S A n m e) (hM : MI τ S A n m) (x p d : Int) : ∃ a w, QA σ S A n m e (f_X10_rank σ x p d) a w ∧ QB τ S A n m (f_X11_rank τ x p d) a w := by
  unfold f_X10_rank f_X11_rank
  rw [r7_hasTitle hU.1.1 hC.1, Option.bind_some, m_isTitle hU.1.1 hM.1, Option.bind_some]
  try dsimp only
  by_cases ht : isT S x
  · rw [xb_pos ht]
    simp only [if_neg (show ¬ (1 : Int) = 0 by decide)]
    rw [c_has hU.1.1 hC.2.2.1.1.1.1, Option.bind_some, m_isPerson hU.1.1 hM.1, Option.bind_some]
    try dsimp only
    obtain ⟨t, rfl⟩ := Int.eq_ofNat_of_zero_le ht.1
    by_cases hp : isP S p
    · rw [xb_pos hp]
      simp only [if_neg (show ¬ (1 : Int) = 0 by decide)]
      rw [c_isDay, Option.bind_some, m_isIn', Option.bind_some]
      try dsimp only
      by_cases hd : 0 ≤ d ∧ d ≤ 99999
      · rw [xb_pos hd]
        simp only [if_neg (show ¬ (1 : Int) = 0 by decide)]
        obtain ⟨σ1, a1, a2, a3, a4⟩ := hC.co hU ht
        obtain ⟨σ2, c1, c2, c3, c4⟩ := c_lineUp hU a3 ht a4 hd
        obtain ⟨τ1, b1, b2, b3, b4⟩ := m_lineOn hU hM ht d
        have hl := lineA_len (A := A) (n := n) (m := m) hU ht d
        rw [a1, Option.bind_some]
        try dsimp only
        rw [Int.toNat_natCast, c1, Option.bind_some]
        try dsimp only
        rw [c_placeOf c4 hl, Option.bind_some, b1, Option.bind_some]
        try dsimp only
        rw [m_placeOf b4 hl, Option.bind_some]
        exact ⟨_, 0, qa_acc hU.1 c3 ((a2.tr c2).mono zQ1_mono) _, qb_fine hU.1 b3 b2 _⟩
      · rw [xb_neg hd]
        simp only [if_pos (show (0 : Int) = 0 by rfl)]
        exact ⟨-9, 3, qa_ref hU.1 hC (gx.rf _ _) _, qb_no hU.1 hM (gx.rf _ _) _⟩
    · rw [xb_neg hp]
      simp only [if_pos (show (0 : Int) = 0 by rfl)]
      exact ⟨-9, 1, qa_ref hU.1 hC (gx.rf _ _) _, qb_no hU.1 hM (gx.rf _ _) _⟩
  · rw [xb_neg ht]
    simp only [if_pos (show (0 : Int) = 0 by rfl)]
    exact ⟨-9, 1, qa_ref hU.1 hC (gx.rf _ _) _, qb_no hU.1 hM (gx.rf _ _) _⟩
theorem cls_coh (hU : PU S A n m) (hC : CI σ S A n m e) (ht : isT S (t : Int)) {d : Int} (hd : 0 ≤ d ∧ d ≤ 99999) (y : Int) : (0 ≤ y ∧ y < ((cohA S A n m t d).length : Int) → QA σ S A n m e (f_X10_coheir σ (t : Int) d y) (((cohA S A n m t d).getD y.toNat 0 : Nat) : Int) 0) ∧ (¬ (0 ≤ y ∧ y < ((cohA S A n m t d).length : Int)) → QA σ S A n m e (f_X10_coheir σ (t : Int) d y) (-9) 1) := by
  unfold f_X10_coheir
  rw [r7_hasTitle hU.1.1 hC.1, Option.bind_some]
  try dsimp only
  rw [xb_pos ht]
  simp only [if_neg (show ¬ (1 : Int) = 0 by decide)]
  rw [c_isDay, Option.bind_some]
  try dsimp only
  rw [xb_pos hd]
  simp only [if_neg (show ¬ (1 : Int) = 0 by decide)]
  obtain ⟨σ1, a1, a2, a3, a4⟩ := hC.co hU ht
  obtain ⟨σ2, c1, c2, c3, c4⟩ := c_findCoheirs hU a3 ht a4 d
  have hl := cohA_len (t := t) hU d
  have g2 := (a2.tr c2).mono zQ1_mono
  rw [a1, Option.bind_some]
  try dsimp only
  rw [Int.toNat_natCast, c1, Option.bind_some]
  try dsimp only
  constructor
  · intro hy
    obtain ⟨j, rfl⟩ := Int.eq_ofNat_of_zero_le hy.1
    obtain ⟨v1, v2⟩ := c4 (by omega)
    have v := v2 j (by omega)
    rw [Nat.zero_add] at v
    rw [if_neg (by omega), if_pos hy.2]
    unfold f_X4_heir
    rw [if_neg (by omega), v1, if_pos hy.2, if_pos ⟨by omega, by omega⟩, Option.bind_some]
    try dsimp only
    rw [Int.toNat_natCast, v]
    exact qa_acc hU.1 c3 g2 _
  · intro hy
    by_cases y0 : y < 0
    · rw [if_pos y0]
      exact qa_ref hU.1 c3 g2 _
    · rw [if_neg y0, if_neg (by omega)]
      exact qa_ref hU.1 c3 g2 _
theorem ref_coh (hU : PU S A n m) (hM : MI τ S A n m) (ht : isT S (t : Int)) {d : Int} (hd : 0 ≤ d ∧ d ≤ 99999) (y : Int) : (0 ≤ y ∧ y < ((cohA S A n m t d).length : Int) → QB τ S A n m (f_X11_coheir τ (t : Int) d y) (((cohA S A n m t d).getD y.toNat 0 : Nat) : Int) 0) ∧ (¬ (0 ≤ y ∧ y < ((cohA S A n m t d).length : Int)) → QB τ S A n m (f_X11_coheir τ (t : Int) d y) (-9) 1) := by
  unfold f_X11_coheir
  rw [m_why0 hU.1.1 hM.1 ht hd, Option.bind_some]
  try dsimp only
  rw [if_neg (show ¬ (0 : Int) < 0 by decide)]
  obtain ⟨τ1, b1, b2, b3, b4, b18⟩ := mi_ev hU hM ht d
  have hl := cohA_len (t := t) hU d
  rw [b1, Option.bind_some]
  try dsimp only
  by_cases c : sK_ S A n m t d < 0
  · have ec : cohA S A n m t d = [] := by unfold cohA; rw [if_neg (fun z => by omega)]
    simp only [if_pos c]
    rw [if_pos (show (-1 : Int) < 0 by decide), ec]
    exact ⟨fun z => absurd z.2 (by show ¬ y < ((0 : Nat) : Int); omega), fun _ => qb_no hU.1 b3 b2 _⟩
  · obtain ⟨k, k1, k2, k3, k4⟩ := ev_ix hU.1 ht c
    rw [k3, if_neg (show ¬ ((200 * t + k : Nat) : Int) < 0 by omega), if_pos k4, Int.toNat_natCast, (b4.2 k k2).2.1]
    by_cases ab : (stp S A n m t k).2.1 = -2
    · obtain ⟨s1, s2, s3⟩ := sK_no hU.1 ht hd.2 k1
      have so := (stp_ok hU.1 hU.2.1 hU.2.2 ht k).1
      have ec : psC S A n m t d (stp S A n m t k).2.2.1 = cohA S A n m t d := by
        rw [psC_same hU.1 hU.2.1 ht s2 hd.2 s3 so]
        unfold cohA
        rw [k1, Int.toNat_natCast, if_pos ⟨by omega, ab⟩]
      rw [if_pos ab, if_pos k4, (b4.2 k k2).2.2.1, xst]
      have z31 : gx zMq τ1 (xm_u1 τ1 84 31 ((stp S A n m t k).2.2.1 : Int)) := (gx.rf _ _).u1 (Or.inr (Or.inl (by omega)))
      have hRO : RO τ1 S A n m := by
        rcases b3.2.1 with z | z
        · omega
        · exact z.2
      have y31 : gx (fun a k => a = 84 ∧ k = 31) τ1 (xm_u1 τ1 84 31 ((stp S A n m t k).2.2.1 : Int)) := (gx.rf _ _).u1 ⟨rfl, rfl⟩
      have q0 : MY (xm_u1 τ1 84 31 ((stp S A n m t k).2.2.1 : Int)) S A n m (τ1.1 84 30) (stp S A n m t k).2.2.1 := ⟨⟨b3.1.gx y31 (fun a k z => by omega), by rw [y31.1 84 18 (by omega)]; exact b18, roQ hRO y31 (fun a k z => by omega)⟩, by rw [y31.1 84 30 (by omega)], by rw [xu11, if_pos ⟨rfl, rfl⟩]⟩
      obtain ⟨τ2, d1, d2, d3, d4, d5⟩ := m_passes hU.1 hU.2.1 hU.2.2 ht q0 so d
      rw [ec] at d4 d5
      have zz := z31.tr d2
      have hM2 : MI τ2 S A n m := mi_ch b3 hU.1 zz (fun a k z => by unfold zMq zLn zR at z; omega) (Or.inr ⟨d3.1.2.1, d3.1.2.2⟩) (fun _ => d3.1.2.1)
      have hg : gx zNQ τ τ2 := b2.tr (zz.mono (fun a k z => Or.inl (Or.inl z)))
      rw [d1, Option.bind_some]
      try dsimp only
      rw [m_isIn', Option.bind_some]
      try dsimp only
      rw [d4, xp_w (by omega) (by omega)]
      constructor
      · intro hy
        obtain ⟨j, rfl⟩ := Int.eq_ofNat_of_zero_le hy.1
        have v := d5 j (by omega)
        rw [Nat.zero_add] at v
        rw [xb_pos (by omega), if_neg (show ¬ (1 : Int) = 0 by decide), if_pos ⟨by omega, by omega⟩, Int.toNat_natCast, v]
        exact qb_fine hU.1 hM2 hg _
      · intro hy
        rw [xb_neg (by omega), if_pos rfl]
        exact qb_no hU.1 hM2 hg _
    · have ec : cohA S A n m t d = [] := by unfold cohA; rw [k1, Int.toNat_natCast, if_neg (fun z => ab z.2)]
      rw [if_neg ab, ec]
      exact ⟨fun z => absurd z.2 (by show ¬ y < ((0 : Nat) : Int); omega), fun _ => qb_no hU.1 b3 b2 _⟩
theorem q_coheir (hU : PU S A n m) (hC : CI σ S A n m e) (hM : MI τ S A n m) (x d y : Int) : ∃ a w, QA σ S A n m e (f_X10_coheir σ x d y) a w ∧ QB τ S A n m (f_X11_coheir τ x d y) a w := by
  by_cases ht : isT S x
  · by_cases hd : 0 ≤ d ∧ d ≤ 99999
    · obtain ⟨t, rfl⟩ := Int.eq_ofNat_of_zero_le ht.1
      obtain ⟨c1, c2⟩ := cls_coh hU hC ht hd y
      obtain ⟨r1, r2⟩ := ref_coh hU hM ht hd y
      by_cases hy : 0 ≤ y ∧ y < ((cohA S A n m t d).length : Int)
      · exact ⟨_, _, c1 hy, r1 hy⟩
      · exact ⟨_, _, c2 hy, r2 hy⟩
    · refine ⟨-9, 3, ?_, ?_⟩
      · unfold f_X10_coheir
        rw [r7_hasTitle hU.1.1 hC.1, Option.bind_some]
        try dsimp only
        rw [xb_pos ht, if_neg (by decide), c_isDay, Option.bind_some]
        try dsimp only
        rw [xb_neg hd, if_pos rfl]
        exact qa_ref hU.1 hC (gx.rf _ _) _
      · unfold f_X11_coheir
        rw [m_why3 hU.1.1 hM.1 ht hd, Option.bind_some]
        try dsimp only
        rw [if_pos (by decide)]
        exact qb_no hU.1 hM (gx.rf _ _) _
  · refine ⟨-9, 1, ?_, ?_⟩
    · unfold f_X10_coheir
      rw [r7_hasTitle hU.1.1 hC.1, Option.bind_some]
      try dsimp only
      rw [xb_neg ht, if_pos rfl]
      exact qa_ref hU.1 hC (gx.rf _ _) _
    · unfold f_X11_coheir
      rw [m_why1 hU.1.1 hM.1 ht, Option.bind_some]
      try dsimp only
      rw [if_pos (by decide)]
      exact qb_no hU.1 hM (gx.rf _ _) _
theorem q_tenures (hU : PU S A n m) (hC : CI σ S A n m e) (hM : MI τ S A n m) (x : Int) : ∃ a w, QA σ S A n m e (f_X10_tenures σ x) a w ∧ QB τ S A n m (f_X11_tenures τ x) a w := by
  unfold f_X10_tenures f_X11_tenures
  rw [r7_hasTitle hU.1.1 hC.1, Option.bind_some, m_isTitle hU.1.1 hM.1, Option.bind_some]
  try dsimp only
  by_cases ht : isT S x
  · rw [xb_pos ht]
    simp only [if_neg (show ¬ (1 : Int) = 0 by decide)]
    obtain ⟨t, rfl⟩ := Int.eq_ofNat_of_zero_le ht.1
    obtain ⟨σ1, a1, a2, a3, a4⟩ := hC.co hU ht
    obtain ⟨τ1, b1, b2, b3, b4, b18⟩ := mi_go hU hM ht
    have hNS := NS_ok (A := A) (n := n) (m := m) hU.1 ht
    have t8 := (isT_t hU.1 ht).1
    refine ⟨(tenN S A n m t : Int), 0, ?_, ?_⟩
    · rw [a1, Option.bind_some]
      try dsimp only
      rw [Int.toNat_natCast, c_countTenures hU.1 ht a4, Option.bind_some]
      exact qa_acc hU.1 a3 (a2.mono zQ1_mono) _
    · rw [b1, Option.bind_some]
      try dsimp only
      unfold f_X11_tenures_l23
      refine it_T (γ := Nat) _ _ (fun (g : xm_Mem → Int → Int → Int → Option xm_Out) i => g τ1 (t : Int) (cn (bgn S A n m t) i : Int) (i : Int)) (fun i => i ≤ NS S A n m t) (fun i => NS S A n m t - i) (fun z => QB τ S A n m z (tenN S A n m t : Int) 0) ?_ xm_fuel 0 (Nat.zero_le _) (xfu (by show NS S A n m t - 0 < _; omega))
      intro self i hi ih
      show QB τ S A n m (f_X11_tenures_b23 _ self τ1 (t : Int) (cn (bgn S A n m t) i : Int) (i : Int)) _ _
      unfold f_X11_tenures_b23
      have hc := cn_le (bgn S A n m t) i
      rw [if_pos ⟨by omega, by omega⟩, Int.toNat_natCast, b4.1]
      by_cases h : i < NS S A n m t
      · have nx := ih (i + 1) h (by omega)
        rw [if_pos (by omega), m_begins hU ht b4 h, Option.bind_some]
        try dsimp only
        rw [xbi]
        by_cases c : bgn S A n m t i
        · rw [if_pos c, xvl, xw1 (by omega), xw1 (by omega)]
          rw [cn_yes (P := bgn S A n m t) c] at nx
          exact nx
        · rw [if_neg c, xvl, xp_w (by omega) (by omega), xw1 (by omega), Int.add_zero]
          rw [cn_no (P := bgn S A n m t) c] at nx
          exact nx
      · rw [if_neg (by omega)]
        have ei : i = NS S A n m t := by omega
        subst ei
        exact qb_fine hU.1 b3 b2 _
  · rw [xb_neg ht]
    simp only [if_pos (show (0 : Int) = 0 by rfl)]
    exact ⟨-9, 1, qa_ref hU.1 hC (gx.rf _ _) _, qb_no hU.1 hM (gx.rf _ _) _⟩
end XG
