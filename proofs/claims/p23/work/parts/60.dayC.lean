/-! ===== the class's day ===== -/
section XD
variable {σ : xm_Mem} {S : xS} {A : Nat → Nat} {n : Nat} {m : Nat → Int64} {L : List Nat} {t : Nat} {e : Nat → Nat}
theorem CS.gx {σ' : xm_Mem} {Z : Nat → Nat → Prop} (h : CS σ S e) (hf : gx Z σ σ') (hz : ∀ a k, Z a k → 9 < a ∧ a < 111) : CS σ' S e := by
  have o : ∀ a k, (a ≤ 9 ∨ 111 ≤ a) → σ'.1 a k = σ.1 a k := fun a k y => hf.1 a k (fun z => by have := hz a k z; omega)
  obtain ⟨⟨h1, h2, h3⟩, h4, h5, h6, h7, h8⟩ := h
  refine ⟨⟨by rw [o _ _ (by omega)]; exact h1, by rw [o _ _ (by omega)]; exact h2, by rw [o _ _ (by omega)]; exact h3⟩, by rw [hf.2.2]; exact h4, fun r hr => ?_, h6, fun p hp => by rw [o _ _ (by omega)]; exact h7 p hp, fun t ht => by rw [o _ _ (by omega)]; exact h8 t ht⟩
  obtain ⟨g1, g2, g3, g4⟩ := h5 r hr
  refine ⟨by rw [o _ _ (by omega)]; exact g1, g2, by rw [hf.2.2]; exact g3, ?_⟩
  have q : ∀ k, σ'.1 (e r) k = σ.1 (e r) k := fun k => o _ _ (by omega)
  unfold CE
  simp only [q]
  exact g4
theorem zYC (ht : t < 8) : ∀ a k, zY t a k → 9 < a ∧ a < 111 := fun a k h => by have := cb_rg ht; unfold zY at h; omega
set_option maxRecDepth 20000 in
theorem r7_latest (hW : WF S) (hC : CS σ S e) (t : Nat) (d : Int) : ∃ v : Int, f_X7_latestLossOrBack σ (t : Int) d = some (σ, v) ∧ ((v = 0 ∧ ∀ q, q < sn S → ¬ lossB S t d q) ∨ ∃ b, ltst S t d b ∧ v = (e b : Int)) := by
  unfold f_X7_latestLossOrBack f_X7_latestLossOrBack_l5
  have hn := hW.n
  refine it_T (γ := Int × Nat) _ _ (fun (g : xm_Mem → Int → Int → Int → Int → Option xm_Out) a => g σ (t : Int) d a.1 (a.2 : Int)) (fun a => a.2 ≤ sn S ∧ ((a.1 = 0 ∧ ∀ q, q < a.2 → ¬ lossB S t d q) ∨ ∃ b, ((b < a.2 ∧ lossB S t d b) ∧ ∀ q, q < a.2 → lossB S t d q → wD S q ≤ wD S b ∧ (q < b → wD S q < wD S b)) ∧ a.1 = (e b : Int))) (fun a => sn S - a.2) (fun z => ∃ v : Int, z = some (σ, v) ∧ ((v = 0 ∧ ∀ q, q < sn S → ¬ lossB S t d q) ∨ ∃ b, ltst S t d b ∧ v = (e b : Int))) ?_ xm_fuel (0, 0) ⟨Nat.zero_le _, Or.inl ⟨rfl, fun q h => absurd h (Nat.not_lt_zero _)⟩⟩ (xfu (by show sn S - 0 < _; omega))
  rintro self ⟨v, i⟩ ⟨hi, hv⟩ ih
  replace hi : i ≤ sn S := hi
  replace hv : (v = 0 ∧ ∀ q, q < i → ¬ lossB S t d q) ∨ ∃ b, ((b < i ∧ lossB S t d b) ∧ ∀ q, q < i → lossB S t d q → wD S q ≤ wD S b ∧ (q < b → wD S q < wD S b)) ∧ v = (e b : Int) := hv
  show ∃ w : Int, f_X7_latestLossOrBack_b5 self σ (t : Int) d v (i : Int) = _ ∧ _
  unfold f_X7_latestLossOrBack_b5
  rw [hC.1.1]
  by_cases h : i < sn S
  · obtain ⟨g1, g2, g3, g4, g5⟩ := hC.at h
    have no : ¬ lossB S t d i → ∃ w : Int, self σ (t : Int) d v (xm_w ((i : Int) + 1)) = some (σ, w) ∧ ((w = 0 ∧ ∀ q, q < sn S → ¬ lossB S t d q) ∨ ∃ b, ltst S t d b ∧ w = (e b : Int)) := by
      intro z
      rw [xw1 (by omega)]
      refine ih (v, i + 1) ⟨h, ?_⟩ (by show sn S - (i + 1) < sn S - i; omega)
      rcases hv with ⟨v1, v2⟩ | ⟨b, ⟨⟨b1, b2⟩, b3⟩, b4⟩
      · refine Or.inl ⟨v1, fun q hq => ?_⟩
        by_cases y : q = i
        · subst y; exact z
        · exact v2 q (by have : q < i + 1 := hq; omega)
      · refine Or.inr ⟨b, ⟨⟨by show b < i + 1; omega, b2⟩, fun q hq hl => ?_⟩, b4⟩
        by_cases y : q = i
        · subst y; exact absurd hl z
        · exact b3 q (by have : q < i + 1 := hq; omega) hl
    rw [if_pos (by omega), r7_standing hW hC h, Option.bind_some]
    try dsimp only
    by_cases s : wS S i = 0
    · rw [if_pos s, xvr _ (by decide), if_pos rfl]; exact no (fun z => by have := z.1; omega)
    · have s1 : wS S i = 1 := by rcases hW.st h with z | z; exact absurd z s; exact z
      rw [if_neg s, xvr _ g4, if_neg g5, if_pos g2, r3_isOfLoss g2 g3, Option.bind_some]
      try dsimp only
      rw [xbi]
      by_cases k : wK S i = 7 ∨ wK S i = 8
      · have e6 : σ.1 (e i) 6 = w2 S i := by rw [g3.2.2.2.2.2.2.1, if_pos (by omega)]
        have e1 : σ.1 (e i) 1 = wD S i := g3.2.1
        rw [if_pos k]
        simp only [if_pos g2, Int.toNat_natCast, e6, e1]
        by_cases w : w2 S i = (t : Int)
        · rw [if_pos w]
          by_cases dd : d < wD S i
          · rw [if_pos dd]; exact no (fun z => by have := z.2.2.2; omega)
          · rw [if_neg dd]
            have li : lossB S t d i := ⟨s1, by omega, w, by omega⟩
            -- it is the latest now
            have now : (∀ q, q < i → lossB S t d q → wD S q < wD S i) → ∃ w : Int, self σ (t : Int) d (e i : Int) (xm_w ((i : Int) + 1)) = some (σ, w) ∧ ((w = 0 ∧ ∀ q, q < sn S → ¬ lossB S t d q) ∨ ∃ b, ltst S t d b ∧ w = (e b : Int)) := by
              intro z
              rw [xw1 (by omega)]
              refine ih ((e i : Int), i + 1) ⟨h, Or.inr ⟨i, ⟨⟨Nat.lt_succ_self i, li⟩, fun q hq hl => ?_⟩, rfl⟩⟩ (by show sn S - (i + 1) < sn S - i; omega)
              have hq : q < i + 1 := hq
              by_cases y : q = i
              · subst y; exact ⟨Int.le_refl _, fun x => absurd x (Nat.lt_irrefl _)⟩
              · have := z q (by omega) hl; exact ⟨by omega, fun _ => this⟩
            rcases hv with ⟨v1, v2⟩ | ⟨b, ⟨⟨b1, b2⟩, b3⟩, b4⟩
            · rw [if_pos v1]; exact now (fun q hq hl => absurd hl (v2 q hq))
            · obtain ⟨f1, f2, f3, f4, f5⟩ := hC.at (r := b) (by omega)
              rw [if_neg (by rw [b4]; exact f5), b4]
              simp only [if_pos f2, Int.toNat_natCast, f3.2.1]
              by_cases c : wD S b < wD S i
              · rw [if_pos c]; exact now (fun q hq hl => by have := (b3 q hq hl).1; omega)
              · rw [if_neg c, xw1 (by omega)]
                refine ih ((e b : Int), i + 1) ⟨h, Or.inr ⟨b, ⟨⟨by show b < i + 1; omega, b2⟩, fun q hq hl => ?_⟩, rfl⟩⟩ (by show sn S - (i + 1) < sn S - i; omega)
                have hq : q < i + 1 := hq
                by_cases y : q = i
                · subst y; exact ⟨by omega, fun x => absurd x (by omega)⟩
                · exact b3 q (by omega) hl
        · rw [if_neg w]; exact no (fun z => w z.2.2.1)
      · rw [if_neg k]; exact no (fun z => by have := z.2.1; have := hW.kd h; omega)
  · rw [if_neg (by omega)]
    have ei : i = sn S := by omega
    subst ei
    refine ⟨v, rfl, ?_⟩
    rcases hv with hv | ⟨b, b1, b2⟩
    · exact Or.inl hv
    · exact Or.inr ⟨b, b1, b2⟩
theorem c_hasYielded (hW : WF S) (hY : YV σ S t) {p : Nat} (hp : p < 64) {d : Int} (hd : d ≤ 99999) : f_X1_hasYielded t σ (p : Int) d = some (σ, xb (wYl S t p ≤ d)) := by
  unfold f_X1_hasYielded f_X10_isPersonNumber
  have hy := yc_iff hW t p hd
  have hg : 0 ≤ (p : Int) ∧ (p : Int) < 64 := ⟨by omega, by omega⟩
  rw [if_neg (by omega), if_pos (by omega), Option.bind_some]
  try dsimp only
  rw [if_neg (by decide), if_pos hg, Int.toNat_natCast, hY p hp]
  by_cases a : wYc S t p = -1
  · rw [if_pos a, xb_neg (fun z => hy.mp (Or.inl a) z)]
  · rw [if_neg a, if_pos hg]
    by_cases b : d < wYc S t p
    · rw [if_pos b, xb_neg (fun z => hy.mp (Or.inr b) z)]
    · rw [if_neg b, xb_pos (Classical.byContradiction (fun z => by have := hy.mpr z; omega))]
theorem c_mustPass (hO : OK S) {s : Int} {r : Nat} {h d : Int} (hq : CQ σ S A n m t s r h) (hd : 0 ≤ d ∧ d ≤ 99999) (hs : s < 0 ∨ isP S s) : f_X1_mustPass t σ d = some (σ, xb (must S t s d)) := by
  unfold f_X1_mustPass must
  rw [hq.2.2.2.1]
  by_cases a : s < 0
  · rw [if_pos a, xb_pos (Or.inl a)]
  · rw [if_neg a]
    have hp := hs.resolve_left a
    have r64 := isP_rg hO.1 hp
    obtain ⟨p, rfl⟩ : ∃ p : Nat, s = (p : Int) := ⟨s.toNat, by omega⟩
    rw [c_isAlive hO hq.1.1.1.1, Option.bind_some]
    try dsimp only
    rw [xbi, Int.toNat_natCast]
    by_cases b : alv S p d
    · rw [if_pos ⟨hp, b⟩, hq.2.2.2.1, c_hasYielded hO.1 hq.1.2.2 (by omega) hd.2, Option.bind_some]
      try dsimp only
      rw [xbi]
      by_cases c : wYl S t p ≤ d
      · rw [if_pos c, xb_pos (Or.inr (Or.inr c))]
      · rw [if_neg c, xb_neg (fun z => z.elim a (fun y => y.elim (fun x => x b) c))]
    · rw [if_neg (fun z => b z.2), xb_pos (Or.inr (Or.inl b))]
theorem c_placeOf (hN : LN σ L) (hl : L.length ≤ 64) (s : Int) : f_X4_placeOf σ s = some (σ, plc L s) := by
  unfold f_X4_placeOf f_X4_placeOf_l2
  refine it_T (γ := Nat) _ _ (fun (g : xm_Mem → Int → Int → Option xm_Out) i => g σ s (i : Int)) (fun i => i ≤ L.length ∧ ∀ j, j < i → ¬ ((L.getD j 0 : Nat) : Int) = s) (fun i => L.length - i) (fun z => z = some (σ, plc L s)) ?_ xm_fuel 0 ⟨Nat.zero_le _, fun j h => absurd h (Nat.not_lt_zero _)⟩ (xfu (by show L.length - 0 < _; omega))
  rintro self i ⟨hi, hno⟩ ih
  show f_X4_placeOf_b2 self σ s (i : Int) = _
  unfold f_X4_placeOf_b2
  rw [hN.1]
  by_cases h : i < L.length
  · have e := hN.2.1 i h
    rw [Nat.zero_add] at e
    rw [if_pos (by omega), if_pos ⟨by omega, by omega⟩, Int.toNat_natCast, e]
    by_cases c : ((L.getD i 0 : Nat) : Int) = s
    · have ef : fsx (fun k => ((L.getD k 0 : Nat) : Int) = s) L.length = i := fsx_eq hi hno (fun _ => c)
      unfold plc
      rw [if_pos c, ef, if_pos h]
    · rw [if_neg c, xw1 (by omega)]
      refine ih (i + 1) ⟨h, fun j hj => ?_⟩ (by omega)
      by_cases ej : j = i
      · subst ej; exact c
      · exact hno j (by omega)
  · have ef : fsx (fun k => ((L.getD k 0 : Nat) : Int) = s) L.length = L.length := fsx_eq (Nat.le_refl _) (fun j hj => hno j (by omega)) (fun z => absurd z (Nat.lt_irrefl _))
    unfold plc
    rw [if_neg (by omega), ef, if_neg (Nat.lt_irrefl _)]
theorem plc_rg (L : List Nat) (s : Int) : -1 ≤ plc L s ∧ plc L s < L.length := by
  unfold plc
  split <;> omega
theorem c_give (hO : OK S) (hA : AGE S A n) (ht : isT S (t : Int)) {s : Int} {r : Nat} {h d : Int} (hq : CQ σ S A n m t s r h) (hd : 0 ≤ d ∧ d ≤ 99999) (hr : isP S (r : Int)) :
    ∃ σ', f_X1_giveToChildBornLate t σ d = some (σ', 0) ∧ gx (zY t) σ σ' ∧ CQ σ' S A n m t (bornA S A n t d r s h) r h ∧ LN σ' (line S A n t d r) := by
  have t8 := (isT_t hO ht).1
  have cr := cb_rg t8
  unfold f_X1_giveToChildBornLate
  rw [hq.2.1.1, hq.2.2.1]
  obtain ⟨σ1, a1, a2, a3, a4⟩ := hq.fill hO hA ht hd hr
  have hl := line_len (t := t) (d := d) hO hA hr
  rw [a1, Option.bind_some]
  try dsimp only
  rw [a3.2.2.2.1, c_placeOf a4 hl, Option.bind_some]
  try dsimp only
  have pr := plc_rg (line S A n t d r) s
  obtain ⟨M, hM⟩ : ∃ M : Nat, M = (plc (line S A n t d r) s).toNat := ⟨_, rfl⟩
  unfold f_X1_giveToChildBornLate_l34
  refine it_T (γ := Nat) _ _ (fun (g : xm_Mem → Int → Int → Int → Option xm_Out) i => g σ1 d (plc (line S A n t d r) s) (i : Int)) (fun i => i ≤ M ∧ ∀ j, j < i → ¬ lateB S d h ((line S A n t d r).getD j 0)) (fun i => M - i) (fun z => ∃ σ', z = some (σ', 0) ∧ gx (zY t) σ σ' ∧ CQ σ' S A n m t (bornA S A n t d r s h) r h ∧ LN σ' (line S A n t d r)) ?_ xm_fuel 0 ⟨Nat.zero_le _, fun j h => absurd h (Nat.not_lt_zero _)⟩ (xfu (by show M - 0 < _; omega))
  rintro self i ⟨hi, hno⟩ ih
  show ∃ σ', f_X1_giveToChildBornLate_b34 t self σ1 d (plc (line S A n t d r) s) (i : Int) = _ ∧ _
  unfold f_X1_giveToChildBornLate_b34
  by_cases c : (i : Int) < plc (line S A n t d r) s
  · have hiL : i < (line S A n t d r).length := by omega
    have hm := getD_mem hiL
    have e0 := a4.2.1 i hiL
    rw [Nat.zero_add] at e0
    have ea : f_X4_at σ1 (i : Int) = some (σ1, (((line S A n t d r).getD i 0 : Nat) : Int)) := by
      unfold f_X4_at
      rw [if_neg (by omega), a4.1, if_pos (by omega), if_pos ⟨by omega, by omega⟩, Int.toNat_natCast, e0]
    rw [if_pos c, ea, Option.bind_some]
    try dsimp only
    have hpp := line_isP hO hA hr hm
    have go : ¬ lateB S d h ((line S A n t d r).getD i 0) → ∃ σ', self σ1 d (plc (line S A n t d r) s) (xm_w ((i : Int) + 1)) = some (σ', 0) ∧ gx (zY t) σ σ' ∧ CQ σ' S A n m t (bornA S A n t d r s h) r h ∧ LN σ' (line S A n t d r) := by
      intro z
      rw [xw1 (by omega)]
      refine ih (i + 1) ⟨by omega, fun j hj => ?_⟩ (by omega)
      by_cases ej : j = i
      · subst ej; exact z
      · exact hno j (by omega)
    have hit : lateB S d h ((line S A n t d r).getD i 0) → bornA S A n t d r s h = (((line S A n t d r).getD i 0 : Nat) : Int) := by
      intro z
      have ef : lateK S A n t d r s h = i := by
        unfold lateK
        rw [← hM]
        exact fsx_eq (by omega) hno (fun _ => z)
      unfold bornA
      rw [ef, if_pos (by omega)]
    generalize (line S A n t d r).getD i 0 = p at hpp go hit
    have p64 := (hO.rec hpp).2.2.2.2.2
    have hP1 := a3.1.1.1.1
    have hD1 := a3.1.1.1.2.1
    unfold lateB at go hit
    rw [c_bornOn hO.1 hP1 hpp, Option.bind_some]
    try dsimp only
    by_cases k1 : wBorn S p = d
    · rw [if_pos k1, c_isLegit hD1 p64, Option.bind_some]
      try dsimp only
      rw [xbi]
      by_cases k2 : wLegit S p
      · obtain ⟨⟨pf1, pf2, pf3⟩, _, _⟩ := lg_par hO hpp k2
        have fr64 := isP_rg hO.1 pf1
        rw [pf3] at fr64
        have rgd := wDead_rg hO.1 (wFa S p)
        rw [if_pos ⟨hpp, k2⟩, c_father hO.1 hP1 hpp, Option.bind_some]
        try dsimp only
        rw [c_deadOn hP1 (isP_sn hO.1 hpp) fr64.1 fr64.2.2, hO.uq, Option.bind_some]
        try dsimp only
        by_cases k3 : wDead S (wFa S p) = -1
        · rw [if_pos k3]; exact go (fun z => by have := z.2.2.1.1; omega)
        · rw [if_neg k3]
          by_cases k4 : wDead S (wFa S p) < d
          · rw [if_pos k4, a3.2.2.2.2]
            by_cases k5 : h < wDead S (wFa S p)
            · rw [if_pos k5]; exact go (fun z => by have := z.2.2.2; omega)
            · rw [if_neg k5, xst]
              have ee := hit ⟨k1, k2, ⟨by omega, k4⟩, by omega⟩
              obtain ⟨c1, c2⟩ := a3.set t8 (k := 15) (v := (p : Int)) (s' := (p : Int)) (r' := r) (h' := h) (Or.inr (Or.inl ⟨rfl, rfl, rfl, rfl⟩))
              rw [ee]
              exact ⟨_, rfl, a2.tr c2, c1, a4.gx (Z := fun a j => a = xm_cb t ∧ j = 15) ((gx.rf _ _).u1 ⟨rfl, rfl⟩) (fun a k z => by omega)⟩
          · rw [if_neg k4]; exact go (fun z => k4 z.2.2.1.2)
      · rw [if_neg (fun z => k2 z.2)]; exact go (fun z => k2 z.2.1)
    · rw [if_neg k1]; exact go (fun z => k1 z.1)
  · rw [if_neg c]
    have ef : lateK S A n t d r s h = M := by
      unfold lateK
      rw [← hM]
      exact fsx_eq (Nat.le_refl _) (fun j hj => hno j (by omega)) (fun z => absurd z (Nat.lt_irrefl _))
    have ee : bornA S A n t d r s h = s := by
      unfold bornA
      rw [ef, ← hM, if_neg (Nat.lt_irrefl _)]
    rw [ee]
    exact ⟨σ1, rfl, a2, a3, a4⟩
theorem c_obey (hO : OK S) (hC : CS σ S e) (ht : isT S (t : Int)) {s : Int} {r : Nat} {h d : Int} (hq : CQ σ S A n m t s r h) (hN : LN σ (line S A n t d r)) :
    ∃ σ', f_X1_obeyCall t σ d = some (σ', 0) ∧ gx (zY t) σ σ' ∧ ((¬ callR S A n t d r < sn S ∧ CQ σ' S A n m t s r h) ∨ (callR S A n t d r < sn S ∧ CQ σ' S A n m t (w1 S (callR S A n t d r)) (w1 S (callR S A n t d r)).toNat h)) := by
  have t8 := (isT_t hO ht).1
  have cr := cb_rg t8
  have hn := hO.1.n
  unfold f_X1_obeyCall f_X1_obeyCall_l2
  refine it_T (γ := Nat) _ _ (fun (g : xm_Mem → Int → Int → Option xm_Out) i => g σ d (i : Int)) (fun i => i ≤ sn S ∧ ∀ j, j < i → ¬ callP S A n t d r j) (fun i => sn S - i) (fun z => ∃ σ', z = some (σ', 0) ∧ gx (zY t) σ σ' ∧ ((¬ callR S A n t d r < sn S ∧ CQ σ' S A n m t s r h) ∨ (callR S A n t d r < sn S ∧ CQ σ' S A n m t (w1 S (callR S A n t d r)) (w1 S (callR S A n t d r)).toNat h))) ?_ xm_fuel 0 ⟨Nat.zero_le _, fun j h => absurd h (Nat.not_lt_zero _)⟩ (xfu (by show sn S - 0 < _; omega))
  rintro self i ⟨hi, hno⟩ ih
  show ∃ σ', f_X1_obeyCall_b2 t _ self σ d (i : Int) = _ ∧ _
  unfold f_X1_obeyCall_b2
  rw [r7_size hC, Option.bind_some]
  try dsimp only
  by_cases c : i < sn S
  · obtain ⟨g1, g2, g3, g4, g5⟩ := hC.at c
    have go : ¬ callP S A n t d r i → ∃ σ', self σ d (xm_w ((i : Int) + 1)) = some (σ', 0) ∧ gx (zY t) σ σ' ∧ ((¬ callR S A n t d r < sn S ∧ CQ σ' S A n m t s r h) ∨ (callR S A n t d r < sn S ∧ CQ σ' S A n m t (w1 S (callR S A n t d r)) (w1 S (callR S A n t d r)).toNat h)) := by
      intro z
      rw [xw1 (by omega)]
      refine ih (i + 1) ⟨c, fun j hj => ?_⟩ (by omega)
      by_cases ej : j = i
      · subst ej; exact z
      · exact hno j (by omega)
    rw [if_pos (by omega), r7_standing hO.1 hC c, Option.bind_some]
    try dsimp only
    by_cases k0 : wS S i = 0
    · rw [if_pos k0, xvr _ (by decide), if_pos rfl]; exact go (fun z => by have := z.1; omega)
    · have s1 : wS S i = 1 := by rcases hO.1.st c with z | z; exact absurd z k0; exact z
      have e0 : σ.1 (e i) 0 = wK S i := g3.1
      have e1 : σ.1 (e i) 1 = wD S i := g3.2.1
      have e2 : σ.1 (e i) 2 = w1 S i := g3.2.2.1
      rw [if_neg k0, xvr _ g4, if_neg g5]
      simp only [if_pos g2, Int.toNat_natCast, e0, e1, e2]
      by_cases k6 : wK S i = 6
      · have e6 : σ.1 (e i) 6 = w2 S i := by rw [g3.2.2.2.2.2.2.1, if_pos (by omega)]
        rw [if_pos k6, e6]
        by_cases kt : w2 S i = (t : Int)
        · rw [if_pos kt]
          by_cases kd : wD S i = d
          · have hpp := (hO.2.1 i c s1).2.1 ⟨by omega, by omega⟩
            have r64 := isP_rg hO.1 hpp
            obtain ⟨p, hp⟩ : ∃ p : Nat, w1 S i = (p : Int) := ⟨(w1 S i).toNat, by omega⟩
            rw [if_pos kd, hp, c_lhas hN (by omega), Option.bind_some]
            try dsimp only
            rw [xbi]
            by_cases kl : p ∈ line S A n t d r
            · rw [if_pos kl]
              try dsimp only
              have ec : callR S A n t d r = i := fsx_eq (by omega) hno (fun _ => ⟨s1, k6, kt, kd, by rw [hp, Int.toNat_natCast]; exact kl⟩)
              obtain ⟨c1, c2⟩ := hq.set t8 (k := 15) (v := (p : Int)) (s' := (p : Int)) (r' := r) (h' := h) (Or.inr (Or.inl ⟨rfl, rfl, rfl, rfl⟩))
              have e2' : (xm_u1 σ (xm_cb t) 15 (p : Int)).1 (e i) 2 = (p : Int) := by
                rw [xu11, if_neg (by have := (hC.2.2.1 i c).2.1; omega), e2, hp]
              obtain ⟨d1, d2⟩ := c1.set t8 (k := 14) (v := (p : Int)) (s' := (p : Int)) (r' := p) (h' := h) (Or.inl ⟨rfl, rfl, rfl, rfl⟩)
              simp only [if_pos g2, Int.toNat_natCast, e2, hp, xst, xobj1, e2']
              refine ⟨_, rfl, c2.tr d2, Or.inr ⟨by rw [ec]; exact c, ?_⟩⟩
              rw [ec, hp, Int.toNat_natCast]; exact d1
            · rw [if_neg kl]; exact go (fun z => kl (by have := z.2.2.2.2; rw [hp, Int.toNat_natCast] at this; exact this))
          · rw [if_neg kd]; exact go (fun z => kd z.2.2.2.1)
        · rw [if_neg kt]; exact go (fun z => kt z.2.2.1)
      · rw [if_neg k6]; exact go (fun z => k6 z.2.1)
  · rw [if_neg (by omega)]
    have ec : callR S A n t d r = sn S := fsx_eq (Nat.le_refl _) (fun j hj => hno j (by omega)) (fun z => absurd z (Nat.lt_irrefl _))
    exact ⟨σ, rfl, gx.rf _ _, Or.inl ⟨by omega, hq⟩⟩
end XD
