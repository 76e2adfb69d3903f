/-! ===== the reference's day and course ===== -/
section XM
variable {σ : xm_Mem} {S : xS} {A : Nat → Nat} {n : Nat} {m : Nat → Int64} {L : List Nat} {t : Nat}
theorem m_isLost (hW : WF S) (hM : MS σ S) (t : Nat) (d : Int) : f_X11_isLost σ (t : Int) d = some (σ, xb (lostP S t d)) := by
  unfold f_X11_isLost f_X11_isLost_l5
  have hn := hW.n
  refine it_T (γ := Int × Nat) _ _ (fun (g : xm_Mem → Int → Int → Int → Int → Option xm_Out) a => g σ (t : Int) d a.1 (a.2 : Int)) (fun a => a.2 ≤ sn S ∧ ((a.1 = -1 ∧ ∀ q, q < a.2 → ¬ lossB S t d q) ∨ ∃ b : Nat, ((b < a.2 ∧ lossB S t d b) ∧ ∀ q, q < a.2 → lossB S t d q → wD S q ≤ wD S b ∧ (q < b → wD S q < wD S b)) ∧ a.1 = (b : Int))) (fun a => sn S - a.2) (fun z => z = some (σ, xb (lostP S t d))) ?_ xm_fuel (-1, 0) ⟨Nat.zero_le _, Or.inl ⟨rfl, fun q h => absurd h (Nat.not_lt_zero _)⟩⟩ (xfu (by show sn S - 0 < _; omega))
  rintro self ⟨v, i⟩ ⟨hi, hv⟩ ih
  replace hi : i ≤ sn S := hi
  replace hv : (v = -1 ∧ ∀ q, q < i → ¬ lossB S t d q) ∨ ∃ b : Nat, ((b < i ∧ lossB S t d b) ∧ ∀ q, q < i → lossB S t d q → wD S q ≤ wD S b ∧ (q < b → wD S q < wD S b)) ∧ v = (b : Int) := hv
  show f_X11_isLost_b5 _ self σ (t : Int) d v (i : Int) = _
  unfold f_X11_isLost_b5
  rw [hM.1]
  by_cases h : i < sn S
  · obtain ⟨a1, a2, a3, a4, a5, a6, a7⟩ := hM.2.2.2.1 i h
    have hg : 0 ≤ (i : Int) ∧ (i : Int) < 200 := ⟨by omega, by omega⟩
    have no : ¬ lossB S t d i → self σ (t : Int) d v (xm_w ((i : Int) + 1)) = some (σ, xb (lostP S t d)) := by
      intro z
      rw [xw1 (by omega)]
      refine ih (v, i + 1) ⟨h, ?_⟩ (by show sn S - (i + 1) < sn S - i; omega)
      rcases hv with ⟨v1, v2⟩ | ⟨b, ⟨⟨b1, b2⟩, b3⟩, b4⟩
      · refine Or.inl ⟨v1, fun q hq => ?_⟩
        by_cases y : q = i
        · subst y; exact z
        · exact v2 q (by have : q < i + 1 := hq; omega)
      · refine Or.inr ⟨b, ⟨⟨by show b < i + 1; omega, b2⟩, fun q hq hl => ?_⟩, b4⟩
        by_cases y : q = i
        · subst y; exact absurd hl z
        · exact b3 q (by have : q < i + 1 := hq; omega) hl
    rw [if_pos (by omega), if_pos hg, Int.toNat_natCast, a7]
    by_cases s : wS S i = 0
    · rw [if_pos s]; exact no (fun z => by have := z.1; omega)
    · have s1 : wS S i = 1 := by rcases hW.st h with z | z; exact absurd z s; exact z
      rw [if_neg s, if_pos hg, a1]
      by_cases k : wK S i < 7
      · rw [if_pos k]; exact no (fun z => by have := z.2.1; omega)
      · rw [if_neg k, if_pos hg, a4]
        by_cases w : w2 S i = (t : Int)
        · rw [if_pos w, if_pos hg, a2]
          by_cases dd : d < wD S i
          · rw [if_pos dd]; exact no (fun z => by have := z.2.2.2; omega)
          · rw [if_neg dd]
            have li : lossB S t d i := ⟨s1, by omega, w, by omega⟩
            have now : (∀ q, q < i → lossB S t d q → wD S q < wD S i) → self σ (t : Int) d (i : Int) (xm_w ((i : Int) + 1)) = some (σ, xb (lostP S t d)) := by
              intro z
              rw [xw1 (by omega)]
              refine ih ((i : Int), i + 1) ⟨h, Or.inr ⟨i, ⟨⟨Nat.lt_succ_self i, li⟩, fun q hq hl => ?_⟩, rfl⟩⟩ (by show sn S - (i + 1) < sn S - i; omega)
              have hq : q < i + 1 := hq
              by_cases y : q = i
              · subst y; exact ⟨Int.le_refl _, fun x => absurd x (Nat.lt_irrefl _)⟩
              · have := z q (by omega) hl; exact ⟨by omega, fun _ => this⟩
            rcases hv with ⟨v1, v2⟩ | ⟨b, ⟨⟨b1, b2⟩, b3⟩, b4⟩
            · rw [if_pos (by omega)]; exact now (fun q hq hl => absurd hl (v2 q hq))
            · have c2 := (hM.2.2.2.1 b (by omega)).2.1
              rw [if_neg (by omega), if_pos hg, b4, if_pos ⟨by omega, by omega⟩, Int.toNat_natCast, c2]
              by_cases c : wD S b < wD S i
              · rw [if_pos c]; exact now (fun q hq hl => by have := (b3 q hq hl).1; omega)
              · rw [if_neg c, xw1 (by omega)]
                refine ih ((b : Int), i + 1) ⟨h, Or.inr ⟨b, ⟨⟨by show b < i + 1; omega, b2⟩, fun q hq hl => ?_⟩, rfl⟩⟩ (by show sn S - (i + 1) < sn S - i; omega)
                have hq : q < i + 1 := hq
                by_cases y : q = i
                · subst y; exact ⟨by omega, fun x => absurd x (by omega)⟩
                · exact b3 q (by omega) hl
        · rw [if_neg w]; exact no (fun z => w z.2.2.1)
  · rw [if_neg (by omega)]
    try dsimp only
    have ei : i = sn S := by omega
    subst ei
    rcases hv with ⟨v1, v2⟩ | ⟨b, b1, b4⟩
    · rw [if_pos (by omega), xb_neg (fun ⟨b, hb, _⟩ => v2 b hb.1.1 hb.1.2)]
    · have hb1 := b1.1.1
      have c1 := (hM.2.2.2.1 b hb1).1
      rw [if_neg (by omega), b4, if_pos ⟨by omega, by omega⟩, Int.toNat_natCast, c1]
      by_cases k : wK S b = 7
      · rw [if_pos k, xb_pos ⟨b, b1, k⟩]
      · rw [if_neg k, xb_neg (fun ⟨c, hc, c7⟩ => by
          have := ltst_uniq hc b1
          subst this
          exact k c7)]
theorem m_recordOn (hO : OK S) (hM : MS σ S) (t : Nat) (d : Int) : ∃ v : Int, f_X11_recordOn σ (t : Int) d 8 = some (σ, v) ∧ ((v < 0 ∧ ¬ backP S t d) ∨ (0 ≤ v ∧ backP S t d)) := by
  unfold f_X11_recordOn f_X11_recordOn_l3
  have hn := hO.1.n
  refine it_T (γ := Nat) _ _ (fun (g : xm_Mem → Int → Int → Int → Int → Option xm_Out) i => g σ (t : Int) d 8 (i : Int)) (fun i => i ≤ sn S ∧ ∀ r, r < i → ¬ (wS S r = 1 ∧ wK S r = 8 ∧ w2 S r = (t : Int) ∧ wD S r = d)) (fun i => sn S - i) (fun z => ∃ v : Int, z = some (σ, v) ∧ ((v < 0 ∧ ¬ backP S t d) ∨ (0 ≤ v ∧ backP S t d))) ?_ xm_fuel 0 ⟨Nat.zero_le _, fun q h => absurd h (Nat.not_lt_zero _)⟩ (xfu (by show sn S - 0 < _; omega))
  rintro self i ⟨hi, hno⟩ ih
  show ∃ v : Int, f_X11_recordOn_b3 self σ (t : Int) d 8 (i : Int) = _ ∧ _
  unfold f_X11_recordOn_b3
  rw [hM.1]
  by_cases h : i < sn S
  · obtain ⟨a1, a2, a3, a4, a5, a6, a7⟩ := hM.2.2.2.1 i h
    have hg : 0 ≤ (i : Int) ∧ (i : Int) < 200 := ⟨by omega, by omega⟩
    have no : ¬ (wS S i = 1 ∧ wK S i = 8 ∧ w2 S i = (t : Int) ∧ wD S i = d) → ∃ v : Int, self σ (t : Int) d 8 (xm_w ((i : Int) + 1)) = some (σ, v) ∧ ((v < 0 ∧ ¬ backP S t d) ∨ (0 ≤ v ∧ backP S t d)) := by
      intro z
      rw [xw1 (by omega)]
      refine ih (i + 1) ⟨h, fun r hr => ?_⟩ (by omega)
      by_cases y : r = i
      · subst y; exact z
      · exact hno r (by omega)
    rw [if_pos (by omega)]
    simp only [if_pos hg, Int.toNat_natCast, a7, a1, a4, a2]
    by_cases s : wS S i = 0
    · rw [if_pos s]; exact no (fun z => by have := z.1; omega)
    · have s1 : wS S i = 1 := by rcases hO.1.st h with z | z; exact absurd z s; exact z
      rw [if_neg s]
      by_cases k : wK S i = 8
      · rw [if_pos k]
        by_cases w : w2 S i = (t : Int)
        · rw [if_pos w]
          by_cases dd : wD S i = d
          · rw [if_pos dd]; exact ⟨_, rfl, Or.inr ⟨by omega, (back_iff hO).mpr ⟨i, h, s1, k, w, dd⟩⟩⟩
          · rw [if_neg dd]; exact no (fun z => dd z.2.2.2)
        · rw [if_neg w]; exact no (fun z => w z.2.2.1)
      · rw [if_neg k]; exact no (fun z => k z.2.1)
  · rw [if_neg (by omega)]
    refine ⟨_, rfl, Or.inl ⟨by decide, fun z => ?_⟩⟩
    obtain ⟨r, r1, r2⟩ := (back_iff hO).mp z
    exact hno r (by omega) r2
theorem m_placeOf (hL : ML σ L) (hl : L.length ≤ 64) (s : Int) : f_X11_placeOf σ s = some (σ, plc L s) := by
  unfold f_X11_placeOf f_X11_placeOf_l2
  refine it_T (γ := Nat) _ _ (fun (g : xm_Mem → Int → Int → Option xm_Out) i => g σ s (i : Int)) (fun i => i ≤ L.length ∧ ∀ j, j < i → ¬ ((L.getD j 0 : Nat) : Int) = s) (fun i => L.length - i) (fun z => z = some (σ, plc L s)) ?_ xm_fuel 0 ⟨Nat.zero_le _, fun j h => absurd h (Nat.not_lt_zero _)⟩ (xfu (by show L.length - 0 < _; omega))
  rintro self i ⟨hi, hno⟩ ih
  show f_X11_placeOf_b2 _ self σ s (i : Int) = _
  unfold f_X11_placeOf_b2
  rw [hL.1]
  by_cases h : i < L.length
  · have e := hL.2 i h
    rw [Nat.zero_add] at e
    rw [if_pos (by omega), if_pos ⟨by omega, by omega⟩, Int.toNat_natCast, e]
    by_cases c : ((L.getD i 0 : Nat) : Int) = s
    · have ef : fsx (fun k => ((L.getD k 0 : Nat) : Int) = s) L.length = i := fsx_eq hi hno (fun _ => c)
      unfold plc
      rw [if_pos c, ef, if_pos h]
      try dsimp only
      rw [hL.1, if_pos (by omega)]
    · rw [if_neg c, xw1 (by omega)]
      refine ih (i + 1) ⟨h, fun j hj => ?_⟩ (by omega)
      by_cases ej : j = i
      · subst ej; exact c
      · exact hno j (by omega)
  · have ef : fsx (fun k => ((L.getD k 0 : Nat) : Int) = s) L.length = L.length := fsx_eq (Nat.le_refl _) (fun j hj => hno j (by omega)) (fun z => absurd z (Nat.lt_irrefl _))
    unfold plc
    rw [if_neg (by omega), ef, if_neg (Nat.lt_irrefl _)]
    try dsimp only
    rw [hL.1, if_neg (by omega)]
theorem plc_mem {q : Nat} : 0 ≤ plc L (q : Int) ↔ q ∈ L := by
  have g := fsx_spec (fun k => ((L.getD k 0 : Nat) : Int) = (q : Int)) L.length
  unfold plc
  constructor
  · intro h
    by_cases c : fsx (fun k => ((L.getD k 0 : Nat) : Int) = (q : Int)) L.length < L.length
    · have e := g.2.1 c
      have e : L.getD (fsx (fun k => ((L.getD k 0 : Nat) : Int) = (q : Int)) L.length) 0 = q := by omega
      rw [← e]; exact getD_mem c
    · rw [if_neg c] at h; omega
  · intro h
    obtain ⟨k, k1, k2⟩ := mem_getD h
    have c : fsx (fun k => ((L.getD k 0 : Nat) : Int) = (q : Int)) L.length < L.length := by
      refine Classical.byContradiction (fun z => ?_)
      exact g.2.2 k (by omega) (by show ((L.getD k 0 : Nat) : Int) = _; rw [k2])
    rw [if_pos c]; omega
theorem m_bornAhead (hO : OK S) (hA : AGE S A n) (hm : BDY S A n m) (ht : isT S (t : Int)) {s : Int} {r : Nat} (hq : MY σ S A n m s r) (hr : isP S (r : Int)) (d h : Int) :
    ∃ (σ' : xm_Mem) (v : Int), f_X11_bornAhead σ (t : Int) d h = some (σ', v) ∧ gx zMq σ σ' ∧ MY σ' S A n m s r ∧ ((v < 0 ∧ bornA S A n t d r s h = s) ∨ (0 ≤ v ∧ bornA S A n t d r s h = v)) := by
  unfold f_X11_bornAhead
  rw [hq.2.2]
  obtain ⟨σ1, a1, a2, a3, a4⟩ := hq.line hO hA hm ht hr d
  have hl := line_len (t := t) (d := d) hO hA hr
  rw [a1, Option.bind_some]
  try dsimp only
  rw [a3.2.1, m_placeOf a4 hl, Option.bind_some]
  try dsimp only
  have pr := plc_rg (line S A n t d r) s
  obtain ⟨M, hM⟩ : ∃ M : Nat, M = (plc (line S A n t d r) s).toNat := ⟨_, rfl⟩
  unfold f_X11_bornAhead_l23
  refine it_T (γ := Nat) _ _ (fun (g : xm_Mem → Int → Int → Int → Int → Option xm_Out) i => g σ1 d h (plc (line S A n t d r) s) (i : Int)) (fun i => i ≤ M ∧ ∀ j, j < i → ¬ lateB S d h ((line S A n t d r).getD j 0)) (fun i => M - i) (fun z => ∃ (σ' : xm_Mem) (v : Int), z = some (σ', v) ∧ gx zMq σ σ' ∧ MY σ' S A n m s r ∧ ((v < 0 ∧ bornA S A n t d r s h = s) ∨ (0 ≤ v ∧ bornA S A n t d r s h = v))) ?_ xm_fuel 0 ⟨Nat.zero_le _, fun j h => absurd h (Nat.not_lt_zero _)⟩ (xfu (by show M - 0 < _; omega))
  rintro self i ⟨hi, hno⟩ ih
  show ∃ (σ' : xm_Mem) (v : Int), f_X11_bornAhead_b23 self σ1 d h (plc (line S A n t d r) s) (i : Int) = _ ∧ _
  unfold f_X11_bornAhead_b23
  by_cases c : (i : Int) < plc (line S A n t d r) s
  · have hiL : i < (line S A n t d r).length := by omega
    have hmm := getD_mem hiL
    have e0 := a4.2 i hiL
    rw [Nat.zero_add] at e0
    have hpp := line_isP hO hA hr hmm
    have go : ¬ lateB S d h ((line S A n t d r).getD i 0) → ∃ (σ' : xm_Mem) (v : Int), self σ1 d h (plc (line S A n t d r) s) (xm_w ((i : Int) + 1)) = some (σ', v) ∧ gx zMq σ σ' ∧ MY σ' S A n m s r ∧ ((v < 0 ∧ bornA S A n t d r s h = s) ∨ (0 ≤ v ∧ bornA S A n t d r s h = v)) := by
      intro z
      rw [xw1 (by omega)]
      refine ih (i + 1) ⟨by omega, fun j hj => ?_⟩ (by omega)
      by_cases ej : j = i
      · subst ej; exact z
      · exact hno j (by omega)
    have hit : lateB S d h ((line S A n t d r).getD i 0) → bornA S A n t d r s h = (((line S A n t d r).getD i 0 : Nat) : Int) := by
      intro z
      have ef : lateK S A n t d r s h = i := by
        unfold lateK
        rw [← hM]
        exact fsx_eq (by omega) hno (fun _ => z)
      unfold bornA
      rw [ef, if_pos (by omega)]
    rw [if_pos c, if_pos ⟨by omega, by omega⟩, Int.toNat_natCast, e0, xvl]
    generalize (line S A n t d r).getD i 0 = p at hpp go hit
    have p64 := (hO.rec hpp).2.2.2.2.2
    have hM1 := a3.1.1
    have hR1 := a3.1.2.2
    have hRp := hR1.p hA hpp
    unfold lateB at go hit
    rw [m_bornOn hO.1 hM1 hpp.1 hpp.2.1, Option.bind_some]
    try dsimp only
    by_cases k1 : wBorn S p = d
    · rw [if_pos k1, if_pos ⟨by omega, by omega⟩, Int.toNat_natCast, hRp.1, xbi]
      by_cases k2 : wLegit S p
      · obtain ⟨⟨pf1, pf2, pf3⟩, _, _⟩ := lg_par hO hpp k2
        have hRf := (hR1.p hA pf1).2.1
        rw [pf3] at hRf
        rw [if_pos k2, m_father hO.1 hM1 hpp.1 hpp.2.1, Option.bind_some]
        try dsimp only
        rw [if_pos ⟨by omega, by omega⟩, hRf, xvl]
        by_cases k3 : wDead S (wFa S p) < 0
        · rw [if_pos k3]; exact go (fun z => by have := z.2.2.1.1; omega)
        · rw [if_neg k3]
          by_cases k4 : wDead S (wFa S p) < d
          · rw [if_pos k4]
            by_cases k5 : h < wDead S (wFa S p)
            · rw [if_pos k5]; exact go (fun z => by have := z.2.2.2; omega)
            · rw [if_neg k5]
              exact ⟨σ1, _, rfl, a2, a3, Or.inr ⟨by omega, hit ⟨k1, k2, ⟨by omega, k4⟩, by omega⟩⟩⟩
          · rw [if_neg k4]; exact go (fun z => k4 z.2.2.1.2)
      · rw [if_neg k2]; exact go (fun z => k2 z.2.1)
    · rw [if_neg k1]; exact go (fun z => k1 z.1)
  · rw [if_neg c]
    have ef : lateK S A n t d r s h = M := by
      unfold lateK
      rw [← hM]
      exact fsx_eq (Nat.le_refl _) (fun j hj => hno j (by omega)) (fun z => absurd z (Nat.lt_irrefl _))
    refine ⟨σ1, _, rfl, a2, a3, Or.inl ⟨by decide, ?_⟩⟩
    unfold bornA
    rw [ef, ← hM, if_neg (Nat.lt_irrefl _)]
theorem m_called (hO : OK S) (hA : AGE S A n) (hm : BDY S A n m) (ht : isT S (t : Int)) {s : Int} {r : Nat} (hq : MY σ S A n m s r) (hr : isP S (r : Int)) (d : Int) :
    ∃ (σ' : xm_Mem) (v : Int), f_X11_called σ (t : Int) d = some (σ', v) ∧ gx zMq σ σ' ∧ MY σ' S A n m s r ∧ ((v < 0 ∧ ¬ callR S A n t d r < sn S) ∨ (0 ≤ v ∧ callR S A n t d r < sn S ∧ v = w1 S (callR S A n t d r))) := by
  unfold f_X11_called
  have hn := hO.1.n
  rw [hq.2.2]
  obtain ⟨σ1, a1, a2, a3, a4⟩ := hq.line hO hA hm ht hr d
  have hl := line_len (t := t) (d := d) hO hA hr
  have hM1 := a3.1.1
  rw [a1, Option.bind_some]
  try dsimp only
  unfold f_X11_called_l12
  refine it_T (γ := Nat) _ _ (fun (g : xm_Mem → Int → Int → Int → Option xm_Out) i => g σ1 (t : Int) d (i : Int)) (fun i => i ≤ sn S ∧ ∀ j, j < i → ¬ callP S A n t d r j) (fun i => sn S - i) (fun z => ∃ (σ' : xm_Mem) (v : Int), z = some (σ', v) ∧ gx zMq σ σ' ∧ MY σ' S A n m s r ∧ ((v < 0 ∧ ¬ callR S A n t d r < sn S) ∨ (0 ≤ v ∧ callR S A n t d r < sn S ∧ v = w1 S (callR S A n t d r)))) ?_ xm_fuel 0 ⟨Nat.zero_le _, fun j h => absurd h (Nat.not_lt_zero _)⟩ (xfu (by show sn S - 0 < _; omega))
  rintro self i ⟨hi, hno⟩ ih
  show ∃ (σ' : xm_Mem) (v : Int), f_X11_called_b12 _ self σ1 (t : Int) d (i : Int) = _ ∧ _
  unfold f_X11_called_b12
  rw [hM1.1]
  by_cases c : i < sn S
  · obtain ⟨b1, b2, b3, b4, b5, b6, b7⟩ := hM1.2.2.2.1 i c
    have hg : 0 ≤ (i : Int) ∧ (i : Int) < 200 := ⟨by omega, by omega⟩
    have go : ¬ callP S A n t d r i → ∃ (σ' : xm_Mem) (v : Int), self σ1 (t : Int) d (xm_w ((i : Int) + 1)) = some (σ', v) ∧ gx zMq σ σ' ∧ MY σ' S A n m s r ∧ ((v < 0 ∧ ¬ callR S A n t d r < sn S) ∨ (0 ≤ v ∧ callR S A n t d r < sn S ∧ v = w1 S (callR S A n t d r))) := by
      intro z
      rw [xw1 (by omega)]
      refine ih (i + 1) ⟨c, fun j hj => ?_⟩ (by omega)
      by_cases ej : j = i
      · subst ej; exact z
      · exact hno j (by omega)
    rw [if_pos (by omega)]
    simp only [if_pos hg, Int.toNat_natCast, b7, b1, b4, b2, b3]
    by_cases k0 : wS S i = 0
    · rw [if_pos k0]; exact go (fun z => by have := z.1; omega)
    · have s1 : wS S i = 1 := by rcases hO.1.st c with z | z; exact absurd z k0; exact z
      rw [if_neg k0]
      by_cases k6 : wK S i = 6
      · rw [if_pos k6]
        by_cases kt : w2 S i = (t : Int)
        · rw [if_pos kt]
          by_cases kd : wD S i = d
          · have hpp := (hO.2.1 i c s1).2.1 ⟨by omega, by omega⟩
            obtain ⟨p, hp⟩ : ∃ p : Nat, w1 S i = (p : Int) := ⟨(w1 S i).toNat, by have := hpp.1; omega⟩
            rw [if_pos kd, hp, m_placeOf a4 hl, Option.bind_some]
            try dsimp only
            have pm := plc_mem (L := line S A n t d r) (q := p)
            by_cases kl : p ∈ line S A n t d r
            · have := pm.mpr kl
              have ec : callR S A n t d r = i := fsx_eq (by omega) hno (fun _ => ⟨s1, k6, kt, kd, by rw [hp, Int.toNat_natCast]; exact kl⟩)
              rw [if_neg (by omega)]
              try dsimp only
              rw [b3, hp]
              exact ⟨σ1, _, rfl, a2, a3, Or.inr ⟨by omega, by rw [ec]; exact c, by rw [ec, hp]⟩⟩
            · have : ¬ 0 ≤ plc (line S A n t d r) (p : Int) := fun z => kl (pm.mp z)
              rw [if_pos (by omega)]
              exact go (fun z => kl (by have := z.2.2.2.2; rw [hp, Int.toNat_natCast] at this; exact this))
          · rw [if_neg kd]; exact go (fun z => kd z.2.2.2.1)
        · rw [if_neg kt]; exact go (fun z => kt z.2.2.1)
      · rw [if_neg k6]; exact go (fun z => k6 z.2.1)
  · rw [if_neg (by omega)]
    have ec : callR S A n t d r = sn S := fsx_eq (Nat.le_refl _) (fun j hj => hno j (by omega)) (fun z => absurd z (Nat.lt_irrefl _))
    exact ⟨σ1, _, rfl, a2, a3, Or.inl ⟨by decide, by omega⟩⟩
theorem m_oneDay (hO : OK S) (hA : AGE S A n) (hm : BDY S A n m) (ht : isT S (t : Int)) {x : xC} {d : Int} (hq : MY σ S A n m x.1 x.2.1) (hr : isP S (x.2.1 : Int)) (hs : x.1 < 0 ∨ isP S x.1) (h3 : ¬ lostP S t d → ¬ backP S t d → x.1 ≠ -3) :
    ∃ σ', f_X11_oneDay σ (t : Int) d x.2.2 = some (σ', 0) ∧ gx zMq σ σ' ∧ MY σ' S A n m (dP S A n m t x d).1 (dP S A n m t x d).2.1 := by
  have t8 := (isT_t hO ht).1
  unfold f_X11_oneDay
  rw [m_isLost hO.1 hq.1.1, Option.bind_some]
  try dsimp only
  rw [xbi]
  unfold f_X11_oneDay_j18
  by_cases l : lostP S t d
  · rw [if_pos l, xst]
    obtain ⟨c1, c2⟩ := hq.set (k := 30) (v := -3) (s' := -3) (r' := x.2.1) (Or.inl ⟨rfl, rfl, rfl⟩)
    obtain ⟨v, v1, v2⟩ := m_recordOn hO c1.1.1 t d
    have nb : ¬ backP S t d := fun z => not_both l z
    have hv : v < 0 := by
      rcases v2 with z | z
      · exact z.1
      · exact absurd z.2 nb
    rw [v1, Option.bind_some]
    try dsimp only
    rw [if_pos hv]
    unfold f_X11_oneDay_j38
    rw [c1.2.1, if_pos rfl]
    refine ⟨_, rfl, c2, ?_⟩
    unfold dP
    rw [if_pos l]
    exact c1
  · rw [if_neg l]
    have eP : dP S A n m t x d = ((dP3 S A n t (dP2 S A n m t (dP1 S A n m t x d) d) d).1, (dP3 S A n t (dP2 S A n m t (dP1 S A n m t x d) d) d).2, if (dP3 S A n t (dP2 S A n m t (dP1 S A n m t x d) d) d).1 = x.1 then (dP1 S A n m t x d).2.2 else d) := by unfold dP; rw [if_neg l]
    -- behind a possible back
    have j38 : ∀ {σ1 : xm_Mem}, gx zMq σ σ1 → MY σ1 S A n m (dP1 S A n m t x d).1 (dP1 S A n m t x d).2.1 → (dP1 S A n m t x d).1 ≠ -3 → ∃ σ', f_X11_oneDay_j38 σ1 (t : Int) d (dP1 S A n m t x d).2.2 = some (σ', 0) ∧ gx zMq σ σ' ∧ MY σ' S A n m (dP S A n m t x d).1 (dP S A n m t x d).2.1 := by
      intro σ1 z1 q1 n3
      obtain ⟨a1, a2⟩ := dP1_ok hO hA hm ht (d := d) hr hs
      generalize hy : dP1 S A n m t x d = y at q1 a1 a2 eP n3
      unfold f_X11_oneDay_j38
      rw [q1.2.1, if_neg n3]
      have j117 : ∀ {σ2 : xm_Mem}, gx zMq σ σ2 → MY σ2 S A n m (dP2 S A n m t y d).1 (dP2 S A n m t y d).2 → ∃ σ', f_X11_oneDay_j117 σ2 (t : Int) d = some (σ', 0) ∧ gx zMq σ σ' ∧ MY σ' S A n m (dP S A n m t x d).1 (dP S A n m t x d).2.1 := by
        intro σ2 z2 q2
        have b1 := (dP2_ok hO hA hm ht (d := d) a1 a2).1
        unfold f_X11_oneDay_j117
        rw [q2.2.1]
        by_cases ab : (dP2 S A n m t y d).1 = -2
        · obtain ⟨σ3, v, e1, e2, e3, e4⟩ := m_called hO hA hm ht q2 b1 d
          rw [if_pos ab, e1, Option.bind_some]
          try dsimp only
          rcases e4 with ⟨e4, e5⟩ | ⟨e4, e5, e6⟩
          · have e3' : dP3 S A n t (dP2 S A n m t y d) d = dP2 S A n m t y d := by unfold dP3; rw [if_neg (fun z => e5 z.2)]
            rw [if_pos e4]
            exact ⟨σ3, rfl, z2.tr e2, by rw [eP, e3']; exact e3⟩
          · have e3' : dP3 S A n t (dP2 S A n m t y d) d = (w1 S (callR S A n t d (dP2 S A n m t y d).2), (w1 S (callR S A n t d (dP2 S A n m t y d).2)).toNat) := by unfold dP3; rw [if_pos ⟨ab, e5⟩]
            rw [if_neg (by omega), xst, xst]
            obtain ⟨c1, c2⟩ := e3.set (k := 30) (v := v) (s' := v) (r' := (dP2 S A n m t y d).2) (Or.inl ⟨rfl, rfl, rfl⟩)
            obtain ⟨d1, d2⟩ := c1.set (k := 31) (v := v) (s' := v) (r' := v.toNat) (Or.inr (Or.inl ⟨rfl, by omega, rfl⟩))
            refine ⟨_, rfl, ((z2.tr e2).tr c2).tr d2, ?_⟩
            rw [eP, e3', ← e6]
            exact d1
        · have e3' : dP3 S A n t (dP2 S A n m t y d) d = dP2 S A n m t y d := by unfold dP3; rw [if_neg (fun z => ab z.1)]
          rw [if_neg ab]
          exact ⟨σ2, rfl, z2, by rw [eP, e3']; exact q2⟩
      have j80 : must S t y.1 d → ∀ {σ2 : xm_Mem}, gx zMq σ σ2 → MY σ2 S A n m y.1 y.2.1 → ∃ σ', f_X11_oneDay_j80 σ2 (t : Int) d = some (σ', 0) ∧ gx zMq σ σ' ∧ MY σ' S A n m (dP S A n m t x d).1 (dP S A n m t x d).2.1 := by
        intro mp σ2 z2 q2
        unfold f_X11_oneDay_j80
        obtain ⟨σ3, b1, b2, b3, _⟩ := m_passes hO hA hm ht q2 a1 d
        have e2 : dP2 S A n m t y d = (psS S A n m t d y.2.1, psR S A n t d y.2.1) := by unfold dP2; rw [if_pos mp]
        rw [b1, Option.bind_some]
        exact j117 (z2.tr b2) (by rw [e2]; exact b3)
      by_cases s0 : y.1 < 0
      · rw [if_pos s0]
        exact j80 (Or.inl s0) z1 q1
      · have hp := a2.resolve_left s0
        obtain ⟨p, hpn⟩ : ∃ p : Nat, y.1 = (p : Int) := ⟨y.1.toNat, by omega⟩
        have hpp : isP S (p : Int) := by rw [← hpn]; exact hp
        have p64 := (hO.rec hpp).2.2.2.2.2
        rw [if_neg s0, hpn, m_isAlive hO hA q1.1.1 q1.1.2.2 hpp, Option.bind_some]
        try dsimp only
        rw [xbi]
        by_cases b : wBorn S p ≤ d ∧ (wDead S p < 0 ∨ d < wDead S p)
        · rw [if_pos b, q1.2.1, hpn, m_hasYielded q1.1.2.2 p64 t8, Option.bind_some]
          try dsimp only
          rw [xbi]
          by_cases c : wYl S t p ≤ d
          · rw [if_pos c]
            exact j80 (Or.inr (Or.inr (by rw [hpn, Int.toNat_natCast]; exact c))) z1 q1
          · have nm : ¬ must S t y.1 d := fun z => by
              unfold must alv at z
              rw [hpn, Int.toNat_natCast] at z
              rcases z with z | z | z
              · omega
              · exact z b
              · exact c z
            obtain ⟨σ2, v, e1, e2, e3, e4⟩ := m_bornAhead hO hA hm ht q1 a1 d y.2.2
            have ed : dP2 S A n m t y d = (bornA S A n t d y.2.1 y.1 y.2.2, y.2.1) := by unfold dP2; rw [if_neg nm]
            unfold f_X11_oneDay_j114
            rw [if_neg c, e1, Option.bind_some]
            try dsimp only
            rcases e4 with ⟨e4, e5⟩ | ⟨e4, e5⟩
            · rw [if_pos e4, xst, e3.2.1]
              obtain ⟨c1, c2⟩ := e3.set (k := 30) (v := y.1) (s' := y.1) (r' := y.2.1) (Or.inl ⟨rfl, rfl, rfl⟩)
              exact j117 ((z1.tr e2).tr c2) (by rw [ed, e5]; exact c1)
            · rw [if_neg (by omega), xst]
              obtain ⟨c1, c2⟩ := e3.set (k := 30) (v := v) (s' := v) (r' := y.2.1) (Or.inl ⟨rfl, rfl, rfl⟩)
              exact j117 ((z1.tr e2).tr c2) (by rw [ed, e5]; exact c1)
        · rw [if_neg b]
          exact j80 (Or.inr (Or.inl (by rw [hpn, Int.toNat_natCast]; exact b))) z1 q1
    obtain ⟨v, v1, v2⟩ := m_recordOn hO hq.1.1 t d
    rw [v1, Option.bind_some]
    try dsimp only
    rcases v2 with ⟨v2, nb⟩ | ⟨v2, hb⟩
    · have e1 : dP1 S A n m t x d = x := by unfold dP1; rw [if_neg nb]
      rw [if_pos v2]
      rw [e1] at j38
      exact j38 (gx.rf _ _) hq (h3 l nb)
    · have e1 : dP1 S A n m t x d = (psS S A n m t d x.2.1, psR S A n t d x.2.1, d) := by unfold dP1; rw [if_pos hb]
      obtain ⟨σ2, b1, b2, b3, _⟩ := m_passes hO hA hm ht hq hr d
      rw [if_neg (by omega), b1, Option.bind_some]
      rw [e1] at j38
      refine j38 b2 b3 ?_
      rcases psS_p hO hA hm ht (d := d) hr with z | z | z
      · show psS S A n m t d x.2.1 ≠ -3; omega
      · show psS S A n m t d x.2.1 ≠ -3; omega
      · have := z.1; show psS S A n m t d x.2.1 ≠ -3; omega
end XM
