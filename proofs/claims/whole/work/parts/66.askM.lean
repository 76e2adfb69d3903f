/-! ===== questions of titles: the reference ===== -/
/-- the reference's world -/
def MI (σ : xm_Mem) (S : xS) (A : Nat → Nat) (n : Nat) (m : Nat → Int64) : Prop := MS σ S ∧ RI σ S A n m ∧ ∀ t : Nat, isT S (t : Int) → GI σ S A n m t
/-- what questions change in the reference -/
def zNQ (a k : Nat) : Prop := (zMq a k ∨ a = 95 ∨ (104 ≤ a ∧ a ≤ 110)) ∨ (a = 84 ∧ k = 2)
section XB
variable {σ : xm_Mem} {S : xS} {A : Nat → Nat} {n : Nat} {m : Nat → Int64} {t : Nat}
theorem cnt_same (hO : OK S) (ht : isT S (t : Int)) {D d : Int} (hD : D ≤ d) (hd : d ≤ 99999) (hno : ∀ r, r < sn S → hap S t r → D < wD S r → d < wD S r) {p : Nat} (hp : isP S (p : Int)) : cnt S t d p ↔ cnt S t D p := by
  have hb := hO.rec hp
  have h1 : wBorn S p ≤ d ↔ wBorn S p ≤ D := by
    have e : wBorn S p = wD S (sbb S p) := by unfold wBorn; rw [Int.toNat_natCast]
    rw [e]
    have := hno _ hb.1 ⟨hb.2.2.2.1, Or.inl hb.2.1⟩
    constructor
    · intro z; rcases Int.lt_or_le D (wD S (sbb S p)) with y | y
      · have := this y; omega
      · exact y
    · intro z; omega
  have h2 : (wDead S p < 0 ∨ d < wDead S p) ↔ (wDead S p < 0 ∨ D < wDead S p) := by
    unfold wDead
    obtain ⟨f1, f2, f3⟩ := fsx_spec (fun r => wS S r = 1 ∧ wK S r = 3 ∧ w1 S r = p) (sn S)
    by_cases c : fsx (fun r => wS S r = 1 ∧ wK S r = 3 ∧ w1 S r = p) (sn S) < sn S
    · rw [if_pos c]
      have y := f2 c
      have := hno _ c ⟨y.1, Or.inr (Or.inl y.2.1)⟩
      constructor
      · rintro (z | z)
        · exact Or.inl z
        · exact Or.inr (by omega)
      · rintro (z | z)
        · exact Or.inl z
        · exact Or.inr (this z)
    · rw [if_neg c]; constructor <;> intro _ <;> exact Or.inl (by omega)
  have h3 : wYl S t p ≤ d ↔ wYl S t p ≤ D := by
    unfold wYl
    rcases ldx_two (isYl S t p) (wD S) 100000 100000 (sn S) with ⟨y, _⟩ | ⟨r, r1, r2, r3, _⟩
    · rw [y]; omega
    · rw [r3]
      have := hno _ r1 ⟨r2.1, Or.inr (Or.inr ⟨by rw [r2.2.1]; decide, r2.2.2.1⟩)⟩
      constructor
      · intro z; rcases Int.lt_or_le D (wD S r) with y | y
        · have := this y; omega
        · exact y
      · intro z; omega
  unfold cnt
  rw [h1, h2, h3]
theorem line_same (hO : OK S) (hA : AGE S A n) (ht : isT S (t : Int)) {D d : Int} (hD : D ≤ d) (hd : d ≤ 99999) (hno : ∀ r, r < sn S → hap S t r → D < wD S r → d < wD S r) {r : Nat} (hr : isP S (r : Int)) : line S A n t d r = line S A n t D r := by
  unfold line cntL
  refine List.filter_congr (fun q hq => ?_)
  have c := cnt_same hO ht hD hd hno ((ord_ok hO hA hr).2 q hq)
  by_cases h : cnt S t D q
  · rw [dc_y h, dc_y (c.mpr h)]
  · rw [dc_n h, dc_n (fun z => h (c.mp z))]
theorem psC_same (hO : OK S) (hA : AGE S A n) (ht : isT S (t : Int)) {D d : Int} (hD : D ≤ d) (hd : d ≤ 99999) (hno : ∀ r, r < sn S → hap S t r → D < wD S r → d < wD S r) {r : Nat} (hr : isP S (r : Int)) : psC S A n m t d r = psC S A n m t D r := by
  have e1 := line_same hO hA ht hD hd hno hr
  have eR : psR S A n t d r = psR S A n t D r := by unfold psR; rw [e1]
  have hR := psR_ok (A := A) (n := n) (t := t) (d := D) hO ht hr
  have e2 := line_same hO hA ht hD hd hno hR
  unfold psC
  rw [eR, e2]
theorem sK_no (hO : OK S) (ht : isT S (t : Int)) {d : Int} (hd : d ≤ 99999) {k : Nat} (hk : sK_ S A n m t d = (k : Int)) : k < NS S A n m t ∧ (stp S A n m t k).1 ≤ d ∧ ∀ r, r < sn S → hap S t r → (stp S A n m t k).1 < wD S r → d < wD S r := by
  have hNS := NS_ok (A := A) (n := n) (m := m) hO ht
  rcases sK_rg S A n m t d with ⟨h, _⟩ | ⟨j, j1, j2, j3, j4⟩
  · omega
  · have ej : j = k := by omega
    subst ej
    refine ⟨j1, j2, fun r hr hh hl => ?_⟩
    have dy := (stp_day (A := A) (n := n) (m := m) (t := t) hO.1 (j + 1)).resolve_left (by omega)
    rw [Nat.add_sub_cancel] at dy
    have nx := (nxD_spec (t := t) hO.1 (stp S A n m t j).1).2.2 r hr hh
    rw [← dy] at nx
    have : d < (stp S A n m t (j + 1)).1 := by
      rcases Nat.lt_or_ge (j + 1) (NS S A n m t) with y | y
      · have := j4 (j + 1) (by omega) y; omega
      · have e : j + 1 = NS S A n m t := by omega
        have := hNS.2.1
        rw [← e] at this
        omega
    rcases Int.lt_or_le (wD S r) (stp S A n m t (j + 1)).1 with y | y
    · exact absurd ⟨hl, y⟩ nx
    · omega
theorem snc_le (hU : PU S A n m) (ht : isT S (t : Int)) : ∀ k, (stp S A n m t k).1 ≤ 99999 → (stp S A n m t k).2.2.2 ≤ (stp S A n m t k).1 := by
  intro k
  induction k with
  | zero => intro h; rw [since_eq hU.1 hU.2.1 hU.2.2 ht h, if_neg (Nat.lt_irrefl _)]; exact Int.le_refl _
  | succ k ih =>
    intro h
    have lt := stp_lt (A := A) (n := n) (m := m) (t := t) hU.1 k h
    have := ih (by omega)
    rw [since_eq hU.1 hU.2.1 hU.2.2 ht h, if_pos (Nat.succ_pos k)]
    show (if _ then (stp S A n m t k).2.2.2 else _) ≤ _
    split <;> omega
theorem bgn_zero (hU : PU S A n m) (ht : isT S (t : Int)) (h : (stp S A n m t 0).1 ≤ 99999) : bgn S A n m t 0 := by
  unfold bgn
  rw [since_eq hU.1 hU.2.1 hU.2.2 ht h, if_neg (Nat.lt_irrefl _)]
theorem bgn_succ (hU : PU S A n m) (ht : isT S (t : Int)) {k : Nat} (h : (stp S A n m t (k + 1)).1 ≤ 99999) : bgn S A n m t (k + 1) ↔ ¬ (stp S A n m t (k + 1)).2.2.2 = (stp S A n m t k).2.2.2 := by
  have lt := stp_lt (A := A) (n := n) (m := m) (t := t) hU.1 k h
  have le := snc_le hU ht k (by omega)
  have e := since_eq hU.1 hU.2.1 hU.2.2 ht h
  rw [if_pos (Nat.succ_pos k)] at e
  have e : (stp S A n m t (k + 1)).2.2.2 = if (stp S A n m t (k + 1)).2.1 = (stp S A n m t k).2.1 then (stp S A n m t k).2.2.2 else (stp S A n m t (k + 1)).1 := e
  unfold bgn
  rw [e]
  split <;> omega
theorem mi_ch {σ' : xm_Mem} {Z : Nat → Nat → Prop} (h : MI σ S A n m) (hO : OK S) (hf : gx Z σ σ') (hz : ∀ a k, Z a k → ¬ (a = 84 ∧ (k = 5 ∨ k = 14 ∨ k = 15)) ∧ ¬ (86 ≤ a ∧ a ≤ 94) ∧ a ≠ 95 ∧ ¬ (104 ≤ a ∧ a ≤ 108)) (hR : RI σ' S A n m) (h18 : σ.1 84 18 = 1 → σ'.1 84 18 = 1) : MI σ' S A n m := by
  refine ⟨h.1.gx hf (fun a k z => by have := hz a k z; exact ⟨this.1, this.2.1⟩), hR, fun t ht => ?_⟩
  rcases h.2.2 t ht with g | ⟨g, g18, g1, g2⟩
  · exact Or.inl (by rw [hf.1 95 t (fun z => (hz _ _ z).2.2.1 rfl)]; exact g)
  · refine Or.inr ⟨by rw [hf.1 95 t (fun z => (hz _ _ z).2.2.1 rfl)]; exact g, h18 g18, by rw [hf.1 104 t (fun z => (hz _ _ z).2.2.2 (by omega))]; exact g1, fun k hk => ?_⟩
    rw [hf.1 105 _ (fun z => (hz _ _ z).2.2.2 (by omega)), hf.1 106 _ (fun z => (hz _ _ z).2.2.2 (by omega)), hf.1 107 _ (fun z => (hz _ _ z).2.2.2 (by omega)), hf.1 108 _ (fun z => (hz _ _ z).2.2.2 (by omega))]
    exact g2 k hk
/-- other changes leave it -/
theorem mi_gx {σ' : xm_Mem} {Z : Nat → Nat → Prop} (h : MI σ S A n m) (hO : OK S) (hf : gx Z σ σ') (hz : ∀ a k, Z a k → a < 84 ∨ 111 ≤ a ∨ (a = 84 ∧ k ≠ 5 ∧ k ≠ 14 ∧ k ≠ 15 ∧ k ≠ 18 ∧ k ≠ 22) ∨ a = 85 ∨ (101 ≤ a ∧ a ≤ 103) ∨ 109 ≤ a) : MI σ' S A n m := by
  refine mi_ch h hO hf (fun a k z => by have := hz a k z; omega) ?_ (fun q => by rw [hf.1 84 18 (fun z => by have := hz _ _ z; omega)]; exact q)
  rcases h.2.1 with r | ⟨r1, r2⟩
  · exact Or.inl (by rw [hf.1 84 18 (fun z => by have := hz _ _ z; omega)]; exact r)
  · exact Or.inr ⟨by rw [hf.1 84 18 (fun z => by have := hz _ _ z; omega)]; exact r1, r2.gx hf (fun a k z => by have := hz a k z; omega)⟩
theorem mi_go (hU : PU S A n m) (h : MI σ S A n m) (ht : isT S (t : Int)) : ∃ σ', f_X11_goThrough σ (t : Int) = some (σ', 0) ∧ gx zNQ σ σ' ∧ MI σ' S A n m ∧ GO σ' S A n m t ∧ σ'.1 84 18 = 1 := by
  obtain ⟨σ', a1, a2, ⟨a3, a4⟩, ⟨a5, a18⟩, a6⟩ := m_goThrough hU.1 hU.2.1 hU.2.2 ht h.1 h.2.1 (h.2.2 t ht)
  have t8 := (isT_t hU.1 ht).1
  refine ⟨σ', a1, a2.mono (fun a k z => Or.inl ?_), ⟨a3, a4, fun t' ht' => ?_⟩, a6, a18⟩
  · rcases z with (z | z) | z
    · exact Or.inl z
    · omega
    · exact Or.inr (Or.inr (by omega))
  · by_cases q : t' = t
    · subst q; exact Or.inr ⟨a5, a18, a6⟩
    · have hNS := (NS_ok (A := A) (n := n) (m := m) hU.1 ht').1
      have no : ∀ a k, (a = 95 ∧ k = t') ∨ (a = 104 ∧ k = t') ∨ (105 ≤ a ∧ a ≤ 108 ∧ 200 * t' ≤ k ∧ k < 200 * t' + 200) → σ'.1 a k = σ.1 a k := fun a k z => a2.1 a k (by unfold zGo zMq zLn zR; omega)
      rcases h.2.2 t' ht' with g | ⟨g, g18, g1, g2⟩
      · exact Or.inl (by rw [no 95 t' (by omega)]; exact g)
      · refine Or.inr ⟨by rw [no 95 t' (by omega)]; exact g, a18, by rw [no 104 t' (by omega)]; exact g1, fun k hk => ?_⟩
        rw [no 105 _ (by omega), no 106 _ (by omega), no 107 _ (by omega), no 108 _ (by omega)]
        exact g2 k hk
theorem mi_ev (hU : PU S A n m) (h : MI σ S A n m) (ht : isT S (t : Int)) (d : Int) : ∃ σ', f_X11_eventOn σ (t : Int) d = some (σ', if sK_ S A n m t d < 0 then -1 else 200 * (t : Int) + sK_ S A n m t d) ∧ gx zNQ σ σ' ∧ MI σ' S A n m ∧ GO σ' S A n m t ∧ σ'.1 84 18 = 1 := by
  obtain ⟨σ', a1, a2⟩ := mi_go hU h ht
  refine ⟨σ', ?_, a2⟩
  have hG := a2.2.2.1
  have t8 := (isT_t hU.1 ht).1
  have hNS := NS_ok (A := A) (n := n) (m := m) hU.1 ht
  unfold f_X11_eventOn
  rw [a1, Option.bind_some]
  try dsimp only
  unfold f_X11_eventOn_l10
  refine it_T (γ := Int × Nat) _ _ (fun (g : xm_Mem → Int → Int → Int → Int → Option xm_Out) a => g σ' (t : Int) d a.1 (a.2 : Int)) (fun a => a.2 ≤ NS S A n m t ∧ a.1 = if ldx (fun k => (stp S A n m t k).1 ≤ d) (fun k => (k : Int)) (-1) a.2 < 0 then -1 else 200 * (t : Int) + ldx (fun k => (stp S A n m t k).1 ≤ d) (fun k => (k : Int)) (-1) a.2) (fun a => NS S A n m t - a.2) (fun z => z = some (σ', if sK_ S A n m t d < 0 then -1 else 200 * (t : Int) + sK_ S A n m t d)) ?_ xm_fuel (-1, 0) ⟨Nat.zero_le _, (if_pos (c := (-1 : Int) < 0) (by decide)).symm⟩ (xfu (by show NS S A n m t - 0 < _; omega))
  rintro self ⟨v, i⟩ ⟨hi, hv⟩ ih
  replace hi : i ≤ NS S A n m t := hi
  replace hv : v = if ldx (fun k => (stp S A n m t k).1 ≤ d) (fun k => (k : Int)) (-1) i < 0 then -1 else 200 * (t : Int) + ldx (fun k => (stp S A n m t k).1 ≤ d) (fun k => (k : Int)) (-1) i := hv
  show f_X11_eventOn_b10 self σ' (t : Int) d v (i : Int) = _
  unfold f_X11_eventOn_b10
  rw [if_pos ⟨by omega, by omega⟩, Int.toNat_natCast, hG.1]
  by_cases h : i < NS S A n m t
  · have ei : xm_w (xm_w (200 * (t : Int)) + (i : Int)) = ((200 * t + i : Nat) : Int) := by
      rw [xp_w (x := 200 * (t : Int)) (by omega) (by omega), xp_w (by omega) (by omega)]; omega
    have gi : 0 ≤ ((200 * t + i : Nat) : Int) ∧ ((200 * t + i : Nat) : Int) < 1600 := ⟨by omega, by omega⟩
    rw [if_pos (by omega), ei, xvl, if_pos gi, Int.toNat_natCast, (hG.2 i h).1, xw1 (by omega)]
    by_cases c : d < (stp S A n m t i).1
    · rw [if_pos c]
      refine ih (v, i + 1) ⟨h, ?_⟩ (by show NS S A n m t - (i + 1) < NS S A n m t - i; omega)
      show v = if ldx (fun k => (stp S A n m t k).1 ≤ d) (fun k => (k : Int)) (-1) (i + 1) < 0 then -1 else 200 * (t : Int) + ldx (fun k => (stp S A n m t k).1 ≤ d) (fun k => (k : Int)) (-1) (i + 1)
      rw [ldx_no (P := fun k => (stp S A n m t k).1 ≤ d) (by omega)]
      exact hv
    · rw [if_neg c, xvl]
      refine ih (((200 * t + i : Nat) : Int), i + 1) ⟨h, ?_⟩ (by show NS S A n m t - (i + 1) < NS S A n m t - i; omega)
      show ((200 * t + i : Nat) : Int) = if ldx (fun k => (stp S A n m t k).1 ≤ d) (fun k => (k : Int)) (-1) (i + 1) < 0 then -1 else 200 * (t : Int) + ldx (fun k => (stp S A n m t k).1 ≤ d) (fun k => (k : Int)) (-1) (i + 1)
      rw [ldx_yes (P := fun k => (stp S A n m t k).1 ≤ d) (by omega), if_neg (by omega)]
      omega
  · rw [if_neg (by omega)]
    have ei : i = NS S A n m t := by omega
    subst ei
    rw [hv]
    rfl
theorem ev_ix (hO : OK S) (ht : isT S (t : Int)) {d : Int} (h : ¬ sK_ S A n m t d < 0) : ∃ k : Nat, sK_ S A n m t d = (k : Int) ∧ k < NS S A n m t ∧ (if sK_ S A n m t d < 0 then -1 else 200 * (t : Int) + sK_ S A n m t d) = ((200 * t + k : Nat) : Int) ∧ (0 ≤ ((200 * t + k : Nat) : Int) ∧ ((200 * t + k : Nat) : Int) < 1600) := by
  have t8 := (isT_t hO ht).1
  have hNS := (NS_ok (A := A) (n := n) (m := m) hO ht).1
  rcases sK_rg S A n m t d with ⟨z, _⟩ | ⟨k, k1, k2, k3, _⟩
  · omega
  · exact ⟨k, k3, k1, by rw [if_neg h]; omega, by omega, by omega⟩
theorem m_stateOn (hU : PU S A n m) (h : MI σ S A n m) (ht : isT S (t : Int)) (d : Int) : ∃ σ', f_X11_stateOn σ (t : Int) d = some (σ', holdA S A n m t d) ∧ gx zNQ σ σ' ∧ MI σ' S A n m := by
  obtain ⟨σ', a1, a2, a3, a4, _⟩ := mi_ev hU h ht d
  refine ⟨σ', ?_, a2, a3⟩
  unfold f_X11_stateOn holdA
  rw [a1, Option.bind_some]
  try dsimp only
  by_cases c : sK_ S A n m t d < 0
  · simp only [if_pos c]; rfl
  · obtain ⟨k, k1, k2, k3, k4⟩ := ev_ix hU.1 ht c
    rw [k3, if_neg (by omega), if_pos k4, if_neg c, Int.toNat_natCast, k1, Int.toNat_natCast, (a4.2 k k2).2.1]
theorem m_lineOn (hU : PU S A n m) (h : MI σ S A n m) (ht : isT S (t : Int)) (d : Int) : ∃ σ', f_X11_lineOn σ (t : Int) d = some (σ', 0) ∧ gx zNQ σ σ' ∧ MI σ' S A n m ∧ ML σ' (lineA S A n m t d) := by
  obtain ⟨σ', a1, a2, a3, a4, _⟩ := mi_ev hU h ht d
  obtain ⟨t8, t2, t3, t4, t5, t6, t7⟩ := isT_t hU.1 ht
  have hr := rtA_ok hU ht d
  have fin : ∃ σ2, f_X11_lineOf σ' (t : Int) d (rtA S A n m t d : Int) = some (σ2, 0) ∧ gx zNQ σ σ2 ∧ MI σ2 S A n m ∧ ML σ2 (lineA S A n m t d) := by
    obtain ⟨σ2, b1, b2, b3, b4⟩ := m_lineOf hU.1 hU.2.1 hU.2.2 a3.1 a3.2.1 ht hr d
    exact ⟨σ2, b1, a2.tr (b2.mono (fun a k z => Or.inl (Or.inl (Or.inl z)))), mi_ch a3 hU.1 b2 (fun a k z => by unfold zLn zR at z; omega) (Or.inr b3) (fun _ => b3.1), b4⟩
  obtain ⟨σ2, b1, b2⟩ := fin
  refine ⟨σ2, ?_, b2⟩
  unfold f_X11_lineOn
  rw [a1, Option.bind_some]
  try dsimp only
  by_cases c : sK_ S A n m t d < 0
  · have e1 : (rtA S A n m t d : Int) = w1 S (stb S t) := by unfold rtA; rw [if_pos c]; exact (ow_ok hU.1 ht).2.1
    have f94 := a3.1.2.2.2.2.2 t t2
    obtain ⟨r1, r2, r3, r4, r5, r6, r7⟩ := a3.1.2.2.2.1 _ t3
    simp only [if_pos c]
    rw [if_pos (by omega), if_pos ⟨by omega, by omega⟩, Int.toNat_natCast, f94, xvl, if_pos ⟨by omega, by omega⟩, Int.toNat_natCast, r3, ← e1, b1, Option.bind_some]
  · obtain ⟨k, k1, k2, k3, k4⟩ := ev_ix hU.1 ht c
    have e1 : (rtA S A n m t d : Int) = ((stp S A n m t k).2.2.1 : Int) := by unfold rtA; rw [if_neg c, k1, Int.toNat_natCast]
    rw [k3, if_neg (by omega), if_pos k4, Int.toNat_natCast, (a4.2 k k2).2.2.1, ← e1, b1, Option.bind_some]
theorem m_begins (hU : PU S A n m) (ht : isT S (t : Int)) (hG : GO σ S A n m t) {k : Nat} (hk : k < NS S A n m t) : f_X11_begins σ (t : Int) (k : Int) = some (σ, xb (bgn S A n m t k)) := by
  have t8 := (isT_t hU.1 ht).1
  have hNS := NS_ok (A := A) (n := n) (m := m) hU.1 ht
  have le := hNS.2.2.1 k hk
  unfold f_X11_begins
  cases k with
  | zero => rw [if_pos (by omega), xb_pos (bgn_zero hU ht le)]
  | succ k =>
    have ei : xm_w (xm_w (200 * (t : Int)) + ((k + 1 : Nat) : Int)) = ((200 * t + (k + 1) : Nat) : Int) := by
      rw [xp_w (x := 200 * (t : Int)) (by omega) (by omega), xp_w (by omega) (by omega)]; omega
    have ej : xm_w (((200 * t + (k + 1) : Nat) : Int) - 1) = ((200 * t + k : Nat) : Int) := by
      rw [xp_w (by omega) (by omega)]; omega
    rw [if_neg (by omega), ei, ej, xvl, if_pos ⟨by omega, by omega⟩, xvl, if_pos ⟨by omega, by omega⟩, Int.toNat_natCast, Int.toNat_natCast, (hG.2 (k + 1) hk).2.2.2, (hG.2 k (by omega)).2.2.2]
    have b := bgn_succ hU ht le
    by_cases c : (stp S A n m t (k + 1)).2.2.2 = (stp S A n m t k).2.2.2
    · rw [if_pos c, xb_neg (fun z => b.mp z c)]
    · rw [if_neg c, xb_pos (b.mpr c)]
end XB
