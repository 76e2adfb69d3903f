/-! ===== questions of titles: pure, and the class ===== -/
section XA
variable (S : xS) (A : Nat → Nat) (n : Nat) (m : Nat → Int64) (t : Nat)
/-- the step of a day; -1 ahead of all -/
noncomputable def sK_ (d : Int) : Int := ldx (fun k => (stp S A n m t k).1 ≤ d) (fun k => (k : Int)) (-1) (NS S A n m t)
noncomputable def holdA (d : Int) : Int := if sK_ S A n m t d < 0 then -4 else (stp S A n m t (sK_ S A n m t d).toNat).2.1
noncomputable def sncA (d : Int) : Int := if sK_ S A n m t d < 0 then -1 else (stp S A n m t (sK_ S A n m t d).toNat).2.2.2
noncomputable def rtA (d : Int) : Nat := if sK_ S A n m t d < 0 then ow S t else (stp S A n m t (sK_ S A n m t d).toNat).2.2.1
noncomputable def lineA (d : Int) : List Nat := line S A n t d (rtA S A n m t d)
noncomputable def cohA (d : Int) : List Nat := if 0 ≤ sK_ S A n m t d ∧ (stp S A n m t (sK_ S A n m t d).toNat).2.1 = -2 then psC S A n m t (stp S A n m t (sK_ S A n m t d).toNat).1 (stp S A n m t (sK_ S A n m t d).toNat).2.2.1 else []
def bgn (k : Nat) : Prop := (stp S A n m t k).2.2.2 = (stp S A n m t k).1
noncomputable def tenN : Nat := cn (bgn S A n m t) (NS S A n m t)
noncomputable def tenK (i : Int) : Nat := fsx (fun k => bgn S A n m t k ∧ (cn (bgn S A n m t) k : Int) = i) (NS S A n m t)
end XA
/-- the class's world -/
def CI (σ : xm_Mem) (S : xS) (A : Nat → Nat) (n : Nat) (m : Nat → Int64) (e : Nat → Nat) : Prop := CS σ S e ∧ UO σ S (sn S) ∧ (FI σ S A n ∧ BD σ S m) ∧ ∀ t : Nat, isT S (t : Int) → (σ.1 (xm_cb t) 11 = 0 ∨ (σ.1 (xm_cb t) 11 = 1 ∧ KO σ S A n m t))
/-- what must hold of records and orders -/
def PU (S : xS) (A : Nat → Nat) (n : Nat) (m : Nat → Int64) : Prop := OK S ∧ AGE S A n ∧ BDY S A n m
/-- what questions change in the class -/
def zQ (a k : Nat) : Prop := (29 ≤ a ∧ a ≤ 83) ∨ a = 16 ∨ a = 17
section XC
variable {σ : xm_Mem} {S : xS} {A : Nat → Nat} {n : Nat} {m : Nat → Int64} {t : Nat} {e : Nat → Nat}
theorem ldx_rgK (P : Nat → Prop) : ∀ N, (ldx P (fun k => (k : Int)) (-1) N = -1 ∧ ∀ k, k < N → ¬ P k) ∨ ∃ k, k < N ∧ P k ∧ ldx P (fun k => (k : Int)) (-1) N = (k : Int) ∧ ∀ j, k < j → j < N → ¬ P j := by
  intro N
  induction N with
  | zero => exact Or.inl ⟨rfl, fun k h => absurd h (Nat.not_lt_zero _)⟩
  | succ N ih =>
    by_cases h : P N
    · exact Or.inr ⟨N, Nat.lt_succ_self N, h, ldx_yes h, fun j h1 h2 => absurd h2 (by omega)⟩
    · rw [ldx_no h]
      rcases ih with ⟨i1, i2⟩ | ⟨k, k1, k2, k3, k4⟩
      · refine Or.inl ⟨i1, fun k hk => ?_⟩
        by_cases q : k = N
        · subst q; exact h
        · exact i2 k (by omega)
      · refine Or.inr ⟨k, by omega, k2, k3, fun j h1 h2 => ?_⟩
        by_cases q : j = N
        · subst q; exact h
        · exact k4 j h1 (by omega)
theorem sK_rg (S : xS) (A : Nat → Nat) (n : Nat) (m : Nat → Int64) (t : Nat) (d : Int) : (sK_ S A n m t d = -1 ∧ ∀ k, k < NS S A n m t → ¬ (stp S A n m t k).1 ≤ d) ∨ ∃ k, k < NS S A n m t ∧ (stp S A n m t k).1 ≤ d ∧ sK_ S A n m t d = (k : Int) ∧ ∀ j, k < j → j < NS S A n m t → ¬ (stp S A n m t j).1 ≤ d := ldx_rgK _ _
theorem CI.co (hU : PU S A n m) (h : CI σ S A n m e) (ht : isT S (t : Int)) : ∃ σ', f_X10_courseOf σ (t : Int) = some (σ', (t : Int)) ∧ gx zQ σ σ' ∧ CI σ' S A n m e ∧ KO σ' S A n m t := by
  obtain ⟨hO, hA, hm⟩ := hU
  have t8 := (isT_t hO ht).1
  have cr := cb_rg t8
  obtain ⟨hC, hUO, ⟨hF, hB⟩, hK⟩ := h
  obtain ⟨σ', a1, a2, a3, a4, a5, a6⟩ := c_courseOf hO hA hm hC ht hF hB (hK t ht)
  refine ⟨σ', a1, a2.mono (fun a k z => by unfold zG at z; unfold zQ; omega), ⟨hC.gx a2 (zGC t8), ?_, ⟨a3, a4⟩, fun t' ht' => ?_⟩, a6⟩
  · refine hUO.fr (A := fun a => 29 ≤ a) ⟨fun a k z => a2.1 a k (fun y => z (by unfold zG at y; omega)), fun a k z => a2.2.1 a k (fun y => z (by unfold zG at y; omega)), a2.2.2⟩ (fun a h z => by unfold zU at z; omega)
  · by_cases q : t' = t
    · subst q; exact Or.inr ⟨a5, a6⟩
    · have t8' := (isT_t hO ht').1
      have o : ∀ a k, xm_cb t' ≤ a → a ≤ xm_cb t' + 5 → σ'.1 a k = σ.1 a k := fun a k h1 h2 => a2.1 a k (by unfold zG; unfold xm_cb at h1 h2 ⊢; omega)
      rcases hK t' ht' with z | ⟨z1, ⟨z2, z3⟩, z4, z5, z6⟩
      · exact Or.inl (by rw [o _ _ (by omega) (by omega)]; exact z)
      · refine Or.inr ⟨by rw [o _ _ (by omega) (by omega)]; exact z1, ⟨by rw [o _ _ (by omega) (by omega)]; exact z2, by rw [o _ _ (by omega) (by omega)]; exact z3⟩, fun p hp => by rw [o _ _ (by omega) (by omega)]; exact z4 p hp, by rw [o _ _ (by omega) (by omega)]; exact z5, fun k hk => ?_⟩
        rw [o _ _ (by omega) (by omega), o _ _ (by omega) (by omega), o _ _ (by omega) (by omega), o _ _ (by omega) (by omega)]
        exact z6 k hk
theorem c_stepOn (hO : OK S) (ht : isT S (t : Int)) (hK : KO σ S A n m t) (d : Int) : f_X1_stepOn t σ d = some (σ, sK_ S A n m t d) := by
  have hNS := NS_ok (A := A) (n := n) (m := m) hO ht
  unfold f_X1_stepOn f_X1_stepOn_l4
  refine it_T (γ := Nat) _ _ (fun (g : xm_Mem → Int → Int → Int → Option xm_Out) i => g σ d (ldx (fun k => (stp S A n m t k).1 ≤ d) (fun k => (k : Int)) (-1) i) (i : Int)) (fun i => i ≤ NS S A n m t) (fun i => NS S A n m t - i) (fun z => z = some (σ, sK_ S A n m t d)) ?_ xm_fuel 0 (Nat.zero_le _) (xfu (by show NS S A n m t - 0 < _; omega))
  intro self i hi ih
  show f_X1_stepOn_b4 t self σ d (ldx (fun k => (stp S A n m t k).1 ≤ d) (fun k => (k : Int)) (-1) i) (i : Int) = _
  unfold f_X1_stepOn_b4
  rw [hK.2.2.1]
  by_cases h : i < NS S A n m t
  · have nx := ih (i + 1) h (by omega)
    rw [if_pos (by omega), if_pos ⟨by omega, by omega⟩, Int.toNat_natCast, (hK.2.2.2 i h).1, xw1 (by omega)]
    by_cases c : d < (stp S A n m t i).1
    · rw [if_pos c]
      rw [ldx_no (P := fun k => (stp S A n m t k).1 ≤ d) (by omega)] at nx
      exact nx
    · rw [if_neg c]
      rw [ldx_yes (P := fun k => (stp S A n m t k).1 ≤ d) (by omega)] at nx
      exact nx
  · rw [if_neg (by omega)]
    have ei : i = NS S A n m t := by omega
    subst ei
    rfl
theorem c_isStep (hK : KO σ S A n m t) (x : Int) : f_X1_isStep t σ x = some (σ, xb (0 ≤ x ∧ x < NS S A n m t)) := by
  unfold f_X1_isStep
  rw [hK.2.2.1]
  (repeat' split) <;> first | (rw [xb_pos (by omega)]; done) | (rw [xb_neg (by omega)]; done)
theorem c_state (hO : OK S) (ht : isT S (t : Int)) (hK : KO σ S A n m t) (x : Int) : f_X1_state t σ x = some (σ, if 0 ≤ x ∧ x < NS S A n m t then (stp S A n m t x.toNat).2.1 else -4) := by
  have hNS := NS_ok (A := A) (n := n) (m := m) hO ht
  unfold f_X1_state
  rw [c_isStep hK, Option.bind_some]
  try dsimp only
  rw [xbi]
  by_cases h : 0 ≤ x ∧ x < NS S A n m t
  · rw [if_pos h, if_pos h, if_pos ⟨h.1, by omega⟩, (hK.2.2.2 x.toNat (by omega)).2.1]
  · rw [if_neg h, if_neg h]
theorem c_firstDay (hO : OK S) (ht : isT S (t : Int)) (hK : KO σ S A n m t) (x : Int) : f_X1_firstDay t σ x = some (σ, if 0 ≤ x ∧ x < NS S A n m t then (stp S A n m t x.toNat).2.2.2 else -1) := by
  have hNS := NS_ok (A := A) (n := n) (m := m) hO ht
  unfold f_X1_firstDay
  rw [c_isStep hK, Option.bind_some]
  try dsimp only
  rw [xbi]
  by_cases h : 0 ≤ x ∧ x < NS S A n m t
  · rw [if_pos h, if_pos h, if_pos ⟨h.1, by omega⟩, (hK.2.2.2 x.toNat (by omega)).2.2.2]
  · rw [if_neg h, if_neg h]
theorem sK_in (d : Int) : (sK_ S A n m t d < 0 ↔ ¬ (0 ≤ sK_ S A n m t d ∧ sK_ S A n m t d < NS S A n m t)) := by
  rcases sK_rg S A n m t d with ⟨h, _⟩ | ⟨k, k1, k2, k3, _⟩ <;> omega
theorem rtA_ok (hU : PU S A n m) (ht : isT S (t : Int)) (d : Int) : isP S (rtA S A n m t d : Int) := by
  unfold rtA
  split
  · exact (ow_ok hU.1 ht).1
  · exact (stp_ok hU.1 hU.2.1 hU.2.2 ht _).1
/-- a fill, within the class's world -/
theorem CI.fl (hU : PU S A n m) (h : CI σ S A n m e) (ht : isT S (t : Int)) (hK : KO σ S A n m t) {d : Int} (hd : 0 ≤ d ∧ d ≤ 99999) {r : Nat} (hr : isP S (r : Int)) : ∃ σ', f_X4_fill σ (rl S t) (r : Int) d (((xm_cb t + 1) : Nat) : Int) = some (σ', 0) ∧ gx zQ σ σ' ∧ CI σ' S A n m e ∧ KO σ' S A n m t ∧ LN σ' (line S A n t d r) := by
  obtain ⟨hC, hUO, ⟨hF, hB⟩, hKs⟩ := h
  obtain ⟨σ', a1, a2, a3, a4⟩ := c_fill hU.1 hU.2.1 hF ht hd hK.2.1 hr
  have o : ∀ a k, 35 ≤ a → σ'.1 a k = σ.1 a k := fun a k z => a2.1 a k (by unfold zL; omega)
  have ko : ∀ t' : Nat, t' < 8 → KO σ S A n m t' → KO σ' S A n m t' := by
    intro t' t8' ⟨⟨z2, z3⟩, z4, z5, z6⟩
    have cr := cb_rg t8'
    refine ⟨⟨by rw [o _ _ (by omega)]; exact z2, by rw [o _ _ (by omega)]; exact z3⟩, fun p hp => by rw [o _ _ (by omega)]; exact z4 p hp, by rw [o _ _ (by omega)]; exact z5, fun k hk => ?_⟩
    rw [o _ _ (by omega), o _ _ (by omega), o _ _ (by omega), o _ _ (by omega)]
    exact z6 k hk
  refine ⟨σ', a1, a2.gx.mono (fun a k z => by unfold zL at z; unfold zQ; omega), ⟨hC.fr (a2.mono zLC), hUO.fr a2 (fun a h z => by unfold zL at h; unfold zU at z; omega), ⟨a3, hB.gx a2.gx (fun a k z => by unfold zL at z; omega)⟩, fun t' ht' => ?_⟩, ko t (isT_t hU.1 ht).1 hK, a4⟩
  have t8' := (isT_t hU.1 ht').1
  have cr := cb_rg t8'
  rw [o _ _ (by omega)]
  rcases hKs t' ht' with z | ⟨z1, z2⟩
  · exact Or.inl z
  · exact Or.inr ⟨z1, ko t' t8' z2⟩
theorem c_lineUp (hU : PU S A n m) (h : CI σ S A n m e) (ht : isT S (t : Int)) (hK : KO σ S A n m t) {d : Int} (hd : 0 ≤ d ∧ d ≤ 99999) : ∃ σ', f_X1_lineUpOn t σ d = some (σ', 0) ∧ gx zQ σ σ' ∧ CI σ' S A n m e ∧ LN σ' (lineA S A n m t d) := by
  unfold f_X1_lineUpOn
  have hNS := NS_ok (A := A) (n := n) (m := m) hU.1 ht
  rw [c_stepOn hU.1 ht hK, Option.bind_some]
  try dsimp only
  rw [c_isStep hK, Option.bind_some]
  try dsimp only
  rw [xbi, hK.1.1, hK.1.2]
  have hr := rtA_ok hU ht d
  have fin : ∃ σ', f_X4_fill σ (rl S t) (rtA S A n m t d : Int) d (((xm_cb t + 1) : Nat) : Int) = some (σ', 0) ∧ gx zQ σ σ' ∧ CI σ' S A n m e ∧ LN σ' (lineA S A n m t d) := by
    obtain ⟨σ', a1, a2, a3, _, a4⟩ := h.fl hU ht hK hd hr
    exact ⟨σ', a1, a2, a3, a4⟩
  obtain ⟨σ', a1, a2⟩ := fin
  by_cases c : 0 ≤ sK_ S A n m t d ∧ sK_ S A n m t d < NS S A n m t
  · have e1 : (rtA S A n m t d : Int) = ((stp S A n m t (sK_ S A n m t d).toNat).2.2.1 : Int) := by unfold rtA; rw [if_neg (by omega)]
    rw [if_pos c, if_pos ⟨c.1, by omega⟩, (hK.2.2.2 (sK_ S A n m t d).toNat (by omega)).2.2.1, ← e1, a1, Option.bind_some]
    exact ⟨σ', rfl, a2⟩
  · have e1 : (rtA S A n m t d : Int) = (ow S t : Int) := by unfold rtA; rw [if_pos ((sK_in d).mpr c)]
    rw [if_neg c, ← e1, a1, Option.bind_some]
    exact ⟨σ', rfl, a2⟩
/-- what abeyance comes from -/
theorem stp_ab (hU : PU S A n m) (ht : isT S (t : Int)) {k : Nat} (h : (stp S A n m t k).2.1 = -2) : rl S t = 5 ∧ psR S A n t (stp S A n m t k).1 (stp S A n m t k).2.2.1 = (stp S A n m t k).2.2.1 ∧ (line S A n t (stp S A n m t k).1 (stp S A n m t k).2.2.1).length ≠ 0 ∧ psC S A n m t (stp S A n m t k).1 (stp S A n m t k).2.2.1 = (dsc S A n m (line S A n t (stp S A n m t k).1 (stp S A n m t k).2.2.1) (stp S A n m t k).2.2.1).2 := by
  obtain ⟨hO, hA, hm⟩ := hU
  have bo := bfr_ok hO hA hm ht k
  rw [bfr_stp] at h ⊢
  generalize (stp S A n m t k).1 = d at h ⊢
  generalize bfr S A n m t k = x at bo h ⊢
  by_cases l : lostP S t d
  · unfold dP at h
    rw [if_pos l] at h
    have h : (-3 : Int) = -2 := h
    omega
  · have eP : dP S A n m t x d = ((dP3 S A n t (dP2 S A n m t (dP1 S A n m t x d) d) d).1, (dP3 S A n t (dP2 S A n m t (dP1 S A n m t x d) d) d).2, if (dP3 S A n t (dP2 S A n m t (dP1 S A n m t x d) d) d).1 = x.1 then (dP1 S A n m t x d).2.2 else d) := by unfold dP; rw [if_neg l]
    rw [eP] at h ⊢
    obtain ⟨a1, a2⟩ := dP1_ok hO hA hm ht (d := d) bo.1 bo.2
    generalize dP1 S A n m t x d = y at a1 a2 h ⊢
    have h : (dP3 S A n t (dP2 S A n m t y d) d).1 = -2 := h
    show rl S t = 5 ∧ psR S A n t d (dP3 S A n t (dP2 S A n m t y d) d).2 = (dP3 S A n t (dP2 S A n m t y d) d).2 ∧ (line S A n t d (dP3 S A n t (dP2 S A n m t y d) d).2).length ≠ 0 ∧ psC S A n m t d (dP3 S A n t (dP2 S A n m t y d) d).2 = (dsc S A n m (line S A n t d (dP3 S A n t (dP2 S A n m t y d) d).2) (dP3 S A n t (dP2 S A n m t y d) d).2).2
    by_cases c : (dP2 S A n m t y d).1 = -2 ∧ callR S A n t d (dP2 S A n m t y d).2 < sn S
    · unfold dP3 at h
      rw [if_pos c] at h
      have := (callR_ok (A := A) (n := n) (t := t) hO c.2).2.1
      have h : w1 S (callR S A n t d (dP2 S A n m t y d).2) = -2 := h
      omega
    · have e3 : dP3 S A n t (dP2 S A n m t y d) d = dP2 S A n m t y d := by unfold dP3; rw [if_neg c]
      rw [e3] at h ⊢
      by_cases mp : must S t y.1 d
      · have e2 : dP2 S A n m t y d = (psS S A n m t d y.2.1, psR S A n t d y.2.1) := by unfold dP2; rw [if_pos mp]
        rw [e2] at h ⊢
        have h : psS S A n m t d y.2.1 = -2 := h
        show rl S t = 5 ∧ psR S A n t d (psR S A n t d y.2.1) = psR S A n t d y.2.1 ∧ (line S A n t d (psR S A n t d y.2.1)).length ≠ 0 ∧ psC S A n m t d (psR S A n t d y.2.1) = _
        rcases psS_ok hO hA hm ht (d := d) a1 with (z | ⟨q, q1, q2, _⟩) | z
        · omega
        · omega
        · exact ⟨z.2.1, psR_idem, z.2.2.1, by rw [(psS_idem (m := m)).2]; exact z.2.2.2⟩
      · have e2 : dP2 S A n m t y d = (bornA S A n t d y.2.1 y.1 y.2.2, y.2.1) := by unfold dP2; rw [if_neg mp]
        rw [e2] at h
        have := bornA_p (A := A) (n := n) (t := t) (d := d) (r := y.2.1) (s := y.1) (h := y.2.2) hO hA a1 (a2.resolve_left (fun z => mp (Or.inl z)))
        have h : bornA S A n t d y.2.1 y.1 y.2.2 = -2 := h
        have := this.1
        omega
theorem c_countTenures (hO : OK S) (ht : isT S (t : Int)) (hK : KO σ S A n m t) : f_X1_countTenures t σ = some (σ, (tenN S A n m t : Int)) := by
  have hNS := NS_ok (A := A) (n := n) (m := m) hO ht
  unfold f_X1_countTenures f_X1_countTenures_l4
  refine it_T (γ := Nat) _ _ (fun (g : xm_Mem → Int → Int → Option xm_Out) i => g σ (cn (bgn S A n m t) i : Int) (i : Int)) (fun i => i ≤ NS S A n m t) (fun i => NS S A n m t - i) (fun z => z = some (σ, (tenN S A n m t : Int))) ?_ xm_fuel 0 (Nat.zero_le _) (xfu (by show NS S A n m t - 0 < _; omega))
  intro self i hi ih
  show f_X1_countTenures_b4 t self σ (cn (bgn S A n m t) i : Int) (i : Int) = _
  unfold f_X1_countTenures_b4
  have hc := cn_le (bgn S A n m t) i
  rw [hK.2.2.1]
  by_cases h : i < NS S A n m t
  · have nx := ih (i + 1) h (by omega)
    have hg : 0 ≤ (i : Int) ∧ (i : Int) < 200 := ⟨by omega, by omega⟩
    obtain ⟨k1, k2, k3, k4⟩ := hK.2.2.2 i h
    rw [if_pos (by omega)]
    simp only [if_pos hg, Int.toNat_natCast, k1, k4]
    by_cases c : (stp S A n m t i).2.2.2 = (stp S A n m t i).1
    · rw [if_pos c, xw1 (by omega), xw1 (by omega)]
      rw [cn_yes (P := bgn S A n m t) c] at nx
      exact nx
    · rw [if_neg c, xw1 (by omega)]
      rw [cn_no (P := bgn S A n m t) c] at nx
      exact nx
  · rw [if_neg (by omega)]
    have ei : i = NS S A n m t := by omega
    subst ei
    rfl
theorem c_stepOfTenure (hO : OK S) (ht : isT S (t : Int)) (hK : KO σ S A n m t) (x : Int) : f_X1_stepOfTenure t σ x = some (σ, if tenK S A n m t x < NS S A n m t then (tenK S A n m t x : Int) else -1) := by
  have hNS := NS_ok (A := A) (n := n) (m := m) hO ht
  unfold f_X1_stepOfTenure f_X1_stepOfTenure_l4
  refine it_T (γ := Nat) _ _ (fun (g : xm_Mem → Int → Int → Int → Option xm_Out) i => g σ x (cn (bgn S A n m t) i : Int) (i : Int)) (fun i => i ≤ NS S A n m t ∧ ∀ k, k < i → ¬ (bgn S A n m t k ∧ (cn (bgn S A n m t) k : Int) = x)) (fun i => NS S A n m t - i) (fun z => z = some (σ, if tenK S A n m t x < NS S A n m t then (tenK S A n m t x : Int) else -1)) ?_ xm_fuel 0 ⟨Nat.zero_le _, fun k h => absurd h (Nat.not_lt_zero _)⟩ (xfu (by show NS S A n m t - 0 < _; omega))
  rintro self i ⟨hi, hno⟩ ih
  show f_X1_stepOfTenure_b4 t self σ x (cn (bgn S A n m t) i : Int) (i : Int) = _
  unfold f_X1_stepOfTenure_b4
  have hc := cn_le (bgn S A n m t) i
  rw [hK.2.2.1]
  by_cases h : i < NS S A n m t
  · have hg : 0 ≤ (i : Int) ∧ (i : Int) < 200 := ⟨by omega, by omega⟩
    obtain ⟨k1, k2, k3, k4⟩ := hK.2.2.2 i h
    have go : ¬ (bgn S A n m t i ∧ (cn (bgn S A n m t) i : Int) = x) → ∀ v, v = (cn (bgn S A n m t) (i + 1) : Int) → self σ x v (xm_w ((i : Int) + 1)) = some (σ, if tenK S A n m t x < NS S A n m t then (tenK S A n m t x : Int) else -1) := by
      intro z v hv
      rw [xw1 (by omega), hv]
      refine ih (i + 1) ⟨h, fun k hk => ?_⟩ (by omega)
      by_cases q : k = i
      · subst q; exact z
      · exact hno k (by omega)
    rw [if_pos (by omega)]
    simp only [if_pos hg, Int.toNat_natCast, k1, k4]
    by_cases c : (stp S A n m t i).2.2.2 = (stp S A n m t i).1
    · rw [if_pos c]
      by_cases d : (cn (bgn S A n m t) i : Int) = x
      · have ek : tenK S A n m t x = i := fsx_eq hi hno (fun _ => ⟨c, d⟩)
        rw [if_pos d, ek, if_pos h]
      · rw [if_neg d, xw1 (by omega)]
        exact go (fun z => d z.2) _ (by rw [cn_yes (P := bgn S A n m t) c])
    · rw [if_neg c]
      exact go (fun z => c z.1) _ (by rw [cn_no (P := bgn S A n m t) c])
  · have ek : tenK S A n m t x = NS S A n m t := fsx_eq (Nat.le_refl _) (fun k hk => hno k (by omega)) (fun z => absurd z (Nat.lt_irrefl _))
    rw [if_neg (by omega), ek, if_neg (Nat.lt_irrefl _)]
end XC
