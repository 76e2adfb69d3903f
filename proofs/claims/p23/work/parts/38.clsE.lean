/-! ===== the class: the first bond that is broken is the reference's ===== -/
section XB
variable {σ : xm_Mem} {S : xS} {e : Nat → Nat}
def PJ (σ : xm_Mem) (i j : Nat) : Prop := (σ.1 19 i = σ.1 19 j ∨ σ.1 20 i = σ.1 20 j) ∧ σ.1 21 i ≤ σ.1 22 j ∧ σ.1 21 j ≤ σ.1 22 i
theorem r9_inner {i m : Nat} (him : i < m) (hm : m ≤ 200) (K : xm_Mem → Int → Option xm_Out) : f_X9_putSomebodyInTwo_l12 K xm_fuel σ (i : Int) 0 = @ite _ (∃ j, j < i ∧ PJ σ i j) (Classical.propDecidable _) (some (σ, 1)) (K σ (i : Int)) := by
  unfold f_X9_putSomebodyInTwo_l12
  refine it_T (γ := Nat) _ _ (fun (f : xm_Mem → Int → Int → Option xm_Out) j => f σ (i : Int) (j : Int)) (fun j => j ≤ i ∧ ∀ k, k < j → ¬ PJ σ i k) (fun j => i - j) (fun z => z = @ite _ (∃ j, j < i ∧ PJ σ i j) (Classical.propDecidable _) (some (σ, 1)) (K σ (i : Int))) ?_ xm_fuel 0 ⟨Nat.zero_le _, fun k h => absurd h (Nat.not_lt_zero _)⟩ (xfu (by omega))
  rintro self j ⟨hj, hno⟩ ih
  show f_X9_putSomebodyInTwo_b12 K self σ (i : Int) (j : Int) = _
  unfold f_X9_putSomebodyInTwo_b12
  by_cases h : j < i
  · have hgi : 0 ≤ (i : Int) ∧ (i : Int) < 200 := ⟨by omega, by omega⟩
    have hgj : 0 ≤ (j : Int) ∧ (j : Int) < 200 := ⟨by omega, by omega⟩
    have no : ¬ PJ σ i j → self σ (i : Int) (xm_w ((j : Int) + 1)) = @ite _ (∃ j, j < i ∧ PJ σ i j) (Classical.propDecidable _) (some (σ, 1)) (K σ (i : Int)) := by
      intro z
      rw [xw1 (by omega)]
      refine ih (j + 1) ⟨h, fun k hk => ?_⟩ (by omega)
      by_cases w : k = j
      · subst w; exact z
      · exact hno k (by omega)
    have yes : PJ σ i j → some (σ, (1 : Int)) = @ite _ (∃ j, j < i ∧ PJ σ i j) (Classical.propDecidable _) (some (σ, 1)) (K σ (i : Int)) := fun z => (if_pos ⟨j, h, z⟩).symm
    have j1 : (σ.1 19 i = σ.1 19 j ∨ σ.1 20 i = σ.1 20 j) → f_X9_putSomebodyInTwo_j52 self σ 1 (i : Int) (j : Int) = @ite _ (∃ j, j < i ∧ PJ σ i j) (Classical.propDecidable _) (some (σ, 1)) (K σ (i : Int)) := by
      intro z
      unfold f_X9_putSomebodyInTwo_j52
      rw [if_neg (by decide)]
      simp only [if_pos hgi, if_pos hgj, Int.toNat_natCast]
      by_cases a : σ.1 22 j < σ.1 21 i
      · rw [if_pos a]; exact no (fun w => by have := w.2.1; omega)
      · rw [if_neg a]
        by_cases b : σ.1 22 i < σ.1 21 j
        · rw [if_pos b]; exact no (fun w => by have := w.2.2; omega)
        · rw [if_neg b]; exact yes ⟨z, by omega, by omega⟩
    rw [if_pos (by omega)]
    simp only [if_pos hgi, if_pos hgj, Int.toNat_natCast]
    by_cases a : σ.1 19 i = σ.1 19 j
    · rw [if_pos a]; exact j1 (Or.inl a)
    · rw [if_neg a]
      by_cases b : σ.1 20 i = σ.1 20 j
      · rw [if_pos b]; exact j1 (Or.inr b)
      · rw [if_neg b]
        unfold f_X9_putSomebodyInTwo_j52
        rw [if_pos rfl]
        exact no (fun w => w.1.elim a b)
  · rw [if_neg (by omega), if_neg]
    rintro ⟨k, k1, k2⟩
    exact hno k (by omega) k2
theorem r9_two (hn : sn S ≤ 200) (hU : UO σ S (sn S)) : f_X9_putSomebodyInTwo σ = some (σ, xb (two S)) := by
  obtain ⟨m, u, u1, u2, u3, u4, u5⟩ := hU
  have hpj : (∃ i j, j < i ∧ i < m ∧ PJ σ i j) ↔ two S := by
    constructor
    · rintro ⟨i, j, h1, h2, h3⟩
      obtain ⟨a1, a2, a3, a4, a5⟩ := u3 i h2
      obtain ⟨b1, b2, b3, b4, b5⟩ := u3 j (by omega)
      unfold PJ at h3
      rw [a2, a3, a4, a5, b2, b3, b4, b5] at h3
      exact ⟨u i, u j, u4 j i h1 h2, a1.1, a1.2, b1.2, h3⟩
    · rintro ⟨r, q, h1, h2, h3, h4, h5⟩
      obtain ⟨i, i1, i2⟩ := u5 r h2 h3.1 h3.2
      obtain ⟨j, j1, j2⟩ := u5 q (by omega) h4.1 h4.2
      obtain ⟨a1, a2, a3, a4, a5⟩ := u3 i i1
      obtain ⟨b1, b2, b3, b4, b5⟩ := u3 j j1
      refine ⟨i, j, ?_, i1, ?_⟩
      · rcases Nat.lt_trichotomy j i with z | z | z
        · exact z
        · subst z; omega
        · have := u4 i j z j1; omega
      · unfold PJ
        rw [a2, a3, a4, a5, b2, b3, b4, b5, i2, j2]
        exact h5
  rw [← xb_congr hpj]
  unfold f_X9_putSomebodyInTwo f_X9_putSomebodyInTwo_l2
  refine it_T (γ := Nat) _ _ (fun (f : xm_Mem → Int → Option xm_Out) i => f σ (i : Int)) (fun i => i ≤ m ∧ ∀ a b, b < a → a < i → ¬ PJ σ a b) (fun i => m - i) (fun z => z = some (σ, xb (∃ i j, j < i ∧ i < m ∧ PJ σ i j))) ?_ xm_fuel 0 ⟨Nat.zero_le _, fun a b _ h => absurd h (Nat.not_lt_zero _)⟩ (xfu (by omega))
  rintro self i ⟨hi, hno⟩ ih
  show f_X9_putSomebodyInTwo_b2 self σ (i : Int) = _
  unfold f_X9_putSomebodyInTwo_b2
  rw [u1]
  by_cases h : i < m
  · rw [if_pos (by omega), r9_inner h (by omega)]
    by_cases z : ∃ j, j < i ∧ PJ σ i j
    · obtain ⟨j, j1, j2⟩ := z
      rw [if_pos ⟨j, j1, j2⟩, xb_pos ⟨i, j, j1, h, j2⟩]
    · rw [if_neg z, xw1 (by omega)]
      refine ih (i + 1) ⟨h, fun a b h1 h2 => ?_⟩ (by omega)
      by_cases w : a = i
      · subst w; exact fun y => z ⟨b, h1, y⟩
      · exact hno a b h1 (by omega)
  · rw [if_neg (by omega), xb_neg]
    rintro ⟨a, b, h1, h2, h3⟩
    exact hno a b h1 (by omega) h3
/-- what breaks a bond, as the class looks -/
def cT (S : xS) (b : Nat) : Prop := (b = 7 ∧ two S) ∨ ∃ r, r < sn S ∧ wS S r = 1 ∧ cbr S b r
/-- deaths are told once if bond 2 holds -/
theorem uq_of (hW : WF S) (h : ¬ cT S 2) : uq S := by
  intro p
  have once : ∀ r q, r < sn S → q < sn S → isDth S p r → isDth S p q → r = q := by
    intro r q hr hq a b
    apply Classical.byContradiction
    intro hne
    refine h (Or.inr ⟨r, hr, a.1, fun z => ?_⟩)
    exact (z a.2.1).2 ⟨q, hq, fun w => hne w.symm, b.1, by rw [a.2.1, b.2.1], by rw [a.2.2, b.2.2], fun w => by have := a.2.1; omega⟩
  obtain ⟨g1, g2, g3⟩ := fsx_spec (isDth S p) (sn S)
  have key : ∀ n, n ≤ sn S → ldx (isDth S p) (wD S) (-1) n = if fsx (isDth S p) (sn S) < n then wD S (fsx (isDth S p) (sn S)) else -1 := by
    intro n
    induction n with
    | zero => intro _; rfl
    | succ n ih =>
      intro hn
      by_cases d : isDth S p n
      · have e : fsx (isDth S p) (sn S) = n := by
          have hlt : fsx (isDth S p) (sn S) < sn S := by
            rcases Nat.lt_or_ge (fsx (isDth S p) (sn S)) (sn S) with z | z
            · exact z
            · exact absurd d (g3 n (by omega))
          exact once _ _ hlt (by omega) (g2 hlt) d
        rw [ldx_yes d, e, if_pos (Nat.lt_succ_self n)]
      · rw [ldx_no d, ih (by omega)]
        have : fsx (isDth S p) (sn S) ≠ n := fun z => by
          have := g2 (by omega)
          rw [z] at this
          exact d this
        by_cases lt : fsx (isDth S p) (sn S) < n
        · rw [if_pos lt, if_pos (by omega)]
        · rw [if_neg lt, if_neg (by omega)]
  exact key (sn S) (Nat.le_refl _)
theorem c_fb26 (hW : WF S) (hN : NM S) (hC : CS σ S e) (hP : PO σ S) (b : Nat) (hb : 1 ≤ b ∧ b ≤ 9) (hu : 3 ≤ b → uq S) (K : xm_Mem → Int → Option xm_Out) : f_X0_firstBroken_l26 K xm_fuel σ (b : Int) 0 = @ite _ (∃ r, r < sn S ∧ wS S r = 1 ∧ cbr S b r) (Classical.propDecidable _) (some (σ, (b : Int))) (K σ (b : Int)) := by
  unfold f_X0_firstBroken_l26
  have hn := hW.n
  have hbr : ∀ r, r < sn S → wS S r = 1 → f_X0_breaks σ (b : Int) (e r : Int) = some (σ, xb (cbr S b r)) := by
    intro r hr hs
    by_cases b1 : b = 1
    · subst b1; exact c_breaks1 hW hN hC hP hr hs
    · by_cases b2 : b = 2
      · subst b2; exact c_breaks2 hW hN hC hP hr hs
      · exact c_breaks hW hN (hu (by omega)) hC hP hr hs b ⟨by omega, hb.2⟩
  refine it_T (γ := Nat) _ _ (fun (f : xm_Mem → Int → Int → Option xm_Out) i => f σ (b : Int) (i : Int)) (fun i => i ≤ sn S ∧ ∀ r, r < i → ¬ (wS S r = 1 ∧ cbr S b r)) (fun i => sn S - i) (fun z => z = @ite _ (∃ r, r < sn S ∧ wS S r = 1 ∧ cbr S b r) (Classical.propDecidable _) (some (σ, (b : Int))) (K σ (b : Int))) ?_ xm_fuel 0 ⟨Nat.zero_le _, fun r h => absurd h (Nat.not_lt_zero _)⟩ (xfu (by omega))
  rintro self i ⟨hi, hno⟩ ih
  show f_X0_firstBroken_b26 K self σ (b : Int) (i : Int) = _
  unfold f_X0_firstBroken_b26
  rw [r7_size hC]
  simp only [Option.bind_some]
  by_cases h : i < sn S
  · obtain ⟨g1, g2, g3, g4, g5⟩ := hC.at h
    have go : ¬ (wS S i = 1 ∧ cbr S b i) → self σ (b : Int) (xm_w ((i : Int) + 1)) = @ite _ (∃ r, r < sn S ∧ wS S r = 1 ∧ cbr S b r) (Classical.propDecidable _) (some (σ, (b : Int))) (K σ (b : Int)) := by
      intro z
      rw [xw1 (by omega)]
      refine ih (i + 1) ⟨h, fun r hr => ?_⟩ (by omega)
      by_cases w : r = i
      · subst w; exact z
      · exact hno r (by omega)
    rw [if_pos (by omega), r7_standing hW hC h]
    simp only [Option.bind_some]
    by_cases s : wS S i = 0
    · rw [if_pos s, xvr _ (by decide), if_pos rfl]; exact go (by omega)
    · have s1 : wS S i = 1 := by rcases hW.st h with z | z; exact absurd z s; exact z
      rw [if_neg s, xvr _ g4, if_neg g5, hbr i h s1]
      simp only [Option.bind_some, xbi]
      by_cases t : cbr S b i
      · rw [if_pos t, if_pos ⟨i, h, s1, t⟩]
      · rw [if_neg t]; exact go (fun z => t z.2)
  · rw [if_neg (by omega), if_neg]
    rintro ⟨r, r1, r2⟩
    exact hno r (by omega) r2
theorem c_firstBroken (hW : WF S) (hN : NM S) (hC : CS σ S e) (hP : PO σ S) (hU : UO σ S (sn S)) : f_X0_firstBroken σ = some (σ, (fstB (cT S) 9 1 : Int)) := by
  unfold f_X0_firstBroken f_X0_firstBroken_l2
  refine it_T (γ := Nat) _ _ (fun (f : xm_Mem → Int → Option xm_Out) b => f σ (b : Int)) (fun b => ((1 ≤ b ∧ b ≤ 10) ∧ fstB (cT S) (10 - b) b = fstB (cT S) 9 1) ∧ (3 ≤ b → uq S)) (fun b => 10 - b) (fun z => z = some (σ, (fstB (cT S) 9 1 : Int))) ?_ xm_fuel 1 ⟨⟨⟨by decide, by decide⟩, rfl⟩, fun h => absurd h (by decide)⟩ (xfu (by decide))
  rintro self b ⟨⟨hb, hb2⟩, hu⟩ ih
  show f_X0_firstBroken_b2 self σ (b : Int) = _
  unfold f_X0_firstBroken_b2
  by_cases h : b = 10
  · subst h
    rw [if_pos (by decide), ← hb2]
    rfl
  · rw [if_neg (by omega)]
    have e1 : 10 - b = (10 - (b + 1)) + 1 := by omega
    rw [e1, fstB_s] at hb2
    have no : ¬ cT S b → self σ (xm_w ((b : Int) + 1)) = some (σ, (fstB (cT S) 9 1 : Int)) := by
      intro z
      rw [if_neg z] at hb2
      rw [xw1 (by omega)]
      refine ih (b + 1) ⟨⟨⟨by omega, by omega⟩, hb2⟩, fun h3 => ?_⟩ (by omega)
      by_cases b2 : b = 2
      · subst b2; exact uq_of hW z
      · exact hu (by omega)
    have yes : cT S b → some (σ, (b : Int)) = some (σ, (fstB (cT S) 9 1 : Int)) := by
      intro z
      rw [if_pos z] at hb2
      rw [← hb2]
    by_cases b7 : b = 7
    · have b7' : (b : Int) = 7 := by omega
      rw [if_pos b7', r9_two hW.n hU]
      simp only [Option.bind_some, xbi]
      by_cases t : two S
      · rw [if_pos t]; exact yes (Or.inl ⟨b7, t⟩)
      · rw [if_neg t, c_fb26 hW hN hC hP b ⟨hb.1, by omega⟩ hu]
        by_cases z : ∃ r, r < sn S ∧ wS S r = 1 ∧ cbr S b r
        · rw [if_pos z]; exact yes (Or.inr z)
        · rw [if_neg z]; exact no (fun w => w.elim (fun v => t v.2) z)
    · have b7' : ¬ (b : Int) = 7 := by omega
      rw [if_neg b7', c_fb26 hW hN hC hP b ⟨hb.1, by omega⟩ hu]
      by_cases z : ∃ r, r < sn S ∧ wS S r = 1 ∧ cbr S b r
      · rw [if_pos z]; exact yes (Or.inr z)
      · rw [if_neg z]; exact no (fun w => w.elim (fun v => b7 v.1) z)
theorem oL_eq (hu : uq S) (r : Nat) : oL S r = wOpen S r := by unfold oL wOpen; rw [hu, hu]
/-- both sides find the same first broken bond -/
theorem same_bond (hW : WF S) : fstB (cT S) 9 1 = fstB (breaks S) 9 1 := by
  refine fstB_congr 9 1 (fun b h1 h2 h3 => ?_)
  have hb : b = 1 ∨ b = 2 ∨ b = 3 ∨ b = 4 ∨ b = 5 ∨ b = 6 ∨ b = 7 ∨ b = 8 ∨ b = 9 := by omega
  have triv : b ≠ 6 → b ≠ 7 → b ≠ 9 → (∀ r, cbr S b r = ¬ hold S b r) → (cT S b ↔ breaks S b) := by
    intro _ n7 _ q
    unfold cT breaks
    simp only [q]
    exact ⟨fun z => z.elim (fun w => absurd w.1 n7) id, fun z => Or.inr z⟩
  rcases hb with rfl | rfl | rfl | rfl | rfl | rfl | rfl | rfl | rfl
  · exact triv (by decide) (by decide) (by decide) (fun _ => rfl)
  · exact triv (by decide) (by decide) (by decide) (fun _ => rfl)
  · exact triv (by decide) (by decide) (by decide) (fun _ => rfl)
  · exact triv (by decide) (by decide) (by decide) (fun _ => rfl)
  · exact triv (by decide) (by decide) (by decide) (fun _ => rfl)
  · unfold cT breaks
    refine ⟨fun z => (turns6 hW).mp (z.elim (fun w => absurd w.1 (by decide)) id), fun z => Or.inr ((turns6 hW).mpr z)⟩
  · have hu := uq_of hW (h3 2 (by decide) (by decide))
    unfold cT breaks
    constructor
    · rintro (⟨_, r, q, z1, z2, z3, z4, z5, z6, z7⟩ | ⟨r, _, _, z⟩)
      · rw [oL_eq hu] at z6 z7
        refine ⟨r, z2, z3.1, fun w => w z3.2 q (by omega) ⟨by omega, z4.1, z4.2, ?_, z7, z6⟩⟩
        rcases z5 with y | y
        · exact Or.inl y.symm
        · exact Or.inr y.symm
      · exact absurd z id
    · rintro ⟨r, r1, r2, r3⟩
      left
      refine ⟨rfl, ?_⟩
      apply Classical.byContradiction
      intro hn
      refine r3 (fun k q q1 q2 => ?_)
      obtain ⟨c1, c2, c3, c4, c5, c6⟩ := q2
      rcases Nat.lt_trichotomy q r with z | z | z
      · refine hn ⟨r, q, z, r1, ⟨r2, k⟩, ⟨c2, c3⟩, c4.elim (fun y => Or.inl y.symm) (fun y => Or.inr y.symm), by rw [oL_eq hu]; exact c6, by rw [oL_eq hu]; exact c5⟩
      · exact c1 z
      · exact hn ⟨q, r, z, q1, ⟨c2, c3⟩, ⟨r2, k⟩, c4, by rw [oL_eq hu]; exact c5, by rw [oL_eq hu]; exact c6⟩
  · exact triv (by decide) (by decide) (by decide) (fun _ => rfl)
  · unfold cT breaks
    refine ⟨fun z => (turns9 hW).mp (z.elim (fun w => absurd w.1 (by decide)) id), fun z => Or.inr ((turns9 hW).mpr z)⟩
def zPU (a : Nat) : Prop := zP a ∨ zU a
theorem zPUC : ∀ a, zPU a → zC a := fun a h => h.elim (zPC a) (zUC a)
/-- the class makes people and unions anew and looks for the first broken bond -/
theorem c_bond (hW : WF S) (hN : NM S) (hC : CS σ S e) : ∃ σ', f_X10_firstBrokenBond σ = some (σ', (fstB (breaks S) 9 1 : Int)) ∧ fr zPU σ σ' ∧ PO σ' S ∧ UO σ' S (sn S) := by
  unfold f_X10_firstBrokenBond
  obtain ⟨σ1, a1, a2, a3⟩ := r5_rebuild hW hC
  have hC1 := hC.fr (a2.mono zPC)
  obtain ⟨σ2, b1, b2, b3⟩ := r9_rebuild hW hC1 a3
  have hC2 := hC1.fr (b2.mono zUC)
  have hP2 := a3.fr b2 zUP
  refine ⟨σ2, ?_, (a2.mono (fun _ => Or.inl)).tr (b2.mono (fun _ => Or.inr)), hP2, b3⟩
  simp only [a1, b1, Option.bind_some, c_firstBroken hW hN hC2 hP2 b3, same_bond hW]
end XB
