/-! ===== the reference's bonds, second half ===== -/
/-- how many below n -/
noncomputable def cn (P : Nat → Prop) : Nat → Nat
  | 0 => 0
  | n + 1 => cn P n + @ite _ (P n) (Classical.propDecidable _) 1 0
theorem cn_yes {P : Nat → Prop} {n : Nat} (h : P n) : cn P (n + 1) = cn P n + 1 := by show cn P n + _ = _; rw [if_pos h]
theorem cn_no {P : Nat → Prop} {n : Nat} (h : ¬ P n) : cn P (n + 1) = cn P n := by show cn P n + _ = _; rw [if_neg h]; rfl
theorem cn_le (P : Nat → Prop) : ∀ n, cn P n ≤ n := by
  intro n
  induction n with
  | zero => exact Nat.le_refl _
  | succ n ih =>
    by_cases h : P n
    · rw [cn_yes h]; omega
    · rw [cn_no h]; omega
theorem cn_congr {P Q : Nat → Prop} : ∀ n, (∀ i, i < n → (P i ↔ Q i)) → cn P n = cn Q n := by
  intro n
  induction n with
  | zero => intro _; rfl
  | succ n ih =>
    intro h
    have e := ih (fun i hi => h i (by omega))
    by_cases p : P n
    · rw [cn_yes p, cn_yes ((h n (Nat.lt_succ_self n)).mp p), e]
    · rw [cn_no p, cn_no (fun q => p ((h n (Nat.lt_succ_self n)).mpr q)), e]
theorem cn_none {P : Nat → Prop} : ∀ n, (∀ i, i < n → ¬ P i) → cn P n = 0 := by
  intro n
  induction n with
  | zero => intro _; rfl
  | succ n ih => intro h; rw [cn_no (h n (Nat.lt_succ_self n)), ih (fun i hi => h i (by omega))]
theorem cn_one {P Q : Nat → Prop} {b : Nat} (hb : ¬ P b) (hq : ∀ i, Q i ↔ P i ∨ i = b) : ∀ n, b < n → cn Q n = cn P n + 1 := by
  intro n
  induction n with
  | zero => intro h; exact absurd h (Nat.not_lt_zero _)
  | succ n ih =>
    intro h
    by_cases e : b = n
    · subst e
      rw [cn_yes ((hq b).mpr (Or.inr rfl)), cn_no hb, cn_congr b (fun i hi => ⟨fun z => ((hq i).mp z).elim id (fun w => absurd w (by omega)), fun z => (hq i).mpr (Or.inl z)⟩)]
    · have := ih (by omega)
      by_cases p : P n
      · rw [cn_yes p, cn_yes ((hq n).mpr (Or.inl p))]; omega
      · rw [cn_no p, cn_no (fun z => ((hq n).mp z).elim p (fun w => e w.symm))]; exact this
section XO
variable {σ : xm_Mem} {S : xS}
def sameDay (S : xS) (r q : Nat) : Prop := q ≠ r ∧ wS S q = 1 ∧ 7 ≤ wK S q ∧ w2 S q = w2 S r ∧ wD S q = wD S r
theorem m_isOnly (hW : WF S) (hM : MS σ S) {r : Nat} (hr : r < sn S) : f_X11_isOnlyOfItsDay σ (r : Int) = some (σ, xb (∀ q, q < sn S → ¬ sameDay S r q)) := by
  unfold f_X11_isOnlyOfItsDay f_X11_isOnlyOfItsDay_l4
  have hn := hW.n
  obtain ⟨b1, b2, b3, b4, b5, b6, b7⟩ := hM.2.2.2.1 r hr
  have hg0 : 0 ≤ (r : Int) ∧ (r : Int) < 200 := ⟨by omega, by omega⟩
  refine it_T (γ := Nat) _ _ (fun (f : xm_Mem → Int → Int → Int → Option xm_Out) i => f σ (r : Int) (xb (∀ q, q < i → ¬ sameDay S r q)) (i : Int)) (fun i => i ≤ sn S) (fun i => sn S - i) (fun z => z = some (σ, xb (∀ q, q < sn S → ¬ sameDay S r q))) ?_ xm_fuel 0 (Nat.zero_le _) (xfu (by omega)) |> (fun z => by rw [show xb (∀ q, q < 0 → ¬ sameDay S r q) = 1 from xb_pos (fun q h => absurd h (Nat.not_lt_zero _))] at z; exact z)
  intro self i hi ih
  show f_X11_isOnlyOfItsDay_b4 self σ (r : Int) (xb (∀ q, q < i → ¬ sameDay S r q)) (i : Int) = _
  unfold f_X11_isOnlyOfItsDay_b4
  rw [hM.1]
  by_cases h : i < sn S
  · obtain ⟨a1, a2, a3, a4, a5, a6, a7⟩ := hM.2.2.2.1 i h
    have hg : 0 ≤ (i : Int) ∧ (i : Int) < 200 := ⟨by omega, by omega⟩
    have hst := hW.st h
    have go : ∀ v, v = xb (∀ q, q < i + 1 → ¬ sameDay S r q) → self σ (r : Int) v (xm_w ((i : Int) + 1)) = some (σ, xb (∀ q, q < sn S → ¬ sameDay S r q)) := by
      intro v hv
      subst hv
      rw [xw1 (by omega)]
      exact ih (i + 1) h (by omega)
    rw [if_pos (by omega)]
    simp only [Int.toNat_natCast, a1, a2, a4, a7, b2, b4, if_pos hg, if_pos hg0]
    by_cases c : ∀ q, q < i → ¬ sameDay S r q
    · rw [xb_pos c, if_neg (by decide)]
      have yes : sameDay S r i → (0 : Int) = xb (∀ q, q < i + 1 → ¬ sameDay S r q) := fun z => (xb_neg (fun w => w i (Nat.lt_succ_self i) z)).symm
      have no : ¬ sameDay S r i → (1 : Int) = xb (∀ q, q < i + 1 → ¬ sameDay S r q) := fun z => (xb_pos (fun q hq => by
        by_cases e : q = i
        · subst e; exact z
        · exact c q (by omega))).symm
      unfold sameDay at yes no
      (repeat' split) <;> first | (refine go _ (no (by omega)); done) | (refine go _ (yes ⟨by omega, by omega, by omega, by omega, by omega⟩); done)
    · rw [xb_neg c, if_pos rfl]
      exact go 0 (xb_neg (fun w => c (fun q hq => w q (by omega)))).symm
  · rw [if_neg (by omega)]
    have e : i = sn S := by omega
    subst e
    rfl
/-- a record comes ahead of another of its kin, as the reference counts -/
def samM (S : xS) (r k : Nat) : Prop := (wK S r ≤ 2 ∧ (wK S k = 1 ∨ wK S k = 2) ∧ w1 S k = w1 S r ∧ w2 S k = w2 S r) ∨ (3 ≤ wK S r ∧ 7 ≤ wK S k ∧ w2 S k = w2 S r)
def befM (S : xS) (r k : Nat) : Prop := wD S k < wD S r ∨ (wD S k = wD S r ∧ ((wK S k = wK S r ∧ k < r) ∨ (wK S k ≠ wK S r ∧ wK S k = 2)))
def ahM (S : xS) (r k : Nat) : Prop := k ≠ r ∧ wS S k = 1 ∧ samM S r k ∧ befM S r k
set_option maxRecDepth 20000 in
theorem m_ahead (hW : WF S) (hM : MS σ S) {r : Nat} (hr : r < sn S) : f_X11_ahead σ (r : Int) = some (σ, (cn (ahM S r) (sn S) : Int)) := by
  unfold f_X11_ahead f_X11_ahead_l4
  have hn := hW.n
  obtain ⟨b1, b2, b3, b4, b5, b6, b7⟩ := hM.2.2.2.1 r hr
  have hg0 : 0 ≤ (r : Int) ∧ (r : Int) < 200 := ⟨by omega, by omega⟩
  refine it_T (γ := Nat) _ _ (fun (f : xm_Mem → Int → Int → Int → Option xm_Out) i => f σ (r : Int) (cn (ahM S r) i : Int) (i : Int)) (fun i => i ≤ sn S) (fun i => sn S - i) (fun z => z = some (σ, (cn (ahM S r) (sn S) : Int))) ?_ xm_fuel 0 (Nat.zero_le _) (xfu (by omega))
  intro self i hi ih
  show f_X11_ahead_b4 self σ (r : Int) (cn (ahM S r) i : Int) (i : Int) = _
  unfold f_X11_ahead_b4
  rw [hM.1]
  have hc := cn_le (ahM S r) i
  by_cases h : i < sn S
  · obtain ⟨a1, a2, a3, a4, a5, a6, a7⟩ := hM.2.2.2.1 i h
    have hg : 0 ≤ (i : Int) ∧ (i : Int) < 200 := ⟨by omega, by omega⟩
    have hst := hW.st h
    have no : ¬ ahM S r i → self σ (r : Int) (cn (ahM S r) i : Int) (xm_w ((i : Int) + 1)) = some (σ, (cn (ahM S r) (sn S) : Int)) := by
      intro e
      have := ih (i + 1) h (by omega)
      rw [xw1 (by omega)]
      rw [cn_no e] at this
      exact this
    have no0 : ¬ ahM S r i → self σ (r : Int) (xm_w ((cn (ahM S r) i : Int) + 0)) (xm_w ((i : Int) + 1)) = some (σ, (cn (ahM S r) (sn S) : Int)) := by
      intro e
      rw [xp_w (x := (cn (ahM S r) i : Int) + 0) (by omega) (by omega), Int.add_zero]
      exact no e
    have yes : ahM S r i → self σ (r : Int) (xm_w ((cn (ahM S r) i : Int) + 1)) (xm_w ((i : Int) + 1)) = some (σ, (cn (ahM S r) (sn S) : Int)) := by
      intro e
      have := ih (i + 1) h (by omega)
      rw [xw1 (by omega), xw1 (by omega)]
      rw [cn_yes e] at this
      exact this
    have j1 : ∀ s, f_X11_ahead_j160 self σ 1 (r : Int) (cn (ahM S r) i : Int) (i : Int) s = if s = 0 then self σ (r : Int) (xm_w ((cn (ahM S r) i : Int) + 0)) (xm_w ((i : Int) + 1)) else self σ (r : Int) (xm_w ((cn (ahM S r) i : Int) + 1)) (xm_w ((i : Int) + 1)) := by
      intro s
      unfold f_X11_ahead_j160
      simp only [xvl]
      rw [if_neg (show ¬ (1 : Int) = 0 by decide)]
    have j0 : ∀ s, f_X11_ahead_j160 self σ 0 (r : Int) (cn (ahM S r) i : Int) (i : Int) s = self σ (r : Int) (xm_w ((cn (ahM S r) i : Int) + 0)) (xm_w ((i : Int) + 1)) := by
      intro s
      unfold f_X11_ahead_j160
      simp only [xvl, if_true, ite_self]
    rw [if_pos (by omega)]
    have j90 : ∀ s, s = 0 ∨ s = 1 → (s = 1 → samM S r i) → (s = 0 → ¬ samM S r i) → i ≠ r → wS S i = 1 → f_X11_ahead_j90 self σ s (r : Int) (cn (ahM S r) i : Int) (i : Int) = some (σ, (cn (ahM S r) (sn S) : Int)) := by
      intro s hs g1 g0 hir hst1
      unfold f_X11_ahead_j90
      simp only [Int.toNat_natCast, a1, a2, b1, b2, if_pos hg, if_pos hg0, f_X11_ahead_j155, f_X11_ahead_j159, j1, j0]
      unfold ahM at no0 yes
      unfold befM at no0 yes
      rcases hs with rfl | rfl
      · have q := g0 rfl
        have n0 := no0 (fun z => q z.2.2.1)
        simp only [if_true, ite_self]
        exact n0
      · have q := g1 rfl
        rw [if_neg (show ¬ (1 : Int) = 0 by decide)]
        (repeat' split) <;> first | (exact yes ⟨hir, hst1, q, by omega⟩) | (exact no0 (fun z => by have := z.2.2.2; omega))
    simp only [Int.toNat_natCast, a1, a4, a7, b1, b3, b4, if_pos hg, if_pos hg0, m_isOfTwo hW hM h, Option.bind_some, f_X11_ahead_j89]
    by_cases e1 : (i : Int) = r
    · rw [if_pos e1]; exact no (fun z => z.1 (by omega))
    rw [if_neg e1]
    by_cases e2 : wS S i = 0
    · rw [if_pos e2]; exact no (fun z => by have := z.2.1; omega)
    rw [if_neg e2]
    have hir : i ≠ r := by omega
    have hs1 : wS S i = 1 := by omega
    unfold samM at j90
    by_cases e3 : 2 < wK S r
    · rw [if_pos e3]
      by_cases e4 : wK S i < 7
      · rw [if_pos e4]; exact j90 0 (Or.inl rfl) (fun z => absurd z (by decide)) (fun _ => by omega) hir hs1
      · rw [if_neg e4]
        by_cases e5 : w2 S i = w2 S r
        · rw [if_pos e5]; exact j90 1 (Or.inr rfl) (fun _ => by omega) (fun z => absurd z (by decide)) hir hs1
        · rw [if_neg e5]; exact j90 0 (Or.inl rfl) (fun z => absurd z (by decide)) (fun _ => by omega) hir hs1
    · rw [if_neg e3]
      exact j90 _ (xb_01 _) (fun z => by have := xb_1.mp z; omega) (fun z => by have := xb_0.mp z; omega) hir hs1
  · have e : i = sn S := by omega
    subst e
    rw [if_neg (by omega)]
/-- another wed of one of the two is open on a day on which this one is -/
def clash (S : xS) (r q : Nat) : Prop := q ≠ r ∧ wS S q = 1 ∧ wK S q = 1 ∧ (w1 S q = w1 S r ∨ w2 S q = w2 S r) ∧ wD S q ≤ wOpen S r ∧ wD S r ≤ wOpen S q
set_option maxRecDepth 20000 in
theorem m_isAlone (hW : WF S) (hM : MS σ S) {r : Nat} (hr : r < sn S) : f_X11_isAlone σ (r : Int) = some (σ, xb (∀ q, q < sn S → ¬ clash S r q)) := by
  unfold f_X11_isAlone f_X11_isAlone_l11
  have hn := hW.n
  obtain ⟨b1, b2, b3, b4, b5, b6, b7⟩ := hM.2.2.2.1 r hr
  have hg0 : 0 ≤ (r : Int) ∧ (r : Int) < 200 := ⟨by omega, by omega⟩
  simp only [m_openTo hW hM hr, Option.bind_some]
  refine it_T (γ := Nat) _ _ (fun (f : xm_Mem → Int → Int → Int → Int → Option xm_Out) i => f σ (r : Int) (xb (∀ q, q < i → ¬ clash S r q)) (wOpen S r) (i : Int)) (fun i => i ≤ sn S) (fun i => sn S - i) (fun z => z = some (σ, xb (∀ q, q < sn S → ¬ clash S r q))) ?_ xm_fuel 0 (Nat.zero_le _) (xfu (by omega)) |> (fun z => by rw [show xb (∀ q, q < 0 → ¬ clash S r q) = 1 from xb_pos (fun q h => absurd h (Nat.not_lt_zero _))] at z; exact z)
  intro self i hi ih
  show f_X11_isAlone_b11 self σ (r : Int) (xb (∀ q, q < i → ¬ clash S r q)) (wOpen S r) (i : Int) = _
  unfold f_X11_isAlone_b11
  rw [hM.1]
  by_cases h : i < sn S
  · obtain ⟨a1, a2, a3, a4, a5, a6, a7⟩ := hM.2.2.2.1 i h
    have hg : 0 ≤ (i : Int) ∧ (i : Int) < 200 := ⟨by omega, by omega⟩
    have hst := hW.st h
    rw [if_pos (by omega)]
    by_cases c : ∀ q, q < i → ¬ clash S r q
    · have yes : clash S r i → self σ (r : Int) 0 (wOpen S r) (xm_w ((i : Int) + 1)) = some (σ, xb (∀ q, q < sn S → ¬ clash S r q)) := by
        intro z
        rw [xw1 (by omega), ← show xb (∀ q, q < i + 1 → ¬ clash S r q) = 0 from xb_neg (fun w => w i (Nat.lt_succ_self i) z)]
        exact ih (i + 1) h (by omega)
      have no : ¬ clash S r i → self σ (r : Int) 1 (wOpen S r) (xm_w ((i : Int) + 1)) = some (σ, xb (∀ q, q < sn S → ¬ clash S r q)) := by
        intro z
        rw [xw1 (by omega), ← show xb (∀ q, q < i + 1 → ¬ clash S r q) = 1 from xb_pos (fun q hq => by
          by_cases e : q = i
          · subst e; exact z
          · exact c q (by omega))]
        exact ih (i + 1) h (by omega)
      rw [xb_pos c, if_neg (by decide)]
      simp only [Int.toNat_natCast, a1, a2, a3, a4, a7, b2, b3, b4, if_pos hg, if_pos hg0, f_X11_isAlone_j86, m_openTo hW hM h, Option.bind_some]
      unfold clash at yes no
      (repeat' split) <;> first | (exfalso; omega) | (exact no (by omega)) | (exact yes (by omega))
    · rw [xb_neg c, if_pos rfl, xb_neg (fun z => c (fun q hq => z q (by omega)))]
  · rw [if_neg (by omega)]
    have e : i = sn S := by omega
    subst e
    rfl
end XO
