/-! ===== partner ===== -/
/-- a union that is open to one on a day -/
def opU (S : xS) (p d : Int) (r : Nat) : Prop := wS S r = 1 ∧ wK S r = 1 ∧ (w1 S r = p ∨ w2 S r = p) ∧ wD S r ≤ d ∧ d ≤ wOpen S r
noncomputable def prt (S : xS) (p d : Int) : Int := if fsx (opU S p d) (sn S) < sn S then (if w1 S (fsx (opU S p d) (sn S)) = p then w2 S (fsx (opU S p d) (sn S)) else w1 S (fsx (opU S p d) (sn S))) else -1
section XG
variable {σ σ1 τ τ1 : xm_Mem} {S : xS} {A : Nat → Nat} {n : Nat} {m : Nat → Int64} {t : Nat} {e : Nat → Nat} {B : Nat → Int} {s : Nat}
theorem c_otherIn (hO : OK S) (hUO : UO σ S (sn S)) (p d : Int) : f_X9_otherIn σ p d = some (σ, prt S p d) := by
  have hn := hO.1.1.1
  obtain ⟨k, u, u0, u1, u2, u3, u4⟩ := hUO
  have uinj : ∀ i j, i < k → j < k → u i < u j → i < j := by
    intro i j hi hj h
    rcases Nat.lt_trichotomy i j with y | y | y
    · exact y
    · subst y; omega
    · have := u3 j i y hi; omega
  unfold f_X9_otherIn f_X9_otherIn_l2
  refine it_T (γ := Nat) _ _ (fun (g : xm_Mem → Int → Int → Int → Option xm_Out) i => g σ p d (i : Int)) (fun i => i ≤ k ∧ ∀ j, j < i → ¬ opU S p d (u j)) (fun i => k - i) (fun z => z = some (σ, prt S p d)) ?_ xm_fuel 0 ⟨Nat.zero_le _, fun j h => absurd h (Nat.not_lt_zero _)⟩ (xfu (by show k - 0 < _; omega))
  rintro self i ⟨hi, hno⟩ ih
  show f_X9_otherIn_b2 _ _ self σ p d (i : Int) = _
  unfold f_X9_otherIn_b2
  rw [u0]
  by_cases h : i < k
  · obtain ⟨⟨v1, v2, v3⟩, v4, v5, v6, v7⟩ := u2 i h
    have gi : 0 ≤ (i : Int) ∧ (i : Int) < 200 := ⟨by omega, by omega⟩
    have eo : f_X9_isOpen σ (i : Int) d = some (σ, xb (wD S (u i) ≤ d ∧ d ≤ wOpen S (u i))) := by
      unfold f_X9_isOpen
      simp only [if_pos gi, Int.toNat_natCast, v6, v7]
      rw [oL_eq hO.uq]
      (repeat' split) <;> first | (rw [xb_pos (by omega)]; done) | (rw [xb_neg (by omega)]; done)
    have go : ¬ opU S p d (u i) → self σ p d (xm_w ((i : Int) + 1)) = some (σ, prt S p d) := by
      intro z
      rw [xw1 (by omega)]
      refine ih (i + 1) ⟨h, fun j hj => ?_⟩ (by omega)
      by_cases q : j = i
      · subst q; exact z
      · exact hno j (by omega)
    have found : opU S p d (u i) → fsx (opU S p d) (sn S) = u i := by
      intro z
      refine fsx_eq (by omega) (fun r hr y => ?_) (fun _ => z)
      obtain ⟨j, j1, j2⟩ := u4 r (by omega) y.1 y.2.1
      subst j2
      exact hno j (uinj j i j1 h hr) y
    rw [if_pos (by omega), eo, Option.bind_some]
    try dsimp only
    rw [xbi]
    by_cases o : wD S (u i) ≤ d ∧ d ≤ wOpen S (u i)
    · rw [if_pos o]
      simp only [if_pos gi, Int.toNat_natCast, v4, v5]
      by_cases c1 : w1 S (u i) = p
      · have z : opU S p d (u i) := ⟨v2, v3, Or.inl c1, o⟩
        rw [if_pos c1]
        unfold prt
        rw [found z, if_pos v1, if_pos c1]
      · rw [if_neg c1]
        by_cases c2 : w2 S (u i) = p
        · have z : opU S p d (u i) := ⟨v2, v3, Or.inr c2, o⟩
          rw [if_pos c2]
          unfold prt
          rw [found z, if_pos v1, if_neg c1]
        · rw [if_neg c2]
          exact go (fun z => z.2.2.1.elim c1 c2)
    · rw [if_neg o]
      exact go (fun z => o z.2.2.2)
  · have ek : fsx (opU S p d) (sn S) = sn S := fsx_eq (Nat.le_refl _) (fun r hr y => by
      obtain ⟨j, j1, j2⟩ := u4 r hr y.1 y.2.1
      subst j2
      exact hno j (by omega) y) (fun z => absurd z (Nat.lt_irrefl _))
    rw [if_neg (by omega)]
    unfold prt
    rw [ek, if_neg (Nat.lt_irrefl _)]
end XG
