/-! ===== the reference's bonds: each, and the first that is broken ===== -/
def ageOk (S : xS) (p d g : Int) : Prop := wBorn S p + 4000 ≤ d ∧ ¬ (0 ≤ wDead S p ∧ wDead S p < d - g)
def uni (S : xS) (r : Nat) : Prop := wK S r = 1 ∨ wK S r = 2
def hB1 (S : xS) (r : Nat) : Prop := (wK S r = 0 → (w2 S r < 0 ∨ wMale S (w2 S r)) ∧ (w3 S r < 0 ∨ ¬ wMale S (w3 S r))) ∧ (uni S r → wMale S (w1 S r) ∧ ¬ wMale S (w2 S r))
def hB2 (S : xS) (r : Nat) : Prop := wK S r = 3 → wBorn S (w1 S r) ≤ wD S r ∧ ¬ toldTwice S r
def hB3 (S : xS) (r : Nat) : Prop := wK S r = 0 → w3 S r < 0 ∨ ageOk S (w3 S r) (wD S r) 0
def hB4 (S : xS) (r : Nat) : Prop := wK S r = 0 → w2 S r < 0 ∨ ageOk S (w2 S r) (wD S r) 300
def hB5 (S : xS) (r : Nat) : Prop := uni S r → ageOk S (w1 S r) (wD S r) 0 ∧ ageOk S (w2 S r) (wD S r) 0
def hB6 (S : xS) (r : Nat) : Prop := uni S r → (cn (ahM S r) (sn S) % 2 = 0 ↔ wK S r = 1)
def hB7 (S : xS) (r : Nat) : Prop := wK S r = 1 → ∀ q, q < sn S → ¬ clash S r q
def hB8 (S : xS) (r : Nat) : Prop := (4 ≤ wK S r ∧ wK S r ≤ 6 → wBorn S (w1 S r) ≤ wD S r ∧ ¬ (0 ≤ wDead S (w1 S r) ∧ wDead S (w1 S r) < wD S r)) ∧ (5 ≤ wK S r → wD S (stb S (w2 S r).toNat) ≤ wD S r) ∧ (wK S r = 5 → ¬ toldTwice S r) ∧ (wK S r = 6 → wW S (stb S (w2 S r).toNat) = 5)
def hB9 (S : xS) (r : Nat) : Prop := 7 ≤ wK S r → (cn (ahM S r) (sn S) % 2 = 0 ↔ wK S r = 7) ∧ ∀ q, q < sn S → ¬ sameDay S r q
def hold (S : xS) (b : Nat) (r : Nat) : Prop := match b with
  | 1 => hB1 S r
  | 2 => hB2 S r
  | 3 => hB3 S r
  | 4 => hB4 S r
  | 5 => hB5 S r
  | 6 => hB6 S r
  | 7 => hB7 S r
  | 8 => hB8 S r
  | _ => hB9 S r
theorem xbi {α : Type} {P : Prop} (a b : α) : (if xb P = 0 then a else b) = @ite _ P (Classical.propDecidable _) b a := by
  by_cases h : P
  · rw [if_pos h, if_neg (by rw [xb_pos h]; decide)]
  · rw [if_neg h, if_pos (xb_neg h)]
theorem xm_rem2 : ∀ n : Nat, n < 256 → xm_rem (n : Nat) 2 = ((n % 2 : Nat) : Int) := by decide +kernel
section XO
variable {σ : xm_Mem} {S : xS}
/-- the first bond that some record that stands breaks, from b on; 0 if none -/
noncomputable def fstB (T : Nat → Prop) : Nat → Nat → Nat
  | 0, _ => 0
  | c + 1, b => @ite _ (T b) (Classical.propDecidable _) b (fstB T c (b + 1))
theorem fstB_s (T : Nat → Prop) (c b : Nat) : fstB T (c + 1) b = @ite _ (T b) (Classical.propDecidable _) b (fstB T c (b + 1)) := rfl
theorem fstB_congr {T U : Nat → Prop} : ∀ c b, (∀ i, b ≤ i → i < b + c → (∀ j, b ≤ j → j < i → ¬ T j) → (T i ↔ U i)) → fstB T c b = fstB U c b := by
  intro c
  induction c with
  | zero => intro b _; rfl
  | succ c ih =>
    intro b h
    have e := h b (Nat.le_refl _) (by omega) (fun j h1 h2 => absurd h1 (by omega))
    rw [fstB_s, fstB_s]
    by_cases t : T b
    · rw [if_pos t, if_pos (e.mp t)]
    · rw [if_neg t, if_neg (fun z => t (e.mpr z))]
      refine ih (b + 1) (fun i h1 h2 h3 => h i (by omega) (by omega) (fun j g1 g2 => ?_))
      by_cases q : j = b
      · subst q; exact t
      · exact h3 j (by omega) g2
def breaks (S : xS) (b : Nat) : Prop := ∃ r, r < sn S ∧ wS S r = 1 ∧ ¬ hold S b r
end XO
