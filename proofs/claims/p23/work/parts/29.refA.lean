/-! ===== loops; the reference's plain questions ===== -/
theorem it_T {α γ : Type} (b : α → α) (z : α) (app : α → γ → Option xm_Out) (Inv : γ → Prop) (μ : γ → Nat) (Q : Option xm_Out → Prop) (step : ∀ (self : α) (a : γ), Inv a → (∀ a', Inv a' → μ a' < μ a → Q (app self a')) → Q (app (b self) a)) : ∀ (n : Nat) (a : γ), Inv a → μ a < n → Q (app (xm_it b z n) a) := by
  intro n
  induction n with
  | zero => intro a _ h; exact absurd h (Nat.not_lt_zero _)
  | succ n ih => intro a ha hm; exact step _ a ha (fun a' h1 h2 => ih a' h1 (by omega))
theorem xw1 {i : Nat} (h : i < 1000000) : xm_w ((i : Int) + 1) = ((i + 1 : Nat) : Int) := by rw [xp_w (by omega) (by omega)]; omega
theorem xfu {k : Nat} (h : k < 100000) : k < xm_fuel := h
/-- the first place of a kind below n, or n -/
noncomputable def fsx (P : Nat → Prop) : Nat → Nat
  | 0 => 0
  | n + 1 => @ite _ (fsx P n < n) (Classical.propDecidable _) (fsx P n) (@ite _ (P n) (Classical.propDecidable _) n (n + 1))
theorem fsx_spec (P : Nat → Prop) : ∀ n, fsx P n ≤ n ∧ (fsx P n < n → P (fsx P n)) ∧ ∀ r, r < fsx P n → ¬ P r := by
  intro n
  induction n with
  | zero => exact ⟨Nat.le_refl _, fun h => absurd h (Nat.not_lt_zero _), fun r h => absurd h (Nat.not_lt_zero _)⟩
  | succ n ih =>
    obtain ⟨h1, h2, h3⟩ := ih
    unfold fsx
    by_cases c : fsx P n < n
    · rw [if_pos c]; exact ⟨by omega, fun _ => h2 c, h3⟩
    · have e : fsx P n = n := by omega
      rw [if_neg c]
      by_cases p : P n
      · rw [if_pos p]; exact ⟨by omega, fun _ => p, fun r hr => h3 r (by omega)⟩
      · rw [if_neg p]
        refine ⟨Nat.le_refl _, fun h => absurd h (by omega), fun r hr => ?_⟩
        by_cases q : r = n
        · subst q; exact p
        · exact h3 r (by omega)
theorem fsx_eq {P : Nat → Prop} {n m : Nat} (hm : m ≤ n) (h1 : ∀ r, r < m → ¬ P r) (h2 : m < n → P m) : fsx P n = m := by
  obtain ⟨g1, g2, g3⟩ := fsx_spec P n
  rcases Nat.lt_trichotomy (fsx P n) m with h | h | h
  · exact absurd (g2 (by omega)) (h1 _ h)
  · exact h
  · exact absurd (h2 (by omega)) (g3 _ h)
/-- the least of some, and of a -/
noncomputable def mnx (P : Nat → Prop) (f : Nat → Int) (a : Int) : Nat → Int
  | 0 => a
  | n + 1 => @ite _ (P n ∧ f n < mnx P f a n) (Classical.propDecidable _) (f n) (mnx P f a n)
theorem mnx_le {P : Nat → Prop} {f : Nat → Int} {a : Int} : ∀ n, mnx P f a n ≤ a ∧ (∀ r, r < n → P r → mnx P f a n ≤ f r) ∧ (mnx P f a n = a ∨ ∃ r, r < n ∧ P r ∧ mnx P f a n = f r) := by
  intro n
  induction n with
  | zero => exact ⟨Int.le_refl _, fun r h => absurd h (Nat.not_lt_zero _), Or.inl rfl⟩
  | succ n ih =>
    obtain ⟨h1, h2, h3⟩ := ih
    unfold mnx
    by_cases c : P n ∧ f n < mnx P f a n
    · rw [if_pos c]
      refine ⟨by omega, fun r hr hp => ?_, Or.inr ⟨n, by omega, c.1, rfl⟩⟩
      by_cases q : r = n
      · subst q; exact Int.le_refl _
      · have := h2 r (by omega) hp; omega
    · rw [if_neg c]
      refine ⟨h1, fun r hr hp => ?_, ?_⟩
      · by_cases q : r = n
        · subst q
          have : ¬ f r < mnx P f a r := fun z => c ⟨hp, z⟩
          omega
        · exact h2 r (by omega) hp
      · rcases h3 with h3 | ⟨r, g1, g2, g3⟩
        · exact Or.inl h3
        · exact Or.inr ⟨r, by omega, g2, g3⟩
theorem mnx_eq {P : Nat → Prop} {f : Nat → Int} {a v : Int} {n : Nat} (h1 : v ≤ a) (h2 : ∀ r, r < n → P r → v ≤ f r) (h3 : v = a ∨ ∃ r, r < n ∧ P r ∧ v = f r) : mnx P f a n = v := by
  obtain ⟨g1, g2, g3⟩ := mnx_le (P := P) (f := f) (a := a) n
  have a1 : mnx P f a n ≤ v := by
    rcases h3 with h3 | ⟨r, b1, b2, b3⟩
    · omega
    · rw [b3]; exact g2 r b1 b2
  have a2 : v ≤ mnx P f a n := by
    rcases g3 with g3 | ⟨r, b1, b2, b3⟩
    · omega
    · rw [b3]; exact h2 r b1 b2
  omega
-- what the records say
noncomputable def wDead (S : xS) (p : Int) : Int := if fsx (fun r => wS S r = 1 ∧ wK S r = 3 ∧ w1 S r = p) (sn S) < sn S then wD S (fsx (fun r => wS S r = 1 ∧ wK S r = 3 ∧ w1 S r = p) (sn S)) else -1
def wBorn (S : xS) (p : Int) : Int := wD S (sbb S p.toNat)
def wFa (S : xS) (p : Int) : Int := w2 S (sbb S p.toNat)
def wMo (S : xS) (p : Int) : Int := w3 S (sbb S p.toNat)
def wMale (S : xS) (p : Int) : Prop := wW S (sbb S p.toNat) = 1
def isPart (S : xS) (r q : Nat) : Prop := wS S q = 1 ∧ wK S q = 2 ∧ w1 S q = w1 S r ∧ w2 S q = w2 S r ∧ wD S r < wD S q
noncomputable def wNext (S : xS) (r : Nat) : Int := mnx (isPart S r) (wD S) 100000 (sn S)
noncomputable def lowD (a d : Int) : Int := if d < 0 then a else xm_min a d
noncomputable def wOpen (S : xS) (r : Nat) : Int := lowD (lowD (wNext S r - 1) (wDead S (w1 S r))) (wDead S (w2 S r))
def isWed (S : xS) (p q : Int) (r : Nat) : Prop := wS S r = 1 ∧ wK S r = 1 ∧ w1 S r = p ∧ w2 S r = q
def united (S : xS) (p q d : Int) : Prop := ∃ r, r < sn S ∧ isWed S p q r ∧ wD S r ≤ d ∧ d ≤ wOpen S r
def wLegit (S : xS) (p : Int) : Prop := 0 ≤ wFa S p ∧ 0 ≤ wMo S p ∧ (united S (wFa S p) (wMo S p) (wBorn S p) ∨ ((0 ≤ wDead S (wFa S p) ∧ wBorn S p - 300 ≤ wDead S (wFa S p) ∧ wDead S (wFa S p) ≤ wBorn S p) ∧ united S (wFa S p) (wMo S p) (wDead S (wFa S p))))
section XM
variable {σ : xm_Mem} {S : xS}
theorem WF.p (hW : WF S) {p : Int} (h0 : 0 ≤ p) (h1 : p < sp S) : sbb S p.toNat < sn S ∧ wK S (sbb S p.toNat) = 0 ∧ w1 S (sbb S p.toNat) = p ∧ p < 64 := by
  have := hW.2.2.1 p.toNat (by omega)
  have := hW.1
  exact ⟨by omega, by omega, by omega, by omega⟩
theorem WF.t (hW : WF S) {t : Int} (h0 : 0 ≤ t) (h1 : t < stn S) : stb S t.toNat < sn S ∧ wK S (stb S t.toNat) = 4 ∧ w2 S (stb S t.toNat) = t ∧ t < 8 := by
  have := hW.2.2.2 t.toNat (by omega)
  have := hW.1
  exact ⟨by omega, by omega, by omega, by omega⟩
theorem WF.day (hW : WF S) {r : Nat} (hr : r < sn S) : 0 ≤ wD S r ∧ wD S r ≤ 99999 := (hW.2.1 r hr).2.1
theorem WF.st (hW : WF S) {r : Nat} (hr : r < sn S) : wS S r = 0 ∨ wS S r = 1 := by have := (hW.2.1 r hr).2.2.1; omega
theorem WF.n (hW : WF S) : sn S ≤ 200 := hW.1.1
theorem WF.kd (hW : WF S) {r : Nat} (hr : r < sn S) : 0 ≤ wK S r ∧ wK S r ≤ 8 := (hW.2.1 r hr).1
theorem wDead_rg (hW : WF S) (p : Int) : -1 ≤ wDead S p ∧ wDead S p ≤ 99999 := by
  unfold wDead
  split
  · rename_i h
    have := hW.day h
    omega
  · omega
theorem wBorn_rg (hW : WF S) {p : Int} (h0 : 0 ≤ p) (h1 : p < sp S) : 0 ≤ wBorn S p ∧ wBorn S p ≤ 99999 := hW.day (hW.p h0 h1).1
end XM
