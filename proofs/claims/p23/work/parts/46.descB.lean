/-! ===== the class: children, bodies ===== -/
def isCh (S : xS) (p c : Nat) : Prop := wLegit S c ∧ (wFa S c = (p : Int) ∨ wMo S c = (p : Int))
noncomputable def kidL (S : xS) (A : Nat → Nat) (n p : Nat) : List Nat := (pre A n).filter (fun c => dc (isCh S p c))
theorem kid_mem {S : xS} {A : Nat → Nat} {n p c : Nat} : c ∈ kidL S A n p ↔ (∃ i, i < n ∧ A i = c) ∧ isCh S p c := by
  unfold kidL
  rw [List.mem_filter, pre_mem, dc_t]
theorem filt_mono (A : Nat → Nat) (f : Nat → Bool) : ∀ n i, i ≤ n → ((pre A i).filter f).length ≤ ((pre A n).filter f).length := by
  intro n
  induction n with
  | zero => intro i h; have : i = 0 := by omega
            subst this; exact Nat.le_refl _
  | succ n ih =>
    intro i h
    by_cases e : i = n + 1
    · subst e; exact Nat.le_refl _
    · have := ih i (by omega)
      rw [pre_s, List.filter_append, List.length_append]
      omega
noncomputable def sK (S : xS) (A : Nat → Nat) (n : Nat) : Nat → Nat
  | 0 => 0
  | P + 1 => sK S A n P + (kidL S A n P).length
theorem cn_two {Q : Nat → Prop} {a b : Nat} (h : ∀ q, Q q → q = a ∨ q = b) : ∀ P, cn Q P ≤ (if a < P then 1 else 0) + (if b < P then 1 else 0) := by
  intro P
  induction P with
  | zero => exact Nat.zero_le _
  | succ P ih =>
    by_cases q : Q P
    · rw [cn_yes q]
      rcases h P q with e | e
      · subst e
        rw [if_neg (Nat.lt_irrefl _)] at ih
        rw [if_pos (Nat.lt_succ_self _)]
        (repeat' split) <;> (repeat' split at ih) <;> omega
      · subst e
        rw [if_neg (Nat.lt_irrefl P)] at ih
        rw [if_pos (Nat.lt_succ_self P)]
        (repeat' split) <;> (repeat' split at ih) <;> omega
    · rw [cn_no q]
      (repeat' split) <;> (repeat' split at ih) <;> omega
theorem kidL_s (S : xS) (A : Nat → Nat) (n p : Nat) : (kidL S A (n + 1) p).length = (kidL S A n p).length + @ite _ (isCh S p (A n)) (Classical.propDecidable _) 1 0 := by
  unfold kidL
  rw [pre_s]
  by_cases h : isCh S p (A n)
  · rw [filt_y (dc_y h), if_pos h, List.length_append]; rfl
  · rw [filt_n (fun z => h (dc_t.mp z)), if_neg h]; rfl
theorem sK_s (S : xS) (A : Nat → Nat) (n : Nat) : ∀ P, sK S A (n + 1) P = sK S A n P + cn (fun q => isCh S q (A n)) P := by
  intro P
  induction P with
  | zero => rfl
  | succ P ih =>
    show sK S A (n + 1) P + (kidL S A (n + 1) P).length = sK S A n P + (kidL S A n P).length + cn _ (P + 1)
    rw [ih, kidL_s]
    by_cases h : isCh S P (A n)
    · rw [cn_yes (P := fun q => isCh S q (A n)) h, if_pos h]; omega
    · rw [cn_no (P := fun q => isCh S q (A n)) h, if_neg h]; omega
theorem sK_le (S : xS) (A : Nat → Nat) (P : Nat) : ∀ n, sK S A n P ≤ 2 * n := by
  intro n
  induction n with
  | zero =>
    have : ∀ P, sK S A 0 P = 0 := by
      intro P
      induction P with
      | zero => rfl
      | succ P ih => show sK S A 0 P + _ = 0; rw [ih]; rfl
    rw [this]
    exact Nat.zero_le _
  | succ n ih =>
    rw [sK_s]
    have := cn_two (Q := fun q => isCh S q (A n)) (a := (wFa S (A n)).toNat) (b := (wMo S (A n)).toNat) (fun q h => by
      rcases h.2 with z | z
      · left; omega
      · right; omega) P
    have : (if (wFa S (A n)).toNat < P then 1 else 0) + (if (wMo S (A n)).toNat < P then 1 else 0) ≤ 2 := by (repeat' split) <;> omega
    omega
theorem sK_mono (S : xS) (A : Nat → Nat) (n : Nat) : ∀ Q P, P ≤ Q → sK S A n P ≤ sK S A n Q := by
  intro Q
  induction Q with
  | zero => intro P h; have : P = 0 := by omega
            subst this; exact Nat.le_refl _
  | succ Q ih =>
    intro P h
    by_cases e : P = Q + 1
    · subst e; exact Nat.le_refl _
    · have := ih P (by omega)
      show _ ≤ sK S A n Q + _
      omega
/-- the children's rows, as the class keeps them -/
def KD (σ : xm_Mem) (S : xS) (A : Nat → Nat) (n : Nat) : Prop := (∀ p, p ≤ 64 → σ.1 27 p = (sK S A n p : Int)) ∧ ∀ p, p < 64 → LA σ 26 (sK S A n p) (kidL S A n p)
def BDY (S : xS) (A : Nat → Nat) (n : Nat) (m : Nat → Int64) : Prop := ∀ i, i < n → ∀ q, q < 64 → (bt (m (A i)) q ↔ q = A i ∨ ∃ j, j < n ∧ isCh S (A i) (A j) ∧ bt (m (A j)) q)
section XB
variable {σ : xm_Mem} {S : xS} {A : Nat → Nat} {n : Nat}
theorem kid_rg (hO : OK S) (hA : AGE S A n) {p c : Nat} (h : c ∈ kidL S A n p) : isP S (c : Int) ∧ p < c ∧ c < 64 ∧ isP S (p : Int) ∧ wBorn S p + 4000 ≤ wBorn S c := by
  obtain ⟨⟨i, i1, i2⟩, l, h2⟩ := kid_mem.mp h
  have hc := hA.2.1 i i1
  rw [i2] at hc
  have hf := hO.fa hc.1
  have hm := hO.mo hc.1
  refine ⟨hc.1, ?_, hc.2, ?_, ?_⟩
  · rcases h2 with z | z
    · rw [z] at hf; rcases hf with y | y <;> omega
    · rw [z] at hm; rcases hm with y | y <;> omega
  · rcases h2 with z | z
    · rw [z] at hf; rcases hf with y | y
      · omega
      · exact y.1
    · rw [z] at hm; rcases hm with y | y
      · omega
      · exact y.1
  · rcases h2 with z | z
    · rw [z] at hf; rcases hf with y | y
      · omega
      · exact y.2.2.1
    · rw [z] at hm; rcases hm with y | y
      · omega
      · exact y.2.2.1
theorem DA.fr {σ' : xm_Mem} {Z : Nat → Prop} (h : DA σ S A n) (hf : fr Z σ σ') (hz : ∀ a, Z a → ¬ (23 ≤ a ∧ a ≤ 25)) : DA σ' S A n := by
  have o : ∀ a k, (23 ≤ a ∧ a ≤ 25) → σ'.1 a k = σ.1 a k := fun a k z => hf.1 a k (fun w => hz a w z)
  exact ⟨by rw [o 23 3 (by omega)]; exact h.1, fun i hi => by rw [o 25 i (by omega)]; exact h.2.1 i hi, fun p hp => by rw [o 24 p (by omega)]; exact h.2.2 p hp⟩
theorem c_isLegit (hD : DA σ S A n) {p : Nat} (hp : p < 64) : f_X2_isLegit σ (p : Int) = some (σ, xb (isP S (p : Int) ∧ wLegit S p)) := by
  unfold f_X2_isLegit f_X10_isPersonNumber
  rw [if_neg (by omega), if_pos (by omega), Option.bind_some]
  try dsimp only
  rw [if_neg (by decide), if_pos ⟨by omega, by omega⟩, Int.toNat_natCast, hD.2.2 p hp, xbi]
  by_cases h : isP S (p : Int) ∧ wLegit S p
  · rw [if_pos h, xb_pos h]
  · rw [if_neg h, xb_neg h]
theorem c_kids1 (hO : OK S) (hA : AGE S A n) (hP : PO σ S) (hD : DA σ S A n) {p : Nat} (hp : p < 64) (K : xm_Mem → Int → Int → Option xm_Out) :
    ∃ σ', f_X2_listKids_l19 K xm_fuel σ (sK S A n p : Int) (p : Int) 0 = K σ' (sK S A n (p + 1) : Int) (p : Int) ∧ fr (fun a => a = 26) σ σ' ∧ (∀ j, j < sK S A n p → σ'.1 26 j = σ.1 26 j) ∧ LA σ' 26 (sK S A n p) (kidL S A n p) := by
  unfold f_X2_listKids_l19
  have h64 := hA.1
  have hs := sK_le S A (p + 1) n
  have hs2 : sK S A n (p + 1) = sK S A n p + (kidL S A n p).length := rfl
  refine it_T (γ := xm_Mem × Nat) _ _ (fun (g : xm_Mem → Int → Int → Int → Option xm_Out) a => g a.1 ((sK S A n p + (kidL S A a.2 p).length : Nat) : Int) (p : Int) (a.2 : Int)) (fun a => a.2 ≤ n ∧ fr (fun a => a = 26) σ a.1 ∧ (∀ j, j < sK S A n p → a.1.1 26 j = σ.1 26 j) ∧ LA a.1 26 (sK S A n p) (kidL S A a.2 p)) (fun a => n - a.2) (fun z => ∃ σ', z = K σ' (sK S A n (p + 1) : Int) (p : Int) ∧ fr (fun a => a = 26) σ σ' ∧ (∀ j, j < sK S A n p → σ'.1 26 j = σ.1 26 j) ∧ LA σ' 26 (sK S A n p) (kidL S A n p)) ?_ xm_fuel (σ, 0) ⟨Nat.zero_le _, fr.rf _ _, fun j _ => rfl, LA.nil⟩ (xfu (by show n - 0 < _; omega))
  rintro self ⟨τ, i⟩ ⟨hi, hf, hk, hl⟩ ih
  replace hi : i ≤ n := hi
  replace hf : fr (fun a => a = 26) σ τ := hf
  replace hk : ∀ j, j < sK S A n p → τ.1 26 j = σ.1 26 j := hk
  replace hl : LA τ 26 (sK S A n p) (kidL S A i p) := hl
  have hPτ : PO τ S := hP.fr hf (fun a h z => by unfold zP at z; omega)
  have hDτ : DA τ S A n := hD.fr hf (fun a h z => by omega)
  show ∃ σ', f_X2_listKids_b19 K self τ ((sK S A n p + (kidL S A i p).length : Nat) : Int) (p : Int) (i : Int) = _ ∧ _
  unfold f_X2_listKids_b19
  rw [hDτ.1]
  by_cases h : i < n
  · have hc := hA.2.1 i h
    have mono := filt_mono A (fun c => dc (isCh S p c)) n (i + 1) h
    have mono2 : (kidL S A (i + 1) p).length ≤ (kidL S A n p).length := mono
    rw [if_pos (by omega), if_pos ⟨by omega, by omega⟩]
    simp only [xvl, Int.toNat_natCast, hDτ.2.1 i h, c_father hO.1 hPτ hc.1, c_mother hO.1 hPτ hc.1, Option.bind_some]
    have no : ¬ isCh S p (A i) → ∃ σ', self τ ((sK S A n p + (kidL S A i p).length : Nat) : Int) (p : Int) (xm_w ((i : Int) + 1)) = K σ' (sK S A n (p + 1) : Int) (p : Int) ∧ fr (fun a => a = 26) σ σ' ∧ (∀ j, j < sK S A n p → σ'.1 26 j = σ.1 26 j) ∧ LA σ' 26 (sK S A n p) (kidL S A n p) := by
      intro z
      have e : kidL S A (i + 1) p = kidL S A i p := by unfold kidL; rw [pre_s]; exact filt_n (fun y => z (dc_t.mp y))
      rw [xw1 (by omega), ← e]
      exact ih (τ, i + 1) ⟨h, hf, hk, by show LA τ 26 _ (kidL S A (i + 1) p); rw [e]; exact hl⟩ (by show n - (i + 1) < n - i; omega)
    have yes : isCh S p (A i) → ∃ σ', self (xm_u1 τ 26 (sK S A n p + (kidL S A i p).length) (A i : Int)) (xm_w (((sK S A n p + (kidL S A i p).length : Nat) : Int) + 1)) (p : Int) (xm_w ((i : Int) + 1)) = K σ' (sK S A n (p + 1) : Int) (p : Int) ∧ fr (fun a => a = 26) σ σ' ∧ (∀ j, j < sK S A n p → σ'.1 26 j = σ.1 26 j) ∧ LA σ' 26 (sK S A n p) (kidL S A n p) := by
      intro z
      have e : kidL S A (i + 1) p = kidL S A i p ++ [A i] := by unfold kidL; rw [pre_s]; exact filt_y (dc_y z)
      have el : sK S A n p + (kidL S A i p).length + 1 = sK S A n p + (kidL S A (i + 1) p).length := by rw [e, List.length_append]; rfl
      rw [xw1 (by omega), xw1 (by omega), el]
      refine ih (_, i + 1) ⟨h, hf.u1 rfl, fun j hj => ?_, ?_⟩ (by show n - (i + 1) < n - i; omega)
      · show (xm_u1 τ 26 _ _).1 26 j = _
        rw [xu11, if_neg (by omega)]
        exact hk j hj
      · show LA (xm_u1 τ 26 _ _) 26 _ (kidL S A (i + 1) p)
        rw [e]
        refine hl.app (fun j hj => ?_) ?_
        · rw [xu11, if_neg (by omega)]
        · rw [xu11, if_pos ⟨rfl, rfl⟩]
    have ell : isCh S p (A i) → (kidL S A (i + 1) p).length = (kidL S A i p).length + 1 := fun z => by rw [kidL_s, if_pos z]
    have j66 : ∀ s0 : Int, (s0 = 0 ↔ ¬ (wFa S (A i) = (p : Int) ∨ wMo S (A i) = (p : Int))) → ∃ σ', f_X2_listKids_j66 self τ s0 ((sK S A n p + (kidL S A i p).length : Nat) : Int) (p : Int) (i : Int) (A i : Int) = K σ' (sK S A n (p + 1) : Int) (p : Int) ∧ fr (fun a => a = 26) σ σ' ∧ (∀ j, j < sK S A n p → σ'.1 26 j = σ.1 26 j) ∧ LA σ' 26 (sK S A n p) (kidL S A n p) := by
      intro s0 hs0
      unfold f_X2_listKids_j66
      rw [c_isLegit hDτ hc.2, Option.bind_some]
      try dsimp only
      rw [xbi]
      by_cases l : isP S (A i : Int) ∧ wLegit S (A i)
      · rw [if_pos l]
        by_cases z : s0 = 0
        · rw [if_pos z]
          exact no (fun y => hs0.mp z y.2)
        · rw [if_neg z]
          have y : isCh S p (A i) := ⟨l.2, Classical.byContradiction (fun w => z (hs0.mpr w))⟩
          have := ell y
          rw [if_pos (by omega), if_pos ⟨by omega, by omega⟩]
          simp only [xst, Int.toNat_natCast]
          exact yes y
      · rw [if_neg l]
        exact no (fun y => l ⟨hc.1, y.1⟩)
    unfold f_X2_listKids_j61
    by_cases a : wFa S (A i) = (p : Int)
    · rw [if_pos a]; exact j66 1 ⟨fun z => absurd z (by decide), fun z => absurd (Or.inl a) z⟩
    · rw [if_neg a]
      by_cases b : wMo S (A i) = (p : Int)
      · rw [if_pos b]; exact j66 1 ⟨fun z => absurd z (by decide), fun z => absurd (Or.inr b) z⟩
      · rw [if_neg b]; exact j66 0 ⟨fun _ z => z.elim a b, fun _ => rfl⟩
  · rw [if_neg (by omega)]
    have e : i = n := by omega
    subst e
    exact ⟨τ, rfl, hf, hk, hl⟩
theorem c_listKids (hO : OK S) (hA : AGE S A n) (hP : PO σ S) (hD : DA σ S A n) : ∃ σ', f_X2_listKids σ = some (σ', 0) ∧ fr (fun a => a = 26 ∨ a = 27) σ σ' ∧ KD σ' S A n := by
  unfold f_X2_listKids f_X2_listKids_l4
  refine it_T (γ := xm_Mem × Nat) _ _ (fun (g : xm_Mem → Int → Int → Option xm_Out) a => g a.1 (sK S A n a.2 : Int) (a.2 : Int)) (fun a => a.2 ≤ 64 ∧ fr (fun a => a = 26 ∨ a = 27) σ a.1 ∧ (∀ p, p < a.2 → a.1.1 27 p = (sK S A n p : Int)) ∧ ∀ p, p < a.2 → LA a.1 26 (sK S A n p) (kidL S A n p)) (fun a => 64 - a.2) (fun z => ∃ σ', z = some (σ', 0) ∧ fr (fun a => a = 26 ∨ a = 27) σ σ' ∧ KD σ' S A n) ?_ xm_fuel (σ, 0) ⟨Nat.zero_le _, fr.rf _ _, fun p h => absurd h (Nat.not_lt_zero _), fun p h => absurd h (Nat.not_lt_zero _)⟩ (xfu (by show 64 - 0 < _; decide))
  rintro self ⟨τ, p⟩ ⟨hp, hf, h27, h26⟩ ih
  replace hp : p ≤ 64 := hp
  replace hf : fr (fun a => a = 26 ∨ a = 27) σ τ := hf
  replace h27 : ∀ q, q < p → τ.1 27 q = (sK S A n q : Int) := h27
  replace h26 : ∀ q, q < p → LA τ 26 (sK S A n q) (kidL S A n q) := h26
  show ∃ σ', f_X2_listKids_b4 _ self τ (sK S A n p : Int) (p : Int) = _ ∧ _
  unfold f_X2_listKids_b4
  by_cases h : p < 64
  · have f1 : fr (fun a => a = 26 ∨ a = 27) σ (xm_u1 τ 27 p (sK S A n p : Int)) := hf.u1 (Or.inr rfl)
    obtain ⟨σ2, a1, a2, a3, a4⟩ := c_kids1 hO hA (hP.fr f1 (fun a h z => by unfold zP at z; omega)) (hD.fr f1 (fun a h z => by omega)) h (fun σ_28 x1_28 x2_28 => self σ_28 x1_28 (xm_w (x2_28 + 1)))
    rw [if_pos (by omega), if_pos ⟨by omega, by omega⟩, xst, Int.toNat_natCast, a1, xw1 (by omega)]
    refine ih (σ2, p + 1) ⟨h, f1.tr (a2.mono (fun b hb => Or.inl hb)), fun q hq => ?_, fun q hq => ?_⟩ (by show 64 - (p + 1) < 64 - p; omega)
    · have hq : q < p + 1 := hq
      show σ2.1 27 q = _
      rw [a2.1 27 q (by decide), xu11]
      by_cases e : q = p
      · subst e; rw [if_pos ⟨rfl, rfl⟩]
      · rw [if_neg (by omega)]; exact h27 q (by omega)
    · have hq : q < p + 1 := hq
      show LA σ2 26 _ _
      by_cases e : q = p
      · subst e; exact a4
      · have hm := sK_mono S A n p (q + 1) (by omega)
        have hm : sK S A n q + (kidL S A n q).length ≤ sK S A n p := hm
        refine (h26 q (by omega)).eq (fun i hi => ?_)
        rw [a3 _ (by omega), xu11, if_neg (by omega)]
  · rw [if_neg (by omega)]
    dsimp only
    rw [if_pos (by decide), xst]
    have e : p = 64 := by omega
    subst e
    refine ⟨_, rfl, hf.u1 (Or.inr rfl), fun q hq => ?_, fun q hq => (h26 q hq).eq (fun i _ => ?_)⟩
    · rw [xu11]
      by_cases e : q = 64
      · subst e; rw [if_pos ⟨rfl, rfl⟩]
      · rw [if_neg (fun z => e z.2)]; exact h27 q (by omega)
    · rw [xu11, if_neg (by omega)]
theorem c_kidCount (hA : AGE S A n) (hK : KD σ S A n) {p : Nat} (hp : p < 64) : f_X2_kidCount σ (p : Int) = some (σ, ((kidL S A n p).length : Int)) := by
  unfold f_X2_kidCount
  have h1 := sK_le S A (p + 1) n
  have h2 := hA.1
  have h3 : sK S A n (p + 1) = sK S A n p + (kidL S A n p).length := rfl
  rw [if_neg (by omega), if_pos (by omega), xw1 (by omega), xvl, if_pos ⟨by omega, by omega⟩, if_pos ⟨by omega, by omega⟩, Int.toNat_natCast, Int.toNat_natCast, hK.1 _ (by omega), hK.1 _ (by omega), xp_w (by omega) (by omega)]
  congr 2
  omega
theorem c_kid (hA : AGE S A n) (hK : KD σ S A n) {p i : Nat} (hp : p < 64) (hi : i < (kidL S A n p).length) : f_X2_kid σ (p : Int) (i : Int) = some (σ, (((kidL S A n p).getD i 0 : Nat) : Int)) := by
  unfold f_X2_kid
  have h1 := sK_le S A (p + 1) n
  have h2 := hA.1
  have h3 : sK S A n (p + 1) = sK S A n p + (kidL S A n p).length := rfl
  have e1 : xm_w ((sK S A n p : Int) + (i : Int)) = ((sK S A n p + i : Nat) : Int) := by rw [xp_w (by omega) (by omega)]; omega
  rw [if_neg (by omega), if_pos (by omega), if_neg (by omega), if_pos ⟨by omega, by omega⟩, Int.toNat_natCast, hK.1 _ (by omega), e1, xvl, xw1 (by omega), xvl, if_pos ⟨by omega, by omega⟩, Int.toNat_natCast, hK.1 _ (by omega), if_pos (by omega), if_pos ⟨by omega, by omega⟩, Int.toNat_natCast, hK.2 p hp i hi]
theorem KD.fr {σ' : xm_Mem} {Z : Nat → Prop} (h : KD σ S A n) (hf : fr Z σ σ') (hz : ∀ a, Z a → a ≠ 26 ∧ a ≠ 27) : KD σ' S A n :=
  ⟨fun p hp => by rw [hf.1 27 p (fun w => (hz _ w).2 rfl)]; exact h.1 p hp, fun p hp => (h.2 p hp).eq (fun i _ => hf.1 26 _ (fun w => (hz _ w).1 rfl))⟩
theorem c_body0 {c : Nat} (hc : c < 64) : f_X2_body σ (c : Int) = some (σ, (σ.2.1 28 c).toInt) := by
  unfold f_X2_body f_X10_isPersonNumber
  rw [if_neg (by omega), if_pos (by omega), Option.bind_some]
  try dsimp only
  rw [if_neg (by decide), if_pos ⟨by omega, by omega⟩, Int.toNat_natCast]
theorem c_bodies (hO : OK S) (hA : AGE S A n) (hK : KD σ S A n) : ∃ σ', f_X2_gatherBodies σ = some (σ', 0) ∧ fr (fun a => a = 28) σ σ' ∧ BDY S A n (fun p => σ'.2.1 28 p) := by
  unfold f_X2_gatherBodies f_X2_gatherBodies_l3
  have h64 := hA.1
  rw [show (63 : Int) = ((64 : Nat) : Int) - 1 from rfl]
  refine it_T (γ := xm_Mem × Nat) _ _ (fun (g : xm_Mem → Int → Option xm_Out) a => g a.1 ((a.2 : Int) - 1)) (fun a => a.2 ≤ 64 ∧ fr (fun a => a = 28) σ a.1 ∧ ∀ p, a.2 ≤ p → p < 64 → ∀ q, q < 64 → (bt (a.1.2.1 28 p) q ↔ q = p ∨ ∃ c, c ∈ kidL S A n p ∧ bt (a.1.2.1 28 c) q)) (fun a => a.2) (fun z => ∃ σ', z = some (σ', 0) ∧ fr (fun a => a = 28) σ σ' ∧ BDY S A n (fun p => σ'.2.1 28 p)) ?_ xm_fuel (σ, 64) ⟨Nat.le_refl _, fr.rf _ _, fun p h1 h2 => absurd h2 (by have : 64 ≤ p := h1; omega)⟩ (xfu (by show 64 < _; decide))
  rintro self ⟨τ, P⟩ ⟨hP, hf, hB⟩ ih
  replace hP : P ≤ 64 := hP
  replace hf : fr (fun a => a = 28) σ τ := hf
  replace hB : ∀ p, P ≤ p → p < 64 → ∀ q, q < 64 → (bt (τ.2.1 28 p) q ↔ q = p ∨ ∃ c, c ∈ kidL S A n p ∧ bt (τ.2.1 28 c) q) := hB
  show ∃ σ', f_X2_gatherBodies_b3 self τ ((P : Int) - 1) = _ ∧ _
  unfold f_X2_gatherBodies_b3
  have o : ∀ a k, a ≠ 28 → τ.1 a k = σ.1 a k := fun a k z => hf.1 a k z
  cases P with
  | zero =>
    rw [if_pos (by decide)]
    refine ⟨τ, rfl, hf, fun i hi q hq => ?_⟩
    show bt (τ.2.1 28 (A i)) q ↔ _
    rw [hB (A i) (Nat.zero_le _) (hA.2.1 i hi).2 q hq]
    constructor
    · rintro (z | ⟨c, c1, c2⟩)
      · exact Or.inl z
      · obtain ⟨⟨j, j1, j2⟩, l⟩ := kid_mem.mp c1
        exact Or.inr ⟨j, j1, by rw [j2]; exact l, by show bt (τ.2.1 28 (A j)) q; rw [j2]; exact c2⟩
    · rintro (z | ⟨j, j1, j2, j3⟩)
      · exact Or.inl z
      · exact Or.inr ⟨A j, kid_mem.mpr ⟨⟨j, j1, rfl⟩, j2⟩, j3⟩
  | succ p =>
    have hp : p < 64 := by omega
    have e1 : ((p + 1 : Nat) : Int) - 1 = (p : Int) := by omega
    have hKt : KD τ S A n := hK.fr hf (fun a h => by omega)
    rw [e1, if_neg (by omega), xvj]
    unfold f_X2_gatherBodies_l14
    refine it_T (γ := Int64 × Nat) _ _ (fun (g : xm_Mem → Int → Int64 → Int → Option xm_Out) a => g τ (p : Int) a.1 (a.2 : Int)) (fun a => a.2 ≤ (kidL S A n p).length ∧ ∀ q, q < 64 → (bt a.1 q ↔ q = p ∨ ∃ i, i < a.2 ∧ bt (τ.2.1 28 ((kidL S A n p).getD i 0)) q)) (fun a => (kidL S A n p).length - a.2) (fun z => ∃ σ', z = some (σ', 0) ∧ fr (fun a => a = 28) σ σ' ∧ BDY S A n (fun p => σ'.2.1 28 p)) ?_ xm_fuel (xm_shl 1 (p : Int), 0) ⟨Nat.zero_le _, fun q hq => ?_⟩ (xfu (by have := sK_le S A (p + 1) n; have : sK S A n (p + 1) = sK S A n p + (kidL S A n p).length := rfl; show _ - 0 < _; omega))
    · rintro self2 ⟨v, i⟩ ⟨hi, hv⟩ ih2
      replace hi : i ≤ (kidL S A n p).length := hi
      replace hv : ∀ q, q < 64 → (bt v q ↔ q = p ∨ ∃ i2, i2 < i ∧ bt (τ.2.1 28 ((kidL S A n p).getD i2 0)) q) := hv
      show ∃ σ', f_X2_gatherBodies_b14 _ self2 τ (p : Int) v (i : Int) = _ ∧ _
      unfold f_X2_gatherBodies_b14
      rw [c_kidCount hA hKt hp, Option.bind_some]
      try dsimp only
      by_cases h : i < (kidL S A n p).length
      · have hkm := getD_mem h
        have hkr := kid_rg hO hA hkm
        have hl2 := sK_le S A (p + 1) n
        have hl3 : sK S A n (p + 1) = sK S A n p + (kidL S A n p).length := rfl
        rw [if_pos (by omega), c_kid hA hKt hp h, Option.bind_some]
        try dsimp only
        rw [c_body0 (by omega), Option.bind_some]
        try dsimp only
        rw [xvj, xw1 (by omega), Int64.ofInt_toInt]
        refine ih2 (_, i + 1) ⟨h, fun q hq => ?_⟩ (by show _ - (i + 1) < _ - i; omega)
        rw [bt_or, hv q hq]
        constructor
        · rintro ((z | ⟨i2, z1, z2⟩) | z)
          · exact Or.inl z
          · exact Or.inr ⟨i2, by show i2 < i + 1; omega, z2⟩
          · exact Or.inr ⟨i, Nat.lt_succ_self i, z⟩
        · rintro (z | ⟨i2, z1, z2⟩)
          · exact Or.inl (Or.inl z)
          · have z1 : i2 < i + 1 := z1
            by_cases e : i2 = i
            · subst e; exact Or.inr z2
            · exact Or.inl (Or.inr ⟨i2, by omega, z2⟩)
      · have ei : i = (kidL S A n p).length := by omega
        rw [if_neg (by omega)]
        try dsimp only
        rw [if_pos ⟨by omega, by omega⟩, xst, Int.toNat_natCast, xwn (by omega)]
        refine ih (_, p) ⟨by show p ≤ 64; omega, hf.u2 rfl, fun p2 h1 h2 q hq => ?_⟩ (Nat.lt_succ_self p)
        have h1 : p ≤ p2 := h1
        have hkn : ∀ c, c ∈ kidL S A n p2 → (xm_u2 τ 28 p v).2.1 28 c = τ.2.1 28 c := fun c hc => by
          have := kid_rg hO hA hc
          rw [xu22, if_neg (by omega)]
        show bt ((xm_u2 τ 28 p v).2.1 28 p2) q ↔ q = p2 ∨ ∃ c, c ∈ kidL S A n p2 ∧ bt ((xm_u2 τ 28 p v).2.1 28 c) q
        by_cases e : p2 = p
        · subst e
          rw [xu22, if_pos ⟨rfl, rfl⟩, hv q hq]
          constructor
          · rintro (z | ⟨i2, z1, z2⟩)
            · exact Or.inl z
            · have hm := getD_mem (l := kidL S A n p2) (i := i2) (by omega)
              exact Or.inr ⟨_, hm, by rw [hkn _ hm]; exact z2⟩
          · rintro (z | ⟨c, z1, z2⟩)
            · exact Or.inl z
            · obtain ⟨i2, y1, y2⟩ := mem_getD z1
              rw [hkn _ z1] at z2
              exact Or.inr ⟨i2, by omega, by rw [y2]; exact z2⟩
        · rw [xu22, if_neg (by omega), hB p2 (by omega) h2 q hq]
          constructor
          · rintro (z | ⟨c, z1, z2⟩)
            · exact Or.inl z
            · exact Or.inr ⟨c, z1, by rw [hkn _ z1]; exact z2⟩
          · rintro (z | ⟨c, z1, z2⟩)
            · exact Or.inl z
            · rw [hkn _ z1] at z2; exact Or.inr ⟨c, z1, z2⟩
    · rw [bt_shl hp hq]
      exact ⟨Or.inl, fun z => z.elim id (fun ⟨i, z1, _⟩ => absurd z1 (Nat.not_lt_zero _))⟩
/-- the class's Descent -/
def DO (σ : xm_Mem) (S : xS) (A : Nat → Nat) (n : Nat) (m : Nat → Int64) : Prop := AGE S A n ∧ DA σ S A n ∧ KD σ S A n ∧ BDY S A n m ∧ ∀ i, i < n → σ.2.1 28 (A i) = m (A i)
theorem c_desc (hO : OK S) (hP : PO σ S) (hU : UO σ S (sn S)) : ∃ σ' A n m, f_X2_rebuild σ = some (σ', 0) ∧ fr zD σ σ' ∧ DO σ' S A n m := by
  unfold f_X2_rebuild
  rw [xst]
  obtain ⟨σ1, A, n, a1, a2, a3, a4⟩ := c_desc1 hO hP hU (fun σ_19 => (f_X2_listKids σ_19).bind (fun o20 => (f_X2_gatherBodies o20.1).bind (fun o22 => some (o22.1, 0))))
  have hP1 := hP.fr a2 zDP
  obtain ⟨σ2, b1, b2, b3⟩ := c_listKids hO a3 hP1 a4
  obtain ⟨σ3, d1, d2, d3⟩ := c_bodies hO a3 b3
  have f2 : ∀ b, (b = 26 ∨ b = 27) → zD b := fun b hb => by unfold zD; omega
  have f3 : ∀ b, b = 28 → zD b := fun b hb => by unfold zD; omega
  refine ⟨σ3, A, n, fun p => σ3.2.1 28 p, ?_, (a2.tr (b2.mono f2)).tr (d2.mono f3), a3, ?_, b3.fr d2 (fun a h => by omega), d3, fun i _ => rfl⟩
  · rw [a1]
    simp only [b1, d1, Option.bind_some]
  · exact (a4.fr b2 (fun a h z => by omega)).fr d2 (fun a h z => by omega)
end XB
