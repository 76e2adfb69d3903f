/-! ===== reading: what a text is, and the class's reader ===== -/
theorem mem_ext {σ τ : xm_Mem} (h1 : ∀ a k, σ.1 a k = τ.1 a k) (h2 : σ.2 = τ.2) : σ = τ := Prod.ext (funext (fun a => funext (fun k => h1 a k))) h2
theorem u1_u1 (σ : xm_Mem) (a k : Nat) (v w : Int) : xm_u1 (xm_u1 σ a k v) a k w = xm_u1 σ a k w := by
  refine mem_ext (fun b j => ?_) rfl
  simp only [xu11]
  split <;> rfl
theorem u1_cm {σ : xm_Mem} {a k b j : Nat} {v w : Int} (h : ¬ (a = b ∧ k = j)) : xm_u1 (xm_u1 σ a k v) b j w = xm_u1 (xm_u1 σ b j w) a k v := by
  refine mem_ext (fun c i => ?_) rfl
  simp only [xu11]
  by_cases e : c = b ∧ i = j
  · rw [if_pos e, if_neg (fun z => h ⟨z.1.symm.trans e.1, z.2.symm.trans e.2⟩), if_pos e]
  · rw [if_neg e, if_neg e]
/-- how far a kind of bytes goes -/
noncomputable def run (P : Nat → Prop) : Nat → Nat → Nat
  | 0, p => p
  | c + 1, p => @ite _ (P p) (Classical.propDecidable _) (run P c (p + 1)) p
theorem run_spec (P : Nat → Prop) : ∀ c p, p ≤ run P c p ∧ run P c p ≤ p + c ∧ (∀ k, p ≤ k → k < run P c p → P k) ∧ (run P c p < p + c → ¬ P (run P c p)) := by
  intro c
  induction c with
  | zero => intro p; exact ⟨Nat.le_refl _, Nat.le_refl _, fun k h1 h2 => absurd h2 (by show ¬ k < p; omega), fun h => absurd h (by show ¬ p < p + 0; omega)⟩
  | succ c ih =>
    intro p
    unfold run
    by_cases h : P p
    · rw [if_pos h]
      obtain ⟨h1, h2, h3, h4⟩ := ih (p + 1)
      refine ⟨by omega, by omega, fun k k1 k2 => ?_, fun z => h4 (by omega)⟩
      by_cases e : k = p
      · subst e; exact h
      · exact h3 k (by omega) k2
    · rw [if_neg h]
      exact ⟨Nat.le_refl _, by omega, fun k k1 k2 => absurd k2 (by omega), fun _ => h⟩
theorem run_eq {P : Nat → Prop} {c p q : Nat} (h1 : p ≤ q) (h2 : q ≤ p + c) (h3 : ∀ k, p ≤ k → k < q → P k) (h4 : q < p + c → ¬ P q) : run P c p = q := by
  obtain ⟨g1, g2, g3, g4⟩ := run_spec P c p
  rcases Nat.lt_trichotomy (run P c p) q with h | h | h
  · exact absurd (h3 _ g1 h) (g4 (by omega))
  · exact h
  · exact absurd (g3 q h1 h) (h4 (by omega))
def isL (B : Nat → Int) (k : Nat) : Prop := 97 ≤ B k ∧ B k ≤ 122
def isG (B : Nat → Int) (k : Nat) : Prop := 48 ≤ B k ∧ B k ≤ 57
noncomputable def skp (B : Nat → Int) (s p : Nat) : Nat := run (fun k => B k = 32) (s - p) p
noncomputable def tnd (B : Nat → Int) (s f : Nat) : Nat := @ite _ (f < s ∧ isL B f) (Classical.propDecidable _) (run (isL B) (s - f) f) (run (isG B) (s - f) f)
theorem skp_rg {B : Nat → Int} {s p : Nat} (h : p ≤ s) : p ≤ skp B s p ∧ skp B s p ≤ s := by
  have := run_spec (fun k => B k = 32) (s - p) p
  unfold skp
  omega
theorem tnd_rg {B : Nat → Int} {s f : Nat} (h : f ≤ s) : f ≤ tnd B s f ∧ tnd B s f ≤ s := by
  have a := run_spec (isL B) (s - f) f
  have b := run_spec (isG B) (s - f) f
  unfold tnd
  split <;> omega
/-- a number told by digits -/
def nv (B : Nat → Int) (f : Nat) : Nat → Int
  | 0 => 0
  | k + 1 => 10 * nv B f k + B (f + k) - 48
def isW (B : Nat → Int) (f t : Nat) (v : Int) : Prop := (t : Int) - f = xm_slen v ∧ ∀ i : Nat, (i : Int) < xm_slen v → B (f + i) = xm_chr v i
def okN (B : Nat → Int) (s f t : Nat) : Prop := f < s ∧ isG B f ∧ t - f ≤ 5
/-- a fault is told once -/
def fl (w : Int) (f : Nat) : Int := if w = -9 then (f : Int) else w
/-- the bytes are bytes -/
def isB (B : Nat → Int) (s : Nat) : Prop := s ≤ 80 ∧ ∀ k, k < s → 0 ≤ B k ∧ B k ≤ 255
/-- the class's tape -/
def TC (σ : xm_Mem) (B : Nat → Int) (s : Nat) : Prop := σ.1 2 1 = (s : Int) ∧ ∀ k, k < s → σ.1 3 k = B k
def cst (σ : xm_Mem) (f t w : Int) : xm_Mem := xm_u1 (xm_u1 (xm_u1 σ 4 1 f) 4 2 t) 4 3 w
section XC
variable {σ : xm_Mem} {B : Nat → Int} {s : Nat} {f t w : Int}
theorem cst_1 (x : Int) : xm_u1 (cst σ f t w) 4 1 x = cst σ x t w := by
  unfold cst
  rw [u1_cm (by decide), u1_cm (σ := xm_u1 σ 4 1 f) (by decide), u1_u1]
theorem cst_2 (x : Int) : xm_u1 (cst σ f t w) 4 2 x = cst σ f x w := by
  unfold cst
  rw [u1_cm (by decide), u1_u1]
theorem cst_3 (x : Int) : xm_u1 (cst σ f t w) 4 3 x = cst σ f t x := by
  unfold cst
  rw [u1_u1]
theorem cst_o {a k : Nat} (x : Int) (h : a ≠ 4) : xm_u1 (cst σ f t w) a k x = cst (xm_u1 σ a k x) f t w := by
  unfold cst
  rw [u1_cm (fun z => h z.1.symm), u1_cm (σ := xm_u1 σ 4 1 f) (fun z => h z.1.symm), u1_cm (σ := σ) (fun z => h z.1.symm)]
theorem cst_r1 : (cst σ f t w).1 4 1 = f := by simp [cst, xu11]
theorem cst_r2 : (cst σ f t w).1 4 2 = t := by simp [cst, xu11]
theorem cst_r3 : (cst σ f t w).1 4 3 = w := by simp [cst, xu11]
theorem cst_r {a k : Nat} (h : a ≠ 4) : (cst σ f t w).1 a k = σ.1 a k := by simp [cst, xu11, h]
theorem cst_n : (cst σ f t w).2 = σ.2 := rfl
theorem TC.cst (h : TC σ B s) : TC (cst σ f t w) B s := ⟨by rw [cst_r (by decide)]; exact h.1, fun k hk => by rw [cst_r (by decide)]; exact h.2 k hk⟩
theorem r8_at (hB : isB B s) (hT : TC σ B s) (k : Nat) : f_X8_at σ (k : Int) = some (σ, if k < s then B k else -1) := by
  unfold f_X8_at
  have := hB.1
  rw [if_neg (by omega), hT.1]
  by_cases h : k < s
  · rw [if_pos (by omega), if_pos ⟨by omega, by omega⟩, if_pos h, Int.toNat_natCast, hT.2 k h]
  · rw [if_neg (by omega), if_neg h]
theorem r6_isLetter (x : Int) : f_X6_isLetter σ x = some (σ, xb (97 ≤ x ∧ x ≤ 122)) := by
  unfold f_X6_isLetter
  (repeat' split) <;> first | (rw [xb_pos (by omega)]; done) | (rw [xb_neg (by omega)]; done)
theorem r6_isDigit (x : Int) : f_X6_isDigit σ x = some (σ, xb (48 ≤ x ∧ x ≤ 57)) := by
  unfold f_X6_isDigit
  (repeat' split) <;> first | (rw [xb_pos (by omega)]; done) | (rw [xb_neg (by omega)]; done)
theorem r6_l76 (hB : isB B s) (hT : TC σ B s) (p : Nat) (hp : p ≤ s) : f_X6_next_l76 xm_fuel (cst σ f (p : Int) w) = some (cst σ f (run (isL B) (s - p) p : Int) w, 0) := by
  unfold f_X6_next_l76
  have h80 := hB.1
  refine it_T (γ := Nat) _ _ (fun (g : xm_Mem → Option xm_Out) i => g (cst σ f (i : Int) w)) (fun i => (p ≤ i ∧ i ≤ s) ∧ ∀ k, p ≤ k → k < i → isL B k) (fun i => s - i) (fun z => z = some (cst σ f (run (isL B) (s - p) p : Int) w, 0)) ?_ xm_fuel p ⟨⟨Nat.le_refl _, hp⟩, fun k h1 h2 => absurd h2 (by omega)⟩ (xfu (by omega))
  rintro self i ⟨hi, hL⟩ ih
  show f_X6_next_b76 self (cst σ f (i : Int) w) = _
  unfold f_X6_next_b76 f_X8_size
  simp only [Option.bind_some, cst_r2, hT.cst.1, r8_at hB hT.cst, r6_isLetter, xbi, xst, cst_2]
  by_cases h : i < s
  · rw [if_pos (by omega)]
    simp only [if_pos h]
    by_cases l : 97 ≤ B i ∧ B i ≤ 122
    · rw [if_pos l, xw1 (by omega)]
      refine ih (i + 1) ⟨⟨by omega, h⟩, fun k h1 h2 => ?_⟩ (by omega)
      by_cases e : k = i
      · subst e; exact l
      · exact hL k h1 (by omega)
    · rw [if_neg l, run_eq hi.1 (by omega) hL (fun _ => l)]
  · rw [if_neg (by omega)]
    have e : i = s := by omega
    subst e
    rw [run_eq hi.1 (by omega) hL (fun z => absurd z (by omega))]
theorem r6_l120 (hB : isB B s) (hT : TC σ B s) (p : Nat) (hp : p ≤ s) : f_X6_next_l120 xm_fuel (cst σ f (p : Int) w) = some (cst σ f (run (isG B) (s - p) p : Int) w, 0) := by
  unfold f_X6_next_l120
  have h80 := hB.1
  refine it_T (γ := Nat) _ _ (fun (g : xm_Mem → Option xm_Out) i => g (cst σ f (i : Int) w)) (fun i => (p ≤ i ∧ i ≤ s) ∧ ∀ k, p ≤ k → k < i → isG B k) (fun i => s - i) (fun z => z = some (cst σ f (run (isG B) (s - p) p : Int) w, 0)) ?_ xm_fuel p ⟨⟨Nat.le_refl _, hp⟩, fun k h1 h2 => absurd h2 (by omega)⟩ (xfu (by omega))
  rintro self i ⟨hi, hL⟩ ih
  show f_X6_next_b120 self (cst σ f (i : Int) w) = _
  unfold f_X6_next_b120 f_X8_size
  simp only [Option.bind_some, cst_r2, hT.cst.1, r8_at hB hT.cst, r6_isDigit, xbi, xst, cst_2]
  by_cases h : i < s
  · rw [if_pos (by omega)]
    simp only [if_pos h]
    by_cases l : 48 ≤ B i ∧ B i ≤ 57
    · rw [if_pos l, xw1 (by omega)]
      refine ih (i + 1) ⟨⟨by omega, h⟩, fun k h1 h2 => ?_⟩ (by omega)
      by_cases e : k = i
      · subst e; exact l
      · exact hL k h1 (by omega)
    · rw [if_neg l, run_eq hi.1 (by omega) hL (fun _ => l)]
  · rw [if_neg (by omega)]
    have e : i = s := by omega
    subst e
    rw [run_eq hi.1 (by omega) hL (fun z => absurd z (by omega))]
theorem r6_next (hB : isB B s) (hT : TC σ B s) (p : Nat) (hp : p ≤ s) : f_X6_next (cst σ f (p : Int) w) = some (cst σ (skp B s p : Int) (tnd B s (skp B s p) : Int) w, 0) := by
  unfold f_X6_next f_X6_next_l8
  have h80 := hB.1
  rw [xst, cst_r2, cst_1]
  refine it_T (γ := Nat) _ _ (fun (g : xm_Mem → Option xm_Out) i => g (cst σ (i : Int) (p : Int) w)) (fun i => (p ≤ i ∧ i ≤ s) ∧ ∀ k, p ≤ k → k < i → B k = 32) (fun i => s - i) (fun z => z = some (cst σ (skp B s p : Int) (tnd B s (skp B s p) : Int) w, 0)) ?_ xm_fuel p ⟨⟨Nat.le_refl _, hp⟩, fun k h1 h2 => absurd h2 (by omega)⟩ (xfu (by omega))
  rintro self i ⟨hi, hL⟩ ih
  show f_X6_next_b8 _ self (cst σ (i : Int) (p : Int) w) = _
  unfold f_X6_next_b8 f_X8_size
  simp only [Option.bind_some, cst_r1, hT.cst.1, r8_at hB hT.cst, r6_isLetter, xbi, xst, cst_1, cst_2]
  have fin : (i < s → ¬ B i = 32) → (@ite _ (97 ≤ (if i < s then B i else -1) ∧ (if i < s then B i else -1) ≤ 122) (Classical.propDecidable _) (f_X6_next_l76 xm_fuel (cst σ (i : Int) (i : Int) w)) (f_X6_next_l120 xm_fuel (cst σ (i : Int) (i : Int) w))) = some (cst σ (skp B s p : Int) (tnd B s (skp B s p) : Int) w, 0) := by
    intro z
    have e : skp B s p = i := run_eq hi.1 (by omega) hL (fun y => z (by omega))
    rw [e]
    unfold tnd
    by_cases l : i < s ∧ isL B i
    · have l2 : 97 ≤ (if i < s then B i else -1) ∧ (if i < s then B i else -1) ≤ 122 := by rw [if_pos l.1]; exact l.2
      rw [if_pos l2, if_pos l, r6_l76 hB hT i hi.2]
    · have l2 : ¬ (97 ≤ (if i < s then B i else -1) ∧ (if i < s then B i else -1) ≤ 122) := by
        intro y
        by_cases q : i < s
        · rw [if_pos q] at y; exact l ⟨q, y⟩
        · rw [if_neg q] at y; omega
      rw [if_neg l2, if_neg l, r6_l120 hB hT i hi.2]
  by_cases h : i < s
  · rw [if_pos (by omega)]
    simp only [if_pos h] at fin ⊢
    by_cases l : B i = 32
    · rw [if_pos l, xw1 (by omega)]
      refine ih (i + 1) ⟨⟨by omega, h⟩, fun k h1 h2 => ?_⟩ (by omega)
      by_cases e : k = i
      · subst e; exact l
      · exact hL k h1 (by omega)
    · rw [if_neg l]
      exact fin (fun _ => l)
  · rw [if_neg (by omega)]
    simp only [if_neg h] at fin ⊢
    exact fin (fun z => absurd z h)
theorem r6_isWord (hB : isB B s) (hT : TC σ B s) {a b : Nat} (hab : a ≤ b ∧ b ≤ s) {v : Int} (hv : 0 ≤ v ∧ v < 24) : f_X6_isWord (cst σ (a : Int) (b : Int) w) v = some (cst σ (a : Int) (b : Int) w, xb (isW B a b v)) := by
  unfold f_X6_isWord fj_length
  have h80 := hB.1
  have hl : 0 ≤ xm_slen v ∧ xm_slen v < 100 := by
    have := xm_ln_ok v.toNat (by omega)
    unfold xm_slen
    omega
  simp only [if_pos hv, Option.bind_some, cst_r1, cst_r2]
  rw [xp_w (by omega) (by omega)]
  by_cases h : (b : Int) - a = xm_slen v
  · rw [if_pos h]
    unfold f_X6_isWord_l20
    refine it_T (γ := Nat) _ _ (fun (g : xm_Mem → Int → Int → Option xm_Out) i => g (cst σ (a : Int) (b : Int) w) v (i : Int)) (fun i => (i : Int) ≤ xm_slen v ∧ ∀ k, k < i → B (a + k) = xm_chr v k) (fun i => (xm_slen v).toNat - i) (fun z => z = some (cst σ (a : Int) (b : Int) w, xb (isW B a b v))) ?_ xm_fuel 0 ⟨hl.1, fun k h => absurd h (Nat.not_lt_zero _)⟩ (xfu (by omega))
    rintro self i ⟨hi, hm⟩ ih
    show f_X6_isWord_b20 self (cst σ (a : Int) (b : Int) w) v (i : Int) = _
    unfold f_X6_isWord_b20 fj_length fj_charAt
    simp only [if_pos hv, Option.bind_some, cst_r1]
    by_cases q : (i : Int) < xm_slen v
    · have hg : (0 ≤ v ∧ v < 24) ∧ 0 ≤ (i : Int) ∧ (i : Int) < xm_slen v := ⟨hv, by omega, q⟩
      have e : xm_w ((a : Int) + i) = ((a + i : Nat) : Int) := by rw [xp_w (by omega) (by omega)]; omega
      rw [if_pos q, e, r8_at hB hT.cst, if_pos (by omega)]
      simp only [Option.bind_some, if_pos hg]
      by_cases m : B (a + i) = xm_chr v i
      · rw [if_pos m, xw1 (by omega)]
        refine ih (i + 1) ⟨by show ((i + 1 : Nat) : Int) ≤ _; omega, fun k hk => ?_⟩ (by omega)
        by_cases z : k = i
        · subst z; exact m
        · exact hm k (by omega)
      · rw [if_neg m, xb_neg (fun z => m (z.2 i q))]
    · rw [if_neg q, xb_pos ⟨h, fun k hk => hm k (by omega)⟩]
  · rw [if_neg h, xb_neg (fun z => h z.1)]
theorem r6_fail (a : Nat) : f_X6_fail (cst σ (a : Int) t w) = some (cst σ (a : Int) t (fl w a), 0) := by
  unfold f_X6_fail fl
  simp only [cst_r3, cst_r1, xst, cst_3]
  by_cases h : w = -9
  · rw [if_pos h, if_pos h]
  · rw [if_neg h, if_neg h]
theorem nv_rg (hB : isB B s) {a : Nat} : ∀ k, k ≤ 5 → (∀ i, i < k → a + i < s ∧ isG B (a + i)) → 0 ≤ nv B a k ∧ nv B a k < (10 : Int) ^ k := by
  intro k
  induction k with
  | zero => intro _ _; exact ⟨Int.le_refl _, by show (0 : Int) < 10 ^ 0; decide⟩
  | succ k ih =>
    intro hk h
    have i1 := ih (by omega) (fun i hi => h i (by omega))
    have i2 := (h k (by omega)).2
    unfold isG at i2
    have e : (10 : Int) ^ (k + 1) = 10 ^ k * 10 := Int.pow_succ 10 k
    unfold nv
    rw [e]
    omega
theorem nv_lt (hB : isB B s) {a k : Nat} (hk : k ≤ 5) (h : ∀ i, i < k → a + i < s ∧ isG B (a + i)) : 0 ≤ nv B a k ∧ nv B a k ≤ 99999 := by
  have := nv_rg hB k hk h
  have e : k = 0 ∨ k = 1 ∨ k = 2 ∨ k = 3 ∨ k = 4 ∨ k = 5 := by omega
  rcases e with rfl | rfl | rfl | rfl | rfl | rfl <;> omega
/-- within a token of digits -/
theorem dig_in {a : Nat} (ha : a ≤ s) (h : isG B a) : ∀ k, a ≤ k → k < tnd B s a → k < s ∧ isG B k := by
  intro k h1 h2
  have hr := tnd_rg (B := B) ha
  have n : ¬ (a < s ∧ isL B a) := fun z => by have := z.2; unfold isL isG at *; omega
  unfold tnd at h2
  rw [if_neg n] at h2
  exact ⟨by have := run_spec (isG B) (s - a) a; omega, (run_spec (isG B) (s - a) a).2.2.1 k h1 h2⟩
theorem r6_number (hB : isB B s) (hT : TC σ B s) {a : Nat} (ha : a ≤ s) : f_X6_numberAtHand (cst σ (a : Int) (tnd B s a : Int) w) = some (@ite _ (okN B s a (tnd B s a)) (Classical.propDecidable _) (cst σ (a : Int) (tnd B s a : Int) w, nv B a (tnd B s a - a)) (cst σ (a : Int) (tnd B s a : Int) (fl w a), -1)) := by
  unfold f_X6_numberAtHand
  have h80 := hB.1
  have hr := tnd_rg (B := B) ha
  have ew : xm_w ((tnd B s a : Int) - a) = ((tnd B s a - a : Nat) : Int) := by rw [xp_w (by omega) (by omega)]; omega
  simp only [xvl, cst_r1, cst_r2, r8_at hB hT.cst, Option.bind_some, r6_isDigit, xbi, r6_fail, ew]
  by_cases d : a < s ∧ isG B a
  · have d2 : 48 ≤ (if a < s then B a else -1) ∧ (if a < s then B a else -1) ≤ 57 := by rw [if_pos d.1]; exact d.2
    have din := dig_in ha d.2
    rw [if_pos d2]
    by_cases g : tnd B s a - a ≤ 5
    · rw [if_neg (by omega), if_pos (show okN B s a (tnd B s a) from ⟨d.1, d.2, g⟩)]
      unfold f_X6_numberAtHand_l45
      refine it_T (γ := Nat) _ _ (fun (h : xm_Mem → Int → Int → Option xm_Out) i => h (cst σ (a : Int) (tnd B s a : Int) w) (nv B a i) ((a + i : Nat) : Int)) (fun i => i ≤ tnd B s a - a) (fun i => tnd B s a - a - i) (fun z => z = some (cst σ (a : Int) (tnd B s a : Int) w, nv B a (tnd B s a - a))) ?_ xm_fuel 0 (Nat.zero_le _) (xfu (by omega))
      intro self i hi ih
      show f_X6_numberAtHand_b45 self (cst σ (a : Int) (tnd B s a : Int) w) (nv B a i) ((a + i : Nat) : Int) = _
      unfold f_X6_numberAtHand_b45
      simp only [cst_r2, r8_at hB hT.cst, Option.bind_some, xvl]
      by_cases q : i < tnd B s a - a
      · have hb := din (a + i) (by omega) (by omega)
        have hb2 := hb.2
        unfold isG at hb2
        have hn := nv_lt hB (k := i) (a := a) (by omega) (fun j hj => din (a + j) (by omega) (by omega))
        rw [if_pos (by omega), if_pos hb.1, xp_w (x := 10 * nv B a i) (by omega) (by omega), xp_w (x := 10 * nv B a i + B (a + i)) (by omega) (by omega), xp_w (x := 10 * nv B a i + B (a + i) - 48) (by omega) (by omega), xw1 (by omega)]
        exact ih (i + 1) q (by omega)
      · rw [if_neg (by omega)]
        have e : i = tnd B s a - a := by omega
        rw [e]
    · rw [if_pos (by omega), if_neg (fun z : okN B s a (tnd B s a) => g z.2.2)]
  · have d2 : ¬ (48 ≤ (if a < s then B a else -1) ∧ (if a < s then B a else -1) ≤ 57) := by
      intro y
      by_cases q : a < s
      · rw [if_pos q] at y; exact d ⟨q, y⟩
      · rw [if_neg q] at y; omega
    rw [if_neg d2, if_neg (fun z : okN B s a (tnd B s a) => d ⟨z.1, z.2.1⟩)]
end XC
