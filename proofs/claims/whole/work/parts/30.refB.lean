/-! ===== the reference's bonds ===== -/
section XO
variable {σ : xm_Mem} {S : xS}
theorem m_isOfTwo (hW : WF S) (hM : MS σ S) {r : Nat} (hr : r < sn S) (p q : Int) : f_X11_isOfTwo σ (r : Int) p q = some (σ, xb (wS S r = 1 ∧ (wK S r = 1 ∨ wK S r = 2) ∧ w1 S r = p ∧ w2 S r = q)) := by
  unfold f_X11_isOfTwo f_X11_isOfTwo_j29
  have hn := hW.n
  have hs := hW.st hr
  obtain ⟨a1, a2, a3, a4, a5, a6, a7⟩ := hM.2.2.2.1 r hr
  have hg : 0 ≤ (r : Int) ∧ (r : Int) < 200 := ⟨by omega, by omega⟩
  simp only [Int.toNat_natCast, a7, a1, a3, a4, if_pos hg]
  (repeat' split) <;> first | (exfalso; omega) | (rw [xb_pos (by omega)]; done) | (rw [xb_neg (by omega)]; done)
theorem mnx_succ {P : Nat → Prop} {f : Nat → Int} {a : Int} {n : Nat} : mnx P f a (n + 1) = @ite _ (P n ∧ f n < mnx P f a n) (Classical.propDecidable _) (f n) (mnx P f a n) := rfl
theorem mnx_no {P : Nat → Prop} {f : Nat → Int} {a : Int} {n : Nat} (h : ¬ P n) : mnx P f a (n + 1) = mnx P f a n := by rw [mnx_succ, if_neg (fun z => h z.1)]
theorem wNext_rg (hW : WF S) (r : Nat) : ∀ n, n ≤ sn S → 0 ≤ mnx (isPart S r) (wD S) 100000 n ∧ mnx (isPart S r) (wD S) 100000 n ≤ 100000 := by
  intro n hn
  obtain ⟨g1, g2, g3⟩ := mnx_le (P := isPart S r) (f := wD S) (a := 100000) n
  refine ⟨?_, g1⟩
  rcases g3 with g3 | ⟨k, b1, b2, b3⟩
  · omega
  · rw [b3]; exact (hW.day (by omega)).1
theorem wOpen_rg (hW : WF S) (r : Nat) : -1 ≤ wOpen S r ∧ wOpen S r ≤ 99999 := by
  have h1 := wNext_rg hW r _ (Nat.le_refl _)
  have h2 := wDead_rg hW (w1 S r)
  have h3 := wDead_rg hW (w2 S r)
  unfold wOpen wNext lowD xm_min
  (repeat' split) <;> omega
set_option maxRecDepth 20000 in
theorem m_openTo (hW : WF S) (hM : MS σ S) {r : Nat} (hr : r < sn S) : f_X11_openTo σ (r : Int) = some (σ, wOpen S r) := by
  unfold f_X11_openTo f_X11_openTo_l21
  have hn := hW.n
  obtain ⟨b1, b2, b3, b4, b5, b6, b7⟩ := hM.2.2.2.1 r hr
  have hg0 : 0 ≤ (r : Int) ∧ (r : Int) < 200 := ⟨by omega, by omega⟩
  simp only [if_pos hg0, Int.toNat_natCast, xvl, b3, b4]
  refine it_T (γ := Nat) _ _ (fun (f : xm_Mem → Int → Int → Int → Int → Int → Option xm_Out) i => f σ (r : Int) (w1 S r) (w2 S r) (mnx (isPart S r) (wD S) 100000 i - 1) (i : Int)) (fun i => i ≤ sn S) (fun i => sn S - i) (fun z => z = some (σ, wOpen S r)) ?_ xm_fuel 0 (Nat.zero_le _) (xfu (by omega))
  intro self i hi ih
  show f_X11_openTo_b21 _ self σ (r : Int) (w1 S r) (w2 S r) (mnx (isPart S r) (wD S) 100000 i - 1) (i : Int) = _
  unfold f_X11_openTo_b21
  rw [hM.1]
  have hrg := wNext_rg hW r i hi
  by_cases h : i < sn S
  · obtain ⟨a1, a2, a3, a4, a5, a6, a7⟩ := hM.2.2.2.1 i h
    have hg : 0 ≤ (i : Int) ∧ (i : Int) < 200 := ⟨by omega, by omega⟩
    have hd := hW.day h
    rw [if_pos (by omega), m_isOfTwo hW hM h]
    simp only [Option.bind_some, Int.toNat_natCast, a1, a2, b2, if_pos hg, if_pos hg0, xvl]
    have go : mnx (isPart S r) (wD S) 100000 (i + 1) = mnx (isPart S r) (wD S) 100000 i → self σ (r : Int) (w1 S r) (w2 S r) (mnx (isPart S r) (wD S) 100000 i - 1) (xm_w ((i : Int) + 1)) = some (σ, wOpen S r) := by
      intro e
      rw [xw1 (by omega), ← e]
      exact ih (i + 1) h (by omega)
    by_cases t : wS S i = 1 ∧ (wK S i = 1 ∨ wK S i = 2) ∧ w1 S i = w1 S r ∧ w2 S i = w2 S r
    · rw [xb_pos t, if_neg (by decide)]
      by_cases k : wK S i = 2
      · rw [if_pos k]
        by_cases d : wD S r < wD S i
        · rw [if_pos d]
          have hp : isPart S r i := ⟨t.1, k, t.2.2.1, t.2.2.2, d⟩
          have e : xm_min (mnx (isPart S r) (wD S) 100000 i - 1) (xm_w (wD S i - 1)) = mnx (isPart S r) (wD S) 100000 (i + 1) - 1 := by
            rw [xp_w (by omega) (by omega), mnx_succ]
            unfold xm_min
            by_cases q : wD S i < mnx (isPart S r) (wD S) 100000 i
            · have c1 : wD S i - 1 < mnx (isPart S r) (wD S) 100000 i - 1 := by omega
              rw [if_pos c1, if_pos ⟨hp, q⟩]
            · have c1 : ¬ wD S i - 1 < mnx (isPart S r) (wD S) 100000 i - 1 := by omega
              rw [if_neg c1, if_neg (fun z => q z.2)]
          rw [e, xw1 (by omega)]
          exact ih (i + 1) h (by omega)
        · rw [if_neg d]
          exact go (mnx_no (fun z => d z.2.2.2.2))
      · rw [if_neg k]
        exact go (mnx_no (fun z => k z.2.1))
    · rw [xb_neg t, if_pos rfl]
      exact go (mnx_no (fun z => t ⟨z.1, Or.inr z.2.1, z.2.2.1, z.2.2.2.1⟩))
  · have e : i = sn S := by omega
    subst e
    rw [if_neg (by omega)]
    simp only [m_deadOn hW hM, Option.bind_some]
    unfold f_X11_openTo_j121 wOpen wNext lowD
    (repeat' split) <;> rfl
theorem m_isOpen (hW : WF S) (hM : MS σ S) {r : Nat} (hr : r < sn S) (d : Int) : f_X11_isOpen σ (r : Int) d = some (σ, xb (wD S r ≤ d ∧ d ≤ wOpen S r)) := by
  unfold f_X11_isOpen
  have hn := hW.n
  obtain ⟨b1, b2, b3, b4, b5, b6, b7⟩ := hM.2.2.2.1 r hr
  have hg0 : 0 ≤ (r : Int) ∧ (r : Int) < 200 := ⟨by omega, by omega⟩
  simp only [if_pos hg0, Int.toNat_natCast, b2, m_openTo hW hM hr, Option.bind_some]
  (repeat' split) <;> first | (exfalso; omega) | (rw [xb_pos (by omega)]; done) | (rw [xb_neg (by omega)]; done)
theorem m_areUnited (hW : WF S) (hM : MS σ S) (p q d : Int) : f_X11_areUnited σ p q d = some (σ, xb (united S p q d)) := by
  unfold f_X11_areUnited f_X11_areUnited_l6
  have hn := hW.n
  refine it_T (γ := Nat × Int) _ _ (fun (f : xm_Mem → Int → Int → Int → Int → Int → Option xm_Out) a => f σ p q d a.2 (a.1 : Int)) (fun a => a.1 ≤ sn S ∧ (a.2 = 0 ∧ (∀ r, r < a.1 → ¬ (isWed S p q r ∧ wD S r ≤ d ∧ d ≤ wOpen S r)) ∨ a.2 = 1 ∧ united S p q d)) (fun a => sn S - a.1) (fun z => z = some (σ, xb (united S p q d))) ?_ xm_fuel (0, 0) ⟨Nat.zero_le _, Or.inl ⟨rfl, fun r h => absurd h (Nat.not_lt_zero _)⟩⟩ (xfu (by show sn S - 0 < _; omega))
  rintro self ⟨i, b⟩ ⟨hi, hb⟩ ih
  show f_X11_areUnited_b6 self σ p q d b (i : Int) = _
  unfold f_X11_areUnited_b6
  rw [hM.1]
  replace hi : i ≤ sn S := hi
  rcases hb with ⟨hb, hno⟩ | ⟨hb, hyes⟩
  · replace hb : b = 0 := hb
    subst hb
    by_cases h : i < sn S
    · obtain ⟨a1, a2, a3, a4, a5, a6, a7⟩ := hM.2.2.2.1 i h
      have hg : 0 ≤ (i : Int) ∧ (i : Int) < 200 := ⟨by omega, by omega⟩
      rw [if_pos (by omega), if_pos rfl, m_isOfTwo hW hM h]
      simp only [Option.bind_some, Int.toNat_natCast, a1, if_pos hg, m_isOpen hW hM h]
      have go : ¬ (isWed S p q i ∧ wD S i ≤ d ∧ d ≤ wOpen S i) → self σ p q d 0 (xm_w ((i : Int) + 1)) = some (σ, xb (united S p q d)) := by
        intro e
        rw [xw1 (by omega)]
        refine ih (i + 1, 0) ⟨h, Or.inl ⟨rfl, fun r hr => ?_⟩⟩ (by show sn S - (i + 1) < sn S - i; omega)
        by_cases z : r = i
        · subst z; exact e
        · exact hno r (by have : r < i + 1 := hr; show r < i; omega)
      by_cases t : wS S i = 1 ∧ (wK S i = 1 ∨ wK S i = 2) ∧ w1 S i = p ∧ w2 S i = q
      · rw [xb_pos t, if_neg (by decide)]
        by_cases k : wK S i = 1
        · rw [if_pos k]
          by_cases o : wD S i ≤ d ∧ d ≤ wOpen S i
          · rw [xb_pos o, if_neg (by decide), xw1 (by omega)]
            exact ih (i + 1, 1) ⟨h, Or.inr ⟨rfl, i, h, ⟨t.1, k, t.2.2.1, t.2.2.2⟩, o⟩⟩ (by show sn S - (i + 1) < sn S - i; omega)
          · rw [xb_neg o, if_pos rfl]
            exact go (fun z => o z.2)
        · rw [if_neg k]
          exact go (fun z => k z.1.2.1)
      · rw [xb_neg t, if_pos rfl]
        exact go (fun z => t ⟨z.1.1, Or.inl z.1.2.1, z.1.2.2.1, z.1.2.2.2⟩)
    · rw [if_neg (by omega), xb_neg]
      rintro ⟨r, g1, g2⟩
      exact hno r (by show r < i; omega) g2
  · replace hb : b = 1 := hb
    subst hb
    rw [xb_pos hyes]
    split
    · rw [if_neg (by decide)]
    · rfl
theorem m_toldLegit (hW : WF S) (hM : MS σ S) {p : Int} (h0 : 0 ≤ p) (h1 : p < sp S) : f_X11_toldLegit σ p = some (σ, xb (wLegit S p)) := by
  unfold f_X11_toldLegit
  have hb := wBorn_rg hW h0 h1
  simp only [m_father hW hM h0 h1, m_mother hW hM h0 h1, m_bornOn hW hM h0 h1, m_deadOn hW hM, m_areUnited hW hM, Option.bind_some]
  unfold wLegit
  rw [xp_w (by omega) (by omega)]
  by_cases f0 : wFa S p < 0
  · rw [if_pos f0, xb_neg (fun z => by omega)]
  · rw [if_neg f0]
    by_cases m0 : wMo S p < 0
    · rw [if_pos m0, xb_neg (fun z => by omega)]
    · rw [if_neg m0]
      by_cases u : united S (wFa S p) (wMo S p) (wBorn S p)
      · rw [xb_pos u, if_neg (by decide), xb_pos ⟨by omega, by omega, Or.inl u⟩]
      · rw [xb_neg u, if_pos rfl]
        by_cases d0 : wDead S (wFa S p) < 0
        · rw [if_pos d0, xb_neg (fun z => by rcases z.2.2 with z | z; exact u z; omega)]
        · rw [if_neg d0]
          by_cases d1 : wDead S (wFa S p) < wBorn S p - 300
          · rw [if_pos d1, xb_neg (fun z => by rcases z.2.2 with z | z; exact u z; omega)]
          · rw [if_neg d1]
            by_cases d2 : wBorn S p < wDead S (wFa S p)
            · rw [if_pos d2, xb_neg (fun z => by rcases z.2.2 with z | z; exact u z; omega)]
            · rw [if_neg d2]
              by_cases v : united S (wFa S p) (wMo S p) (wDead S (wFa S p))
              · rw [xb_pos v, if_neg (by decide), xb_pos ⟨by omega, by omega, Or.inr ⟨⟨by omega, by omega, by omega⟩, v⟩⟩]
              · rw [xb_neg v, if_pos rfl, xb_neg (fun z => by rcases z.2.2 with z | z; exact u z; exact v z.2)]
theorem m_isOfAge (hW : WF S) (hM : MS σ S) {p : Int} (h0 : 0 ≤ p) (h1 : p < sp S) (d : Int) : f_X11_isOfAge σ p d = some (σ, xb (wBorn S p + 4000 ≤ d)) := by
  unfold f_X11_isOfAge
  have hb := wBorn_rg hW h0 h1
  simp only [m_bornOn hW hM h0 h1, Option.bind_some]
  rw [xp_w (by omega) (by omega)]
  (repeat' split) <;> first | (exfalso; omega) | (rw [xb_pos (by omega)]; done) | (rw [xb_neg (by omega)]; done)
/-- another record that stands tells the same of the same -/
def again (S : xS) (r q : Nat) : Prop := q ≠ r ∧ wS S q = 1 ∧ wK S q = wK S r ∧ w1 S q = w1 S r ∧ (wK S r = 5 → w2 S q = w2 S r)
def toldTwice (S : xS) (r : Nat) : Prop := ∃ q, q < sn S ∧ again S r q
theorem m_isOnce (hW : WF S) (hM : MS σ S) {r : Nat} (hr : r < sn S) : f_X11_isOnce σ (r : Int) = some (σ, xb (¬ toldTwice S r)) := by
  unfold f_X11_isOnce f_X11_isOnce_l4
  have hn := hW.n
  obtain ⟨b1, b2, b3, b4, b5, b6, b7⟩ := hM.2.2.2.1 r hr
  have hg0 : 0 ≤ (r : Int) ∧ (r : Int) < 200 := ⟨by omega, by omega⟩
  refine it_T (γ := Nat) _ _ (fun (f : xm_Mem → Int → Int → Int → Option xm_Out) i => f σ (r : Int) (xb (∀ q, q < i → ¬ again S r q)) (i : Int)) (fun i => i ≤ sn S) (fun i => sn S - i) (fun z => z = some (σ, xb (¬ toldTwice S r))) ?_ xm_fuel 0 (Nat.zero_le _) (xfu (by omega)) |> (fun z => by rw [show xb (∀ q, q < 0 → ¬ again S r q) = 1 from xb_pos (fun q h => absurd h (Nat.not_lt_zero _))] at z; exact z)
  intro self i hi ih
  show f_X11_isOnce_b4 self σ (r : Int) (xb (∀ q, q < i → ¬ again S r q)) (i : Int) = _
  unfold f_X11_isOnce_b4
  rw [hM.1]
  by_cases h : i < sn S
  · obtain ⟨a1, a2, a3, a4, a5, a6, a7⟩ := hM.2.2.2.1 i h
    have hg : 0 ≤ (i : Int) ∧ (i : Int) < 200 := ⟨by omega, by omega⟩
    have hst := hW.st h
    have go : ∀ v, v = xb (∀ q, q < i + 1 → ¬ again S r q) → self σ (r : Int) v (xm_w ((i : Int) + 1)) = some (σ, xb (¬ toldTwice S r)) := by
      intro v hv
      subst hv
      rw [xw1 (by omega)]
      exact ih (i + 1) h (by omega)
    rw [if_pos (by omega)]
    simp only [Int.toNat_natCast, a1, a3, a4, a7, b1, b3, b4, if_pos hg, if_pos hg0]
    by_cases c : ∀ q, q < i → ¬ again S r q
    · rw [xb_pos c, if_neg (by decide)]
      have yes : again S r i → (0 : Int) = xb (∀ q, q < i + 1 → ¬ again S r q) := fun z => (xb_neg (fun w => w i (Nat.lt_succ_self i) z)).symm
      have no : ¬ again S r i → (1 : Int) = xb (∀ q, q < i + 1 → ¬ again S r q) := fun z => (xb_pos (fun q hq => by
        by_cases e : q = i
        · subst e; exact z
        · exact c q (by omega))).symm
      unfold again at yes no
      (repeat' split) <;> first | (refine go _ (no (by omega)); done) | (refine go _ (yes ⟨by omega, by omega, by omega, by omega, by omega⟩); done)
    · rw [xb_neg c, if_pos rfl]
      exact go 0 (xb_neg (fun w => c (fun q hq => w q (by omega)))).symm
  · rw [if_neg (by omega)]
    have e : i = sn S := by omega
    subst e
    rw [xb_congr]
    unfold toldTwice
    constructor
    · rintro z ⟨q, h1, h2⟩; exact z q h1 h2
    · intro z q h1 h2; exact z ⟨q, h1, h2⟩
end XO
