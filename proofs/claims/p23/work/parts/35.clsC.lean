/-! ===== the class: turns, tellings ===== -/
/-- another record that stands and takes turns with one -/
def kin (S : xS) (r q : Nat) : Prop := q ≠ r ∧ wS S q = 1 ∧ sameP S r q
def op (S : xS) (r : Nat) : Prop := wK S r = 1 ∨ wK S r = 7
/-- the one before, by turns -/
def isBef (S : xS) (r n b : Nat) : Prop := (b < n ∧ kin S r b ∧ wT S b < wT S r) ∧ (∀ q, q < n → kin S r q → wT S q < wT S r → wT S q ≤ wT S b) ∧ ∀ q, q < b → kin S r q → wT S q < wT S r → wT S q < wT S b
def outT (S : xS) (r : Nat) : Prop := (∃ q, q < sn S ∧ kin S r q ∧ wT S q = wT S r) ∨ ((∃ b, isBef S r (sn S) b ∧ op S b) ↔ op S r)
section XR
variable {σ : xm_Mem} {S : xS} {e : Nat → Nat}
theorem isBef_uniq {r n b c : Nat} (h : isBef S r n b) (g : isBef S r n c) : b = c := by
  rcases Nat.lt_trichotomy b c with z | z | z
  · have := g.2.2 b z h.1.2.1 h.1.2.2; have := h.2.1 c g.1.1 g.1.2.1 g.1.2.2; omega
  · exact z
  · have := h.2.2 c z g.1.2.1 g.1.2.2; have := g.2.1 b h.1.1 h.1.2.1 h.1.2.2; omega
theorem r7_tellsAgain (hW : WF S) (hC : CS σ S e) {r : Nat} (hr : r < sn S) (hk : wK S r = 3 ∨ wK S r = 5) : f_X7_tellsAgain σ (e r : Int) = some (σ, xb (toldTwice S r)) := by
  unfold f_X7_tellsAgain f_X7_tellsAgain_l2
  have hn := hW.n
  obtain ⟨r1, r2, r3, r4, r5⟩ := hC.at hr
  refine it_T (γ := Nat) _ _ (fun (f : xm_Mem → Int → Int → Option xm_Out) i => f σ (e r : Int) (i : Int)) (fun i => i ≤ sn S ∧ ∀ q, q < i → ¬ again S r q) (fun i => sn S - i) (fun z => z = some (σ, xb (toldTwice S r))) ?_ xm_fuel 0 ⟨Nat.zero_le _, fun q h => absurd h (Nat.not_lt_zero _)⟩ (xfu (by omega))
  rintro self i ⟨hi, hno⟩ ih
  show f_X7_tellsAgain_b2 self σ (e r : Int) (i : Int) = _
  unfold f_X7_tellsAgain_b2
  rw [hC.1.1]
  by_cases h : i < sn S
  · obtain ⟨g1, g2, g3, g4, g5⟩ := hC.at h
    have go : ¬ again S r i → self σ (e r : Int) (xm_w ((i : Int) + 1)) = some (σ, xb (toldTwice S r)) := by
      intro z
      rw [xw1 (by omega)]
      refine ih (i + 1) ⟨h, fun q hq => ?_⟩ (by omega)
      by_cases w : q = i
      · subst w; exact z
      · exact hno q (by omega)
    rw [if_pos (by omega), r7_standing hW hC h]
    simp only [Option.bind_some]
    by_cases s : wS S i = 0
    · rw [if_pos s, xvr _ (by decide), if_pos rfl]
      exact go (fun z => by have := z.2.1; omega)
    · have s1 : wS S i = 1 := by rcases hW.st h with z | z; exact absurd z s; exact z
      rw [if_neg s, xvr _ g4, if_neg g5]
      by_cases q : i = r
      · subst q
        rw [if_pos rfl]; exact go (fun z => z.1 rfl)
      · rw [if_neg (fun z => q ((hC.inj h hr).mp z))]
        simp only [if_pos g2, if_pos r2, Int.toNat_natCast, g3.1, g3.2.2.1, g3.2.2.2.2.2.2.1, r3.1, r3.2.2.1, r3.2.2.2.2.2.2.1]
        by_cases k : wK S i = wK S r
        · rw [if_pos k]
          by_cases o : w1 S i = w1 S r
          · rw [if_pos o]
            by_cases t : (if 4 ≤ wK S i then w2 S i else -1) = (if 4 ≤ wK S r then w2 S r else -1)
            · rw [if_pos t, xb_pos]
              refine ⟨i, h, q, s1, k, o, fun z => ?_⟩
              rw [if_pos (by omega), if_pos (by omega)] at t
              exact t
            · rw [if_neg t]
              refine go (fun z => t ?_)
              rcases hk with hk | hk
              · rw [if_neg (by omega), if_neg (by omega)]
              · rw [if_pos (by omega), if_pos (by omega)]; exact z.2.2.2.2 hk
          · rw [if_neg o]; exact go (fun z => o z.2.2.2.1)
        · rw [if_neg k]; exact go (fun z => k z.2.2.1)
  · rw [if_neg (by omega), xb_neg]
    rintro ⟨q, g1, g2⟩
    exact hno q (by omega) g2
theorem r7_isOutOfTurn (hW : WF S) (hC : CS σ S e) {r : Nat} (hr : r < sn S) : f_X7_isOutOfTurn σ (e r : Int) = some (σ, xb (outT S r)) := by
  unfold f_X7_isOutOfTurn f_X7_isOutOfTurn_l4
  have hn := hW.n
  obtain ⟨r1, r2, r3, r4, r5⟩ := hC.at hr
  refine it_T (γ := Nat × Int) _ _ (fun (f : xm_Mem → Int → Int → Int → Option xm_Out) a => f σ (e r : Int) a.2 (a.1 : Int)) (fun a => (a.1 ≤ sn S ∧ ∀ q, q < a.1 → ¬ (kin S r q ∧ wT S q = wT S r)) ∧ ((a.2 = 0 ∧ ∀ q, q < a.1 → ¬ (kin S r q ∧ wT S q < wT S r)) ∨ ∃ b, a.2 = (e b : Int) ∧ isBef S r a.1 b)) (fun a => sn S - a.1) (fun z => z = some (σ, xb (outT S r))) ?_ xm_fuel (0, 0) ⟨⟨Nat.zero_le _, fun q h => absurd h (Nat.not_lt_zero _)⟩, Or.inl ⟨rfl, fun q h => absurd h (Nat.not_lt_zero _)⟩⟩ (xfu (by show sn S - 0 < _; omega))
  rintro self ⟨i, x⟩ ⟨⟨hi, hno⟩, hx⟩ ih
  show f_X7_isOutOfTurn_b4 _ self σ (e r : Int) x (i : Int) = _
  unfold f_X7_isOutOfTurn_b4
  rw [hC.1.1]
  replace hi : i ≤ sn S := hi
  replace hno : ∀ q, q < i → ¬ (kin S r q ∧ wT S q = wT S r) := hno
  by_cases h : i < sn S
  · obtain ⟨g1, g2, g3, g4, g5⟩ := hC.at h
    have go : ¬ (kin S r i ∧ wT S i ≤ wT S r) → self σ (e r : Int) x (xm_w ((i : Int) + 1)) = some (σ, xb (outT S r)) := by
      intro z
      rw [xw1 (by omega)]
      refine ih (i + 1, x) ⟨⟨h, fun q hq => ?_⟩, ?_⟩ (by show sn S - (i + 1) < sn S - i; omega)
      · by_cases w : q = i
        · subst w; exact fun y => z ⟨y.1, by omega⟩
        · exact hno q (by have : q < i + 1 := hq; omega)
      · rcases hx with ⟨hx, hx2⟩ | ⟨b, hx, hx2⟩
        · refine Or.inl ⟨hx, fun q hq => ?_⟩
          by_cases w : q = i
          · subst w; exact fun y => z ⟨y.1, by omega⟩
          · exact hx2 q (by have : q < i + 1 := hq; show q < i; omega)
        · refine Or.inr ⟨b, hx, ⟨by have : b < i := hx2.1.1; show b < i + 1; omega, hx2.1.2⟩, fun q hq a b => ?_, hx2.2.2⟩
          by_cases w : q = i
          · subst w; exact absurd ⟨a, by omega⟩ z
          · exact hx2.2.1 q (by have : q < i + 1 := hq; show q < i; omega) a b
    rw [if_pos (by omega), r7_standing hW hC h]
    simp only [Option.bind_some]
    by_cases s : wS S i = 0
    · rw [if_pos s, xvr _ (by decide), if_pos rfl]
      exact go (fun z => by have := z.1.2.1; omega)
    · have s1 : wS S i = 1 := by rcases hW.st h with z | z; exact absurd z s; exact z
      rw [if_neg s, xvr _ g4, if_neg g5]
      by_cases q : i = r
      · subst q
        rw [if_pos rfl]; exact go (fun z => z.1.1 rfl)
      · rw [if_neg (fun z => q ((hC.inj h hr).mp z))]
        simp only [if_pos g2, if_pos r2, r3_takesTurnsWith hW hr h r2 r3 g2 g3, Option.bind_some, r3_turn hW hr r2 r3, r3_turn hW h g2 g3, xbi]
        by_cases t : sameP S r i
        · rw [if_pos t]
          have hkin : kin S r i := ⟨q, s1, t⟩
          by_cases u : wT S i = wT S r
          · rw [if_pos u, xb_pos (show outT S r from Or.inl ⟨i, h, hkin, u⟩)]
          · rw [if_neg u]
            by_cases v : wT S i < wT S r
            · rw [if_pos v]
              have hno2 : ∀ q, q < i + 1 → ¬ (kin S r q ∧ wT S q = wT S r) := by
                intro q hq
                by_cases w : q = i
                · subst w; exact fun y => u y.2
                · exact hno q (by omega)
              rcases hx with ⟨hx, hx2⟩ | ⟨b, hx, hx2⟩
              · replace hx : x = 0 := hx
                rw [if_pos hx, xw1 (by omega)]
                refine ih (i + 1, (e i : Int)) ⟨⟨h, hno2⟩, Or.inr ⟨i, rfl, ⟨Nat.lt_succ_self i, hkin, v⟩, fun q hq a c => ?_, fun q hq a c => absurd ⟨a, c⟩ (hx2 q hq)⟩⟩ (by show sn S - (i + 1) < sn S - i; omega)
                by_cases w : q = i
                · subst w; exact Int.le_refl _
                · exact absurd ⟨a, c⟩ (hx2 q (by have : q < i + 1 := hq; show q < i; omega))
              · replace hx : x = (e b : Int) := hx
                have hbn : b < sn S := by have : b < i := hx2.1.1; omega
                obtain ⟨b1, b2, b3, b4, b5⟩ := hC.at hbn
                rw [hx, if_neg b5]
                simp only [if_pos b2, r3_turn hW hbn b2 b3, Option.bind_some]
                by_cases w : wT S b < wT S i
                · rw [if_pos w, xw1 (by omega)]
                  refine ih (i + 1, (e i : Int)) ⟨⟨h, hno2⟩, Or.inr ⟨i, rfl, ⟨Nat.lt_succ_self i, hkin, v⟩, fun q hq a c => ?_, fun q hq a c => ?_⟩⟩ (by show sn S - (i + 1) < sn S - i; omega)
                  · by_cases y : q = i
                    · subst y; exact Int.le_refl _
                    · have := hx2.2.1 q (by have : q < i + 1 := hq; show q < i; omega) a c; omega
                  · have := hx2.2.1 q hq a c; omega
                · rw [if_neg w, xw1 (by omega)]
                  refine ih (i + 1, (e b : Int)) ⟨⟨h, hno2⟩, Or.inr ⟨b, rfl, ⟨by have : b < i := hx2.1.1; show b < i + 1; omega, hx2.1.2⟩, fun q hq a c => ?_, hx2.2.2⟩⟩ (by show sn S - (i + 1) < sn S - i; omega)
                  by_cases y : q = i
                  · subst y; omega
                  · exact hx2.2.1 q (by have : q < i + 1 := hq; show q < i; omega) a c
            · rw [if_neg v]; exact go (fun z => by have := z.2; omega)
        · rw [if_neg t]; exact go (fun z => t z.1.2.2)
  · have ee : i = sn S := by omega
    subst ee
    rw [if_neg (by omega)]
    have h1 : ¬ ∃ q, q < sn S ∧ kin S r q ∧ wT S q = wT S r := fun ⟨q, a, c⟩ => hno q a c
    have j0 : f_X7_isOutOfTurn_j109 σ 0 (e r : Int) = some (σ, xb (¬ op S r)) := by
      unfold f_X7_isOutOfTurn_j109
      simp only [if_pos r2, r3_opens r2 r3, Option.bind_some]
      unfold op
      by_cases z : wK S r = 1 ∨ wK S r = 7
      · rw [xb_pos z, if_neg (by decide), xb_neg (fun y => y z)]
      · rw [xb_neg z, if_pos rfl, xb_pos z]
    have j1 : f_X7_isOutOfTurn_j109 σ 1 (e r : Int) = some (σ, xb (op S r)) := by
      unfold f_X7_isOutOfTurn_j109
      simp only [if_pos r2, r3_opens r2 r3, Option.bind_some]
      unfold op
      by_cases z : wK S r = 1 ∨ wK S r = 7
      · rw [xb_pos z, if_pos rfl]
      · rw [xb_neg z, if_neg (by decide)]
    rcases hx with ⟨hx, hx2⟩ | ⟨b, hx, hx2⟩
    · replace hx : x = 0 := hx
      show (if x = 0 then _ else _) = _
      rw [if_pos hx]
      unfold f_X7_isOutOfTurn_j108
      rw [j0, xb_congr]
      unfold outT
      have hne : ¬ ∃ b, isBef S r (sn S) b ∧ op S b := fun ⟨b, z, _⟩ => hx2 b z.1.1 z.1.2
      exact ⟨fun y => Or.inr ⟨fun z => absurd z hne, fun z => absurd z y⟩, fun y z => y.elim h1 (fun w => hne (w.mpr z))⟩
    · replace hx : x = (e b : Int) := hx
      have hbn : b < sn S := hx2.1.1
      obtain ⟨b1, b2, b3, b4, b5⟩ := hC.at hbn
      rw [hx]
      show (if (e b : Int) = 0 then _ else _) = _
      rw [if_neg b5]
      simp only [if_pos b2, r3_opens b2 b3, Option.bind_some, xbi]
      by_cases z : wK S b = 1 ∨ wK S b = 7
      · rw [if_pos z, j1, xb_congr]
        have he : ∃ b, isBef S r (sn S) b ∧ op S b := ⟨b, hx2, z⟩
        exact ⟨fun y => Or.inr ⟨fun _ => y, fun _ => he⟩, fun y => y.elim (fun w => absurd w h1) (fun w => w.mp he)⟩
      · rw [if_neg z]
        unfold f_X7_isOutOfTurn_j108
        rw [j0, xb_congr]
        have hne : ¬ ∃ b, isBef S r (sn S) b ∧ op S b := fun ⟨c, w, v⟩ => z (by rw [isBef_uniq hx2 w]; exact v)
        exact ⟨fun y => Or.inr ⟨fun w => absurd w hne, fun w => absurd w y⟩, fun y w => y.elim h1 (fun v => hne (v.mpr w))⟩
end XR
/-- the last below n with a property -/
theorem ex_last {P : Nat → Prop} : ∀ n, (∃ q, q < n ∧ P q) → ∃ q, (q < n ∧ P q) ∧ ∀ k, q < k → k < n → ¬ P k := by
  intro n
  induction n with
  | zero => rintro ⟨q, h, _⟩; exact absurd h (Nat.not_lt_zero _)
  | succ n ih =>
    rintro ⟨q, h1, h2⟩
    by_cases p : P n
    · exact ⟨n, ⟨Nat.lt_succ_self n, p⟩, fun k a b => absurd a (by omega)⟩
    · have : q ≠ n := fun z => p (z ▸ h2)
      obtain ⟨c, c1, c2⟩ := ih ⟨q, by omega, h2⟩
      refine ⟨c, ⟨by omega, c1.2⟩, fun k a b => ?_⟩
      by_cases z : k = n
      · subst z; exact p
      · exact c2 k a (by omega)
/-- the first of those with the most -/
theorem ex_max {P : Nat → Prop} (f : Nat → Int) : ∀ n, (∃ q, q < n ∧ P q) → ∃ b, (b < n ∧ P b) ∧ (∀ q, q < n → P q → f q ≤ f b) ∧ ∀ q, q < b → P q → f q < f b := by
  intro n
  induction n with
  | zero => rintro ⟨q, h, _⟩; exact absurd h (Nat.not_lt_zero _)
  | succ n ih =>
    rintro ⟨q, h1, h2⟩
    by_cases ex : ∃ q, q < n ∧ P q
    · obtain ⟨b, b1, b2, b3⟩ := ih ex
      by_cases p : P n ∧ f b < f n
      · refine ⟨n, ⟨Nat.lt_succ_self n, p.1⟩, fun k a c => ?_, fun k a c => ?_⟩
        · by_cases z : k = n
          · subst z; exact Int.le_refl _
          · have := b2 k (by omega) c; omega
        · have := b2 k a c; omega
      · refine ⟨b, ⟨by omega, b1.2⟩, fun k a c => ?_, b3⟩
        by_cases z : k = n
        · subst z
          have : ¬ f b < f k := fun w => p ⟨c, w⟩
          omega
        · exact b2 k (by omega) c
    · have e : q = n := by
        rcases Nat.lt_or_ge q n with z | z
        · exact absurd ⟨q, z, h2⟩ ex
        · omega
      subst e
      exact ⟨q, ⟨h1, h2⟩, fun k a c => by
        rcases Nat.lt_or_ge k q with z | z
        · exact absurd ⟨k, z, c⟩ ex
        · have : k = q := by omega
          subst this; exact Int.le_refl _, fun k a c => absurd ⟨k, a, c⟩ ex⟩
