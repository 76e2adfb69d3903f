/-! ===== the reference's bonds: each, and the first that is broken ===== -/
def ageOk (S : xS) (p d g : Int) : Prop := wBorn S p + 4000 ≤ d ∧ ¬ (0 ≤ wDead S p ∧ wDead S p < d - g)
def uni (S : xS) (r : Nat) : Prop := wK S r = 1 ∨ wK S r = 2
def hB1 (S : xS) (r : Nat) : Prop := (wK S r = 0 → (w2 S r < 0 ∨ wMale S (w2 S r)) ∧ (w3 S r < 0 ∨ ¬ wMale S (w3 S r))) ∧ (uni S r → wMale S (w1 S r) ∧ ¬ wMale S (w2 S r))
def hB2 (S : xS) (r : Nat) : Prop := wK S r = 3 → wBorn S (w1 S r) ≤ wD S r ∧ ¬ toldTwice S r
def hB3 (S : xS) (r : Nat) : Prop := wK S r = 0 → w3 S r < 0 ∨ ageOk S (w3 S r) (wD S r) 0
def hB4 (S : xS) (r : Nat) : Prop := wK S r = 0 → w2 S r < 0 ∨ ageOk S (w2 S r) (wD S r) 300
def hB5 (S : xS) (r : Nat) : Prop := uni S r → ageOk S (w1 S r) (wD S r) 0 ∧ ageOk S (w2 S r) (wD S r) 0
def hB6 (S : xS) (r : Nat) : Prop := uni S r → (cn (ahM S r) (sn S) % 2 = 0 ↔ wK S r = 1)
def hB7 (S : xS) (r : Nat) : Prop := wK S r = 1 → ∀ q, q < sn S → ¬ clash S r q
def hB8 (S : xS) (r : Nat) : Prop := (4 ≤ wK S r ∧ wK S r ≤ 6 → wBorn S (w1 S r) ≤ wD S r ∧ ¬ (0 ≤ wDead S (w1 S r) ∧ wDead S (w1 S r) < wD S r)) ∧ (5 ≤ wK S r → wD S (stb S (w2 S r).toNat) ≤ wD S r) ∧ (wK S r = 5 → ¬ toldTwice S r) ∧ (wK S r = 6 → wW S (stb S (w2 S r).toNat) = 5)
def hB9 (S : xS) (r : Nat) : Prop := 7 ≤ wK S r → (cn (ahM S r) (sn S) % 2 = 0 ↔ wK S r = 7) ∧ ∀ q, q < sn S → ¬ sameDay S r q
def hold (S : xS) (b : Nat) (r : Nat) : Prop := match b with
  | 1 => hB1 S r
  | 2 => hB2 S r
  | 3 => hB3 S r
  | 4 => hB4 S r
  | 5 => hB5 S r
  | 6 => hB6 S r
  | 7 => hB7 S r
  | 8 => hB8 S r
  | _ => hB9 S r
theorem xbi {α : Type} {P : Prop} (a b : α) : (if xb P = 0 then a else b) = @ite _ P (Classical.propDecidable _) b a := by
  by_cases h : P
  · rw [if_pos h, if_neg (by rw [xb_pos h]; decide)]
  · rw [if_neg h, if_pos (xb_neg h)]
theorem xm_rem2 : ∀ n : Nat, n < 256 → xm_rem (n : Nat) 2 = ((n % 2 : Nat) : Int) := by decide +kernel
section XO
variable {σ : xm_Mem} {S : xS}
theorem m_dead0 (hW : WF S) (hM : MS σ S) (p d : Int) (g : Int) (hg : 0 ≤ g ∧ g ≤ 300) (hd : 0 ≤ d ∧ d ≤ 99999) : f_X11_isDeadAhead σ p (xm_w (d - g)) = some (σ, xb (0 ≤ wDead S p ∧ wDead S p < d - g)) := by
  rw [m_isDeadAhead hW hM, xp_w (by omega) (by omega)]
theorem m_bond1 (hW : WF S) (hM : MS σ S) {r : Nat} (hr : r < sn S) : f_X11_holdsBond σ 1 (r : Int) = some (σ, xb (hB1 S r)) := by
  unfold f_X11_holdsBond
  have hn := hW.n
  have hk := hW.kd hr
  obtain ⟨k1, k2, k3, k4, k5, k6, k7, k8, k9, k10⟩ := hW.2.1 r hr
  obtain ⟨b1, b2, b3, b4, b5, b6, b7⟩ := hM.2.2.2.1 r hr
  have hg0 : 0 ≤ (r : Int) ∧ (r : Int) < 200 := ⟨by omega, by omega⟩
  simp only [Int.toNat_natCast, b1, b2, b3, b4, b5, if_pos hg0, xvl, f_X11_holdsBond_j49, f_X11_holdsBond_j54, if_true]
  unfold hB1 uni
  by_cases c0 : wK S r = 0
  · have z := k5 c0
    rw [if_neg (by omega), if_neg (by omega), if_pos c0]
    have e122 : f_X11_holdsBond_j122 σ (w3 S r) = some (σ, xb (w3 S r < 0 ∨ ¬ wMale S (w3 S r))) := by
      unfold f_X11_holdsBond_j122
      by_cases g : w3 S r < 0
      · rw [if_pos g, xb_pos (Or.inl g)]
      · rw [if_neg g, m_isMale hW hM (by omega) (by omega)]
        simp only [Option.bind_some, xbi]
        by_cases u : wMale S (w3 S r)
        · rw [if_pos u, xb_neg (fun y => y.elim g (fun w => w u))]
        · rw [if_neg u, xb_pos (Or.inr u)]
    by_cases g : w2 S r < 0
    · rw [if_pos g, e122, xb_congr]
      exact ⟨fun y => ⟨fun _ => ⟨Or.inl g, y⟩, fun y => by omega⟩, fun y => (y.1 c0).2⟩
    · rw [if_neg g, m_isMale hW hM (by omega) (by omega)]
      simp only [Option.bind_some, xbi]
      by_cases u : wMale S (w2 S r)
      · rw [if_pos u, e122, xb_congr]
        exact ⟨fun y => ⟨fun _ => ⟨Or.inr u, y⟩, fun y => by omega⟩, fun y => (y.1 c0).2⟩
      · rw [if_neg u, xb_neg]
        intro y
        exact ((y.1 c0).1).elim g u
  · by_cases c1 : wK S r = 1 ∨ wK S r = 2
    · have z := k6 c1
      have key : (if (1 : Int) = 0 then some (σ, (1 : Int)) else (f_X11_isMale σ (w1 S r)).bind (fun o41 => if o41.2 = 0 then (some (o41.1, (0 : Int))) else ((f_X11_isMale o41.1 (w2 S r)).bind (fun o45 => if o45.2 = 0 then (some (o45.1, (1 : Int))) else (some (o45.1, (0 : Int))))))) = some (σ, xb ((wK S r = 0 → (w2 S r < 0 ∨ wMale S (w2 S r)) ∧ (w3 S r < 0 ∨ ¬ wMale S (w3 S r))) ∧ (wK S r = 1 ∨ wK S r = 2 → wMale S (w1 S r) ∧ ¬ wMale S (w2 S r)))) := by
        rw [if_neg (by decide), m_isMale hW hM (by omega) (by omega)]
        simp only [Option.bind_some, m_isMale hW hM z.2.1.1 z.2.1.2, xbi]
        by_cases u : wMale S (w1 S r)
        · rw [if_pos u]
          by_cases v : wMale S (w2 S r)
          · rw [if_pos v, xb_neg (fun y => (y.2 c1).2 v)]
          · rw [if_neg v, xb_pos ⟨fun y => absurd y c0, fun _ => ⟨u, v⟩⟩]
        · rw [if_neg u, xb_neg (fun y => u (y.2 c1).1)]
      rcases c1 with c1 | c1
      · rw [if_pos c1, if_neg c0]; exact key
      · rw [if_neg (by omega), if_pos c1, if_neg c0]; exact key
    · rw [if_neg (by omega), if_neg (by omega), if_neg c0, xb_pos ⟨fun y => absurd y c0, fun y => absurd y c1⟩]
theorem m_bond (hW : WF S) (hM : MS σ S) {r : Nat} (hr : r < sn S) (b : Nat) (hb : 2 ≤ b ∧ b ≤ 9) : f_X11_holdsBond σ (b : Int) (r : Int) = some (σ, xb (hold S b r)) := by
  have hn := hW.n
  have hk := hW.kd hr
  obtain ⟨k1, k2, k3, k4, k5, k6, k7, k8, k9, k10⟩ := hW.2.1 r hr
  obtain ⟨b1, b2, b3, b4, b5, b6, b7⟩ := hM.2.2.2.1 r hr
  have hg0 : 0 ≤ (r : Int) ∧ (r : Int) < 200 := ⟨by omega, by omega⟩
  have j54 : f_X11_holdsBond σ (b : Int) (r : Int) = f_X11_holdsBond_j54 σ (xb (uni S r)) (b : Int) (r : Int) (wK S r) (wD S r) (w1 S r) (w2 S r) (w3 S r) := by
    unfold f_X11_holdsBond
    simp only [Int.toNat_natCast, b1, b2, b3, b4, b5, if_pos hg0, xvl, f_X11_holdsBond_j49]
    unfold uni
    (repeat' split) <;> first | (rw [xb_pos (by omega)]; done) | (rw [xb_neg (by omega)]; done)
  rw [j54]
  have hrem := xm_rem2 (cn (ahM S r) (sn S)) (by have := cn_le (ahM S r) (sn S); omega)
  have hb' : b = 2 ∨ b = 3 ∨ b = 4 ∨ b = 5 ∨ b = 6 ∨ b = 7 ∨ b = 8 ∨ b = 9 := by omega
  rcases hb' with rfl | rfl | rfl | rfl | rfl | rfl | rfl | rfl
  · show f_X11_holdsBond_j54 σ _ 2 _ _ _ _ _ _ = some (σ, xb (hB2 S r))
    unfold f_X11_holdsBond_j54 hB2
    rw [if_neg (by decide), if_pos rfl]
    by_cases c : wK S r = 3
    · have z := k7 c
      rw [if_pos c, m_bornOn hW hM z.1.1 z.1.2]
      simp only [Option.bind_some, m_isOnce hW hM hr, xbi]
      by_cases d : wD S r < wBorn S (w1 S r)
      · rw [if_pos d, xb_neg (fun y => by have := (y c).1; omega)]
      · rw [if_neg d]
        by_cases t : toldTwice S r
        · rw [if_neg (fun y => y t), xb_neg (fun y => (y c).2 t)]
        · rw [if_pos t, xb_pos (fun _ => ⟨by omega, t⟩)]
    · rw [if_neg c, xb_pos (fun y => absurd y c)]
  · show f_X11_holdsBond_j54 σ _ 3 _ _ _ _ _ _ = some (σ, xb (hB3 S r))
    unfold f_X11_holdsBond_j54 hB3 ageOk
    rw [if_neg (by decide), if_neg (by decide), if_pos rfl]
    by_cases c : wK S r = 0
    · have z := k5 c
      rw [if_pos c]
      by_cases g : w3 S r < 0
      · rw [if_pos g, xb_pos (fun _ => Or.inl g)]
      · rw [if_neg g, m_isOfAge hW hM (by omega) (by omega)]
        simp only [Option.bind_some, m_isDeadAhead hW hM, xbi]
        by_cases u : wBorn S (w3 S r) + 4000 ≤ wD S r
        · rw [if_pos u]
          by_cases v : 0 ≤ wDead S (w3 S r) ∧ wDead S (w3 S r) < wD S r
          · rw [if_pos v, xb_neg (fun y => (y c).elim g (fun w => w.2 (by omega)))]
          · rw [if_neg v, xb_pos (fun _ => Or.inr ⟨u, by omega⟩)]
        · rw [if_neg u, xb_neg (fun y => (y c).elim g (fun w => u w.1))]
    · rw [if_neg c, xb_pos (fun y => absurd y c)]
  · show f_X11_holdsBond_j54 σ _ 4 _ _ _ _ _ _ = some (σ, xb (hB4 S r))
    unfold f_X11_holdsBond_j54 hB4 ageOk
    rw [if_neg (by decide), if_neg (by decide), if_neg (by decide), if_pos rfl]
    by_cases c : wK S r = 0
    · have z := k5 c
      rw [if_pos c]
      by_cases g : w2 S r < 0
      · rw [if_pos g, xb_pos (fun _ => Or.inl g)]
      · rw [if_neg g, m_isOfAge hW hM (by omega) (by omega)]
        simp only [Option.bind_some, m_dead0 hW hM _ _ 300 ⟨by decide, by decide⟩ (hW.day hr), xbi]
        by_cases u : wBorn S (w2 S r) + 4000 ≤ wD S r
        · rw [if_pos u]
          by_cases v : 0 ≤ wDead S (w2 S r) ∧ wDead S (w2 S r) < wD S r - 300
          · rw [if_pos v, xb_neg (fun y => (y c).elim g (fun w => w.2 v))]
          · rw [if_neg v, xb_pos (fun _ => Or.inr ⟨u, v⟩)]
        · rw [if_neg u, xb_neg (fun y => (y c).elim g (fun w => u w.1))]
    · rw [if_neg c, xb_pos (fun y => absurd y c)]
  · show f_X11_holdsBond_j54 σ _ 5 _ _ _ _ _ _ = some (σ, xb (hB5 S r))
    unfold f_X11_holdsBond_j54 hB5 ageOk
    rw [if_neg (by decide), if_neg (by decide), if_neg (by decide), if_neg (by decide), if_pos rfl]
    by_cases c : uni S r
    · have z := k6 c
      rw [xb_pos c, if_neg (by decide), m_isOfAge hW hM z.1.1 z.1.2]
      simp only [Option.bind_some, m_isOfAge hW hM z.2.1.1 z.2.1.2, m_isDeadAhead hW hM, xbi]
      (repeat' split) <;> first | (rw [xb_pos (fun _ => by omega)]; done) | (rw [xb_neg (fun y => by have := y c; omega)]; done)
    · rw [xb_neg c, if_pos rfl, xb_pos (fun y => absurd y c)]
  · show f_X11_holdsBond_j54 σ _ 6 _ _ _ _ _ _ = some (σ, xb (hB6 S r))
    unfold f_X11_holdsBond_j54 hB6
    rw [if_neg (by decide), if_neg (by decide), if_neg (by decide), if_neg (by decide), if_neg (by decide), if_pos rfl]
    by_cases c : uni S r
    · have e1 : ∀ x, f_X11_holdsBond_j354 σ 1 x = some (σ, xb (x = 1)) := by
        intro x
        unfold f_X11_holdsBond_j354
        by_cases h : x = 1
        · rw [if_pos h, if_pos rfl, xb_pos h]
        · rw [if_neg h, if_neg (by decide), xb_neg h]
      have e0 : ∀ x, f_X11_holdsBond_j354 σ 0 x = some (σ, xb (¬ x = 1)) := by
        intro x
        unfold f_X11_holdsBond_j354
        by_cases h : x = 1
        · rw [if_pos h, if_neg (by decide), xb_neg (fun z => z h)]
        · rw [if_neg h, if_pos rfl, xb_pos h]
      rw [xb_pos c, if_neg (by decide), m_ahead hW hM hr]
      simp only [Option.bind_some, hrem, e1, e0]
      by_cases h : cn (ahM S r) (sn S) % 2 = 0
      · rw [if_pos (by omega), xb_congr]
        exact ⟨fun y _ => ⟨fun _ => y, fun _ => h⟩, fun y => (y c).mp h⟩
      · rw [if_neg (by omega), xb_congr]
        exact ⟨fun y _ => ⟨fun z => absurd z h, fun z => absurd z y⟩, fun y z => h ((y c).mpr z)⟩
    · rw [xb_neg c, if_pos rfl, xb_pos (fun y => absurd y c)]
  · show f_X11_holdsBond_j54 σ _ 7 _ _ _ _ _ _ = some (σ, xb (hB7 S r))
    unfold f_X11_holdsBond_j54 hB7
    rw [if_neg (by decide), if_neg (by decide), if_neg (by decide), if_neg (by decide), if_neg (by decide), if_neg (by decide), if_pos rfl]
    by_cases c : wK S r = 1
    · rw [if_pos c, m_isAlone hW hM hr]
      simp only [Option.bind_some, xbi]
      by_cases u : ∀ q, q < sn S → ¬ clash S r q
      · rw [if_pos u, xb_pos (fun _ => u)]
      · rw [if_neg u, xb_neg (fun y => u (y c))]
    · rw [if_neg c, xb_pos (fun y => absurd y c)]
  · show f_X11_holdsBond_j54 σ _ 8 _ _ _ _ _ _ = some (σ, xb (hB8 S r))
    unfold f_X11_holdsBond_j54 hB8
    rw [if_neg (by decide), if_neg (by decide), if_neg (by decide), if_neg (by decide), if_neg (by decide), if_neg (by decide), if_neg (by decide), if_pos rfl]
    have j427 : f_X11_holdsBond_j427 σ (r : Int) (wK S r) (wD S r) (w2 S r) = some (σ, xb ((5 ≤ wK S r → wD S (stb S (w2 S r).toNat) ≤ wD S r) ∧ (wK S r = 5 → ¬ toldTwice S r) ∧ (wK S r = 6 → wW S (stb S (w2 S r).toNat) = 5))) := by
      unfold f_X11_holdsBond_j427 f_X11_holdsBond_j451
      by_cases c : wK S r < 5
      · rw [if_pos c, if_neg (by omega), if_neg (by omega), xb_pos ⟨by omega, by omega, by omega⟩]
      · have ht : 0 ≤ w2 S r ∧ w2 S r < stn S := by
          by_cases c7 : 7 ≤ wK S r
          · exact (k10 c7).2.1
          · exact (k9 (by omega)).2.1
        obtain ⟨t1, t2, t3, t4⟩ := hW.t ht.1 ht.2
        have e := hM.2.2.2.2.2 (w2 S r).toNat (by omega)
        obtain ⟨d1, d2, d3, d4, d5, d6, d7⟩ := hM.2.2.2.1 _ t1
        have hg8 : 0 ≤ w2 S r ∧ w2 S r < 8 := ⟨ht.1, t4⟩
        have hg2 : 0 ≤ ((stb S (w2 S r).toNat : Nat) : Int) ∧ ((stb S (w2 S r).toNat : Nat) : Int) < 200 := ⟨by omega, by omega⟩
        rw [if_neg c]
        simp only [if_pos hg8, xvl, e, if_pos hg2, Int.toNat_natCast, d2, d6, m_isOnce hW hM hr, Option.bind_some]
        by_cases z1 : wD S r < wD S (stb S (w2 S r).toNat)
        · rw [if_pos z1, xb_neg (fun y => by have := y.1 (by omega); omega)]
        · rw [if_neg z1]
          by_cases c5 : wK S r = 5
          · rw [if_pos c5, xb_congr]
            exact ⟨fun y => ⟨fun _ => by omega, fun _ => y, fun _ => by omega⟩, fun y => y.2.1 c5⟩
          · rw [if_neg c5]
            by_cases c6 : wK S r = 6
            · rw [if_pos c6]
              by_cases w : wW S (stb S (w2 S r).toNat) = 5
              · rw [if_pos w, xb_pos ⟨fun _ => by omega, fun y => absurd y c5, fun _ => w⟩]
              · rw [if_neg w, xb_neg (fun y => w (y.2.2 c6))]
            · rw [if_neg c6, xb_pos ⟨fun _ => by omega, fun y => absurd y c5, fun y => absurd y c6⟩]
    by_cases c4 : wK S r < 4
    · rw [if_pos c4, j427, xb_congr]
      exact ⟨fun y => ⟨fun _ => by omega, y⟩, fun y => y.2⟩
    · rw [if_neg c4]
      by_cases c6 : 6 < wK S r
      · rw [if_pos c6, j427, xb_congr]
        exact ⟨fun y => ⟨fun _ => by omega, y⟩, fun y => y.2⟩
      · rw [if_neg c6]
        have hp : 0 ≤ w1 S r ∧ w1 S r < sp S := by
          by_cases e4 : wK S r = 4
          · exact (k8 e4).1
          · exact (k9 (by omega)).1
        rw [m_bornOn hW hM hp.1 hp.2]
        simp only [Option.bind_some, m_isDeadAhead hW hM, xbi]
        by_cases z1 : wD S r < wBorn S (w1 S r)
        · rw [if_pos z1, xb_neg (fun y => by have := (y.1 ⟨by omega, by omega⟩).1; omega)]
        · rw [if_neg z1]
          by_cases v : 0 ≤ wDead S (w1 S r) ∧ wDead S (w1 S r) < wD S r
          · rw [if_pos v, xb_neg (fun y => (y.1 ⟨by omega, by omega⟩).2 v)]
          · rw [if_neg v, j427, xb_congr]
            exact ⟨fun y => ⟨fun _ => ⟨by omega, v⟩, y⟩, fun y => y.2⟩
  · show f_X11_holdsBond_j54 σ _ 9 _ _ _ _ _ _ = some (σ, xb (hB9 S r))
    unfold f_X11_holdsBond_j54 hB9
    rw [if_neg (by decide), if_neg (by decide), if_neg (by decide), if_neg (by decide), if_neg (by decide), if_neg (by decide), if_neg (by decide), if_neg (by decide)]
    by_cases c : wK S r < 7
    · rw [if_pos c, xb_pos (fun y => by omega)]
    · rw [if_neg c, m_ahead hW hM hr]
      have c7 : 7 ≤ wK S r := by omega
      have jx : ∀ s t : Int, f_X11_holdsBond_j524 σ s t (r : Int) = some (σ, xb (t = s ∧ ∀ q, q < sn S → ¬ sameDay S r q)) := by
        intro s t
        unfold f_X11_holdsBond_j524
        simp only [m_isOnly hW hM hr, Option.bind_some, xbi]
        by_cases h : t = s
        · rw [if_pos h]
          by_cases u : ∀ q, q < sn S → ¬ sameDay S r q
          · rw [if_pos u, xb_pos ⟨h, u⟩]
          · rw [if_neg u, xb_neg (fun y => u y.2)]
        · rw [if_neg h, xb_neg (fun y => h y.1)]
      simp only [Option.bind_some, hrem, f_X11_holdsBond_j513, jx]
      by_cases h : cn (ahM S r) (sn S) % 2 = 0
      · rw [if_pos (by omega)]
        by_cases k : wK S r = 7
        · rw [if_pos k, xb_congr]
          exact ⟨fun y _ => ⟨⟨fun _ => k, fun _ => h⟩, y.2⟩, fun y => ⟨trivial, (y c7).2⟩⟩
        · rw [if_neg k, xb_congr]
          exact ⟨fun y => absurd y.1 (by decide), fun y => absurd ((y c7).1.mp h) k⟩
      · rw [if_neg (by omega)]
        by_cases k : wK S r = 7
        · rw [if_pos k, xb_congr]
          exact ⟨fun y => absurd y.1 (by decide), fun y => absurd ((y c7).1.mpr k) h⟩
        · rw [if_neg k, xb_congr]
          exact ⟨fun y _ => ⟨⟨fun z => absurd z h, fun z => absurd z k⟩, y.2⟩, fun y => ⟨trivial, (y c7).2⟩⟩
/-- the first bond that some record that stands breaks, from b on; 0 if none -/
noncomputable def fstB (T : Nat → Prop) : Nat → Nat → Nat
  | 0, _ => 0
  | c + 1, b => @ite _ (T b) (Classical.propDecidable _) b (fstB T c (b + 1))
theorem fstB_s (T : Nat → Prop) (c b : Nat) : fstB T (c + 1) b = @ite _ (T b) (Classical.propDecidable _) b (fstB T c (b + 1)) := rfl
theorem fstB_congr {T U : Nat → Prop} : ∀ c b, (∀ i, b ≤ i → i < b + c → (∀ j, b ≤ j → j < i → ¬ T j) → (T i ↔ U i)) → fstB T c b = fstB U c b := by
  intro c
  induction c with
  | zero => intro b _; rfl
  | succ c ih =>
    intro b h
    have e := h b (Nat.le_refl _) (by omega) (fun j h1 h2 => absurd h1 (by omega))
    rw [fstB_s, fstB_s]
    by_cases t : T b
    · rw [if_pos t, if_pos (e.mp t)]
    · rw [if_neg t, if_neg (fun z => t (e.mpr z))]
      refine ih (b + 1) (fun i h1 h2 h3 => h i (by omega) (by omega) (fun j g1 g2 => ?_))
      by_cases q : j = b
      · subst q; exact t
      · exact h3 j (by omega) g2
def breaks (S : xS) (b : Nat) : Prop := ∃ r, r < sn S ∧ wS S r = 1 ∧ ¬ hold S b r
theorem m_hold (hW : WF S) (hM : MS σ S) {r : Nat} (hr : r < sn S) (b : Nat) (hb : 1 ≤ b ∧ b ≤ 9) : f_X11_holdsBond σ (b : Int) (r : Int) = some (σ, xb (hold S b r)) := by
  by_cases h : b = 1
  · subst h; exact m_bond1 hW hM hr
  · exact m_bond hW hM hr b ⟨by omega, hb.2⟩
theorem m_broken10 (hW : WF S) (hM : MS σ S) (b : Nat) (hb : 1 ≤ b ∧ b ≤ 9) (K : xm_Mem → Int → Option xm_Out) : f_X11_broken_l10 K xm_fuel σ (b : Int) 0 = @ite _ (breaks S b) (Classical.propDecidable _) (some (σ, (b : Int))) (K σ (b : Int)) := by
  unfold f_X11_broken_l10
  have hn := hW.n
  refine it_T (γ := Nat) _ _ (fun (f : xm_Mem → Int → Int → Option xm_Out) i => f σ (b : Int) (i : Int)) (fun i => i ≤ sn S ∧ ∀ r, r < i → ¬ (wS S r = 1 ∧ ¬ hold S b r)) (fun i => sn S - i) (fun z => z = @ite _ (breaks S b) (Classical.propDecidable _) (some (σ, (b : Int))) (K σ (b : Int))) ?_ xm_fuel 0 ⟨Nat.zero_le _, fun r h => absurd h (Nat.not_lt_zero _)⟩ (xfu (by omega))
  intro self i hi ih
  show f_X11_broken_b10 K self σ (b : Int) (i : Int) = _
  unfold f_X11_broken_b10
  rw [hM.1]
  by_cases h : i < sn S
  · obtain ⟨a1, a2, a3, a4, a5, a6, a7⟩ := hM.2.2.2.1 i h
    have hg : 0 ≤ (i : Int) ∧ (i : Int) < 200 := ⟨by omega, by omega⟩
    have go : ¬ (wS S i = 1 ∧ ¬ hold S b i) → self σ (b : Int) (xm_w ((i : Int) + 1)) = @ite _ (breaks S b) (Classical.propDecidable _) (some (σ, (b : Int))) (K σ (b : Int)) := by
      intro e
      rw [xw1 (by omega)]
      refine ih (i + 1) ⟨h, fun r hr => ?_⟩ (by omega)
      by_cases q : r = i
      · subst q; exact e
      · exact hi.2 r (by omega)
    rw [if_pos (by omega)]
    simp only [Int.toNat_natCast, a7, if_pos hg, m_hold hW hM h b hb, Option.bind_some, xbi]
    by_cases s : wS S i = 0
    · rw [if_pos s]; exact go (by omega)
    · rw [if_neg s]
      have hs : wS S i = 1 := by rcases hW.st h with z | z; exact absurd z s; exact z
      by_cases t : hold S b i
      · rw [if_pos t]; exact go (fun z => z.2 t)
      · rw [if_neg t, if_pos ⟨i, h, hs, t⟩]
  · rw [if_neg (by omega), if_neg]
    rintro ⟨r, g1, g2⟩
    exact hi.2 r (by omega) g2
theorem m_broken (hW : WF S) (hM : MS σ S) : f_X11_broken σ = some (σ, (fstB (breaks S) 9 1 : Int)) := by
  unfold f_X11_broken f_X11_broken_l2
  refine it_T (γ := Nat) _ _ (fun (f : xm_Mem → Int → Option xm_Out) b => f σ (b : Int)) (fun b => (1 ≤ b ∧ b ≤ 10) ∧ fstB (breaks S) (10 - b) b = fstB (breaks S) 9 1) (fun b => 10 - b) (fun z => z = some (σ, (fstB (breaks S) 9 1 : Int))) ?_ xm_fuel 1 ⟨⟨by decide, by decide⟩, rfl⟩ (xfu (by decide))
  intro self b hb ih
  show f_X11_broken_b2 self σ (b : Int) = _
  unfold f_X11_broken_b2
  by_cases h : b = 10
  · subst h
    rw [if_pos (by decide), ← hb.2]
    rfl
  · rw [if_neg (by omega), m_broken10 hW hM b ⟨hb.1.1, by omega⟩]
    have e : 10 - b = (10 - (b + 1)) + 1 := by omega
    have hb2 := hb.2
    rw [e, fstB_s] at hb2
    by_cases t : breaks S b
    · rw [if_pos t]
      rw [if_pos t] at hb2
      rw [← hb2]
    · rw [if_neg t, xw1 (by omega)]
      rw [if_neg t] at hb2
      exact ih (b + 1) ⟨⟨by omega, by omega⟩, hb2⟩ (by omega)
end XO
