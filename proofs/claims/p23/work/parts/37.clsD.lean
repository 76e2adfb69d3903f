/-! ===== the class's bonds ===== -/
/-- deaths are told once: first and last are the same -/
def uq (S : xS) : Prop := ∀ p, lastD S p = wDead S p
def two (S : xS) : Prop := ∃ r q, q < r ∧ r < sn S ∧ (wS S r = 1 ∧ wK S r = 1) ∧ (wS S q = 1 ∧ wK S q = 1) ∧ (w1 S r = w1 S q ∨ w2 S r = w2 S q) ∧ wD S r ≤ oL S q ∧ wD S q ≤ oL S r
section XB
variable {σ : xm_Mem} {S : xS} {e : Nat → Nat}
theorem r7_grantOf (hW : WF S) (hC : CS σ S e) (t : Int) : f_X7_grantOf σ t = some (σ, @ite _ (isT S t) (Classical.propDecidable _) (e (stb S t.toNat) : Int) 0) := by
  unfold f_X7_grantOf
  rw [hC.1.2.2]
  by_cases h0 : t < 0
  · rw [if_pos h0, if_neg (fun z : isT S t => by have := z.1; omega)]
  · rw [if_neg h0]
    by_cases h1 : t < stn S
    · obtain ⟨t1, t2, t3, t4⟩ := hW.t (t := t) (by omega) h1
      obtain ⟨a1, a2, a3, a4, a5⟩ := hC.at t1
      have e1 := hC.2.2.2.2.2 t.toNat (by omega)
      rw [if_pos h1, if_pos ⟨by omega, t4⟩, e1, xvr _ a4, if_neg a5, if_pos a2, Int.toNat_natCast, a3.2.2.2.2.2.2.2.2.2]
      rcases hW.st t1 with z | z
      · rw [if_pos z, if_neg (fun w : isT S t => by have := w.2.2; omega)]
      · rw [if_neg (by omega), if_pos (show isT S t from ⟨by omega, h1, z⟩)]
    · rw [if_neg h1, if_neg (fun z : isT S t => h1 z.2.1)]
theorem r7_hasTitle (hW : WF S) (hC : CS σ S e) (t : Int) : f_X7_hasTitle σ t = some (σ, xb (isT S t)) := by
  unfold f_X7_hasTitle
  rw [r7_grantOf hW hC]
  simp only [Option.bind_some]
  by_cases h : isT S t
  · obtain ⟨t1, t2, t3, t4⟩ := hW.t h.1 h.2.1
    rw [if_pos h, if_neg (hC.at t1).2.2.2.2, xb_pos h]
  · rw [if_neg h, if_pos rfl, xb_neg h]
theorem r7_hasPerson (hW : WF S) (hC : CS σ S e) (p : Int) : f_X7_hasPerson σ p = some (σ, xb (isP S p)) := by
  unfold f_X7_hasPerson
  rw [hC.1.2.1]
  by_cases h0 : p < 0
  · rw [if_pos h0, xb_neg (fun z => by have := z.1; omega)]
  · rw [if_neg h0]
    by_cases h1 : p < sp S
    · obtain ⟨t1, t2, t3, t4⟩ := hW.p (p := p) (by omega) h1
      obtain ⟨a1, a2, a3, a4, a5⟩ := hC.at t1
      have e1 := hC.2.2.2.2.1 p.toNat (by omega)
      have hg : 0 ≤ p ∧ p < 64 := ⟨by omega, t4⟩
      rw [if_pos h1]
      simp only [if_pos hg, e1, if_neg a5, if_pos a2, Int.toNat_natCast, a3.2.2.2.2.2.2.2.2.2]
      rcases hW.st t1 with z | z
      · rw [if_pos z, xb_neg (fun w => by have := w.2.2; omega)]
      · rw [if_neg (by omega), xb_pos ⟨by omega, h1, z⟩]
    · rw [if_neg h1, xb_neg (fun z => h1 z.2.1)]
theorem c_wrongSexes (hW : WF S) (hN : NM S) (hC : CS σ S e) (hP : PO σ S) {r : Nat} (hr : r < sn S) (hs : wS S r = 1) : f_X0_hasWrongSexes σ (e r : Int) = some (σ, xb (¬ hB1 S r)) := by
  unfold f_X0_hasWrongSexes
  obtain ⟨r1, r2, r3, r4, r5⟩ := hC.at hr
  obtain ⟨n1, n2, n3, n4⟩ := hN r hr hs
  have hk := hW.kd hr
  simp only [if_pos r2, Int.toNat_natCast, r3.1, r3.2.2.1, r3.2.2.2.1, r3.2.2.2.2.1, r3_isOfUnion r2 r3, Option.bind_some]
  unfold hB1 uni
  by_cases c0 : wK S r = 0
  · have z := (hW.2.1 r hr).2.2.2.2.1 c0
    have j26 : f_X0_hasWrongSexes_j26 σ (e r : Int) = some (σ, xb (¬ (w3 S r < 0 ∨ ¬ wMale S (w3 S r)))) := by
      unfold f_X0_hasWrongSexes_j26
      simp only [if_pos r2, Int.toNat_natCast, r3.2.2.2.2.2.1, if_pos c0]
      by_cases g : w3 S r = -1
      · rw [if_pos g, xb_neg (fun y => y (Or.inl (by omega)))]
      · rw [if_neg g, c_isMale hW hP ((n1 c0).2.resolve_left g)]
        simp only [Option.bind_some, xbi]
        by_cases u : wMale S (w3 S r)
        · rw [if_pos u, xb_pos (fun y => y.elim (fun w => by omega) (fun w => w u))]
        · rw [if_neg u, xb_neg (fun y => y (Or.inr u))]
    simp only [if_pos c0]
    by_cases g : w2 S r = -1
    · rw [if_pos g, j26, xb_congr]
      exact ⟨fun y w => y (w.1 c0).2, fun y w => y ⟨fun _ => ⟨Or.inl (by omega), w⟩, fun v => by omega⟩⟩
    · rw [if_neg g, c_isMale hW hP ((n1 c0).1.resolve_left g)]
      simp only [Option.bind_some, xbi]
      by_cases u : wMale S (w2 S r)
      · rw [if_pos u, j26, xb_congr]
        exact ⟨fun y w => y (w.1 c0).2, fun y w => y ⟨fun _ => ⟨Or.inr u, w⟩, fun v => by omega⟩⟩
      · rw [if_neg u, xb_pos (fun y => (y.1 c0).1.elim (fun w => by omega) u)]
  · simp only [if_neg c0, xbi]
    by_cases c1 : wK S r = 1 ∨ wK S r = 2
    · rw [if_pos c1]
      rw [c_isMale hW hP (n2 (by omega))]
      simp only [Option.bind_some, xbi, if_pos r2, Int.toNat_natCast, r3.2.2.2.1, if_pos c1, c_isMale hW hP (n3 c1)]
      by_cases u : wMale S (w1 S r)
      · rw [if_pos u]
        by_cases v : wMale S (w2 S r)
        · rw [if_pos v, xb_pos (fun y => (y.2 c1).2 v)]
        · rw [if_neg v, xb_neg (fun y => y ⟨fun w => absurd w c0, fun _ => ⟨u, v⟩⟩)]
      · rw [if_neg u, xb_pos (fun y => u (y.2 c1).1)]
    · rw [if_neg c1, xb_neg (fun y => y ⟨fun w => absurd w c0, fun w => absurd w c1⟩)]
theorem age_cls (hu : uq S) (hW : WF S) (p d g : Int) : (wBorn S p + 4000 ≤ d ∧ ¬ (lastD S p ≠ -1 ∧ lastD S p < d - g)) ↔ ageOk S p d g := by
  unfold ageOk
  have := hu p
  have := wDead_rg hW p
  omega
/-- the breaking of a bond as the class asks it of an entry -/
def cbr (S : xS) (b : Nat) (r : Nat) : Prop := match b with
  | 6 => uni S r ∧ outT S r
  | 7 => False
  | 9 => 7 ≤ wK S r ∧ outT S r
  | b => ¬ hold S b r
theorem c_breaks1 (hW : WF S) (hN : NM S) (hC : CS σ S e) (hP : PO σ S) {r : Nat} (hr : r < sn S) (hs : wS S r = 1) : f_X0_breaks σ 1 (e r : Int) = some (σ, xb (cbr S 1 r)) := by
  unfold f_X0_breaks
  rw [if_pos rfl, c_wrongSexes hW hN hC hP hr hs]
  rfl
theorem c_breaks2 (hW : WF S) (hN : NM S) (hC : CS σ S e) (hP : PO σ S) {r : Nat} (hr : r < sn S) (hs : wS S r = 1) : f_X0_breaks σ 2 (e r : Int) = some (σ, xb (cbr S 2 r)) := by
  show _ = some (σ, xb (¬ hB2 S r))
  unfold f_X0_breaks hB2
  obtain ⟨r1, r2, r3, r4, r5⟩ := hC.at hr
  obtain ⟨n1, n2, n3, n4⟩ := hN r hr hs
  rw [if_neg (by decide), if_pos rfl]
  simp only [if_pos r2, Int.toNat_natCast, r3.1, r3.2.1, r3.2.2.1]
  by_cases k : wK S r = 3
  · rw [if_pos k, r7_tellsAgain hW hC hr (Or.inl k)]
    simp only [Option.bind_some, xbi, c_bornOn hW hP (n2 (by omega)), if_pos r2]
    by_cases t : toldTwice S r
    · rw [if_pos t, xb_pos (fun y => (y k).2 t)]
    · rw [if_neg t]
      simp only [Int.toNat_natCast, r3.2.2.1, r3.2.1, c_bornOn hW hP (n2 (show 1 ≤ wK S r ∧ wK S r ≤ 6 by omega)), Option.bind_some]
      by_cases d : wD S r < wBorn S (w1 S r)
      · rw [if_pos d, xb_pos (fun y => by have := (y k).1; omega)]
      · rw [if_neg d, xb_neg (fun y => y (fun _ => ⟨by omega, t⟩))]
  · rw [if_neg k, xb_neg (fun y => y (fun w => absurd w k))]
theorem c_title (hW : WF S) (hN : NM S) (hu : uq S) (hC : CS σ S e) (hP : PO σ S) {r : Nat} (hr : r < sn S) (hs : wS S r = 1) : f_X0_breaksATitle σ (e r : Int) = some (σ, xb (¬ hB8 S r)) := by
  obtain ⟨r1, r2, r3, r4, r5⟩ := hC.at hr
  obtain ⟨n1, n2, n3, n4⟩ := hN r hr hs
  have hk := hW.kd hr
  have j101 : 5 ≤ wK S r → f_X0_breaksATitle_j101 σ (e r : Int) = some (σ, xb (wD S r < wD S (stb S (w2 S r).toNat) ∨ (wK S r = 6 ∧ ¬ wW S (stb S (w2 S r).toNat) = 5))) := by
    intro k5
    have ht := n4 k5
    obtain ⟨t1, t2, t3, t4⟩ := hW.t ht.1 ht.2.1
    obtain ⟨a1, a2, a3, a4, a5⟩ := hC.at t1
    unfold f_X0_breaksATitle_j101
    simp only [if_pos r2, Int.toNat_natCast, r3.1, r3.2.1, r3.2.2.2.2.2.2.1, if_pos (show 4 ≤ wK S r by omega), r7_grantOf hW hC, Option.bind_some]
    rw [if_pos ht, xvr _ a4, if_neg a5]
    simp only [if_pos r2, if_pos a2, Int.toNat_natCast, r3.1, r3.2.1, a3.2.1, a3.2.2.2.2.2.2.2.1 t2]
    (repeat' split) <;> first | (exfalso; omega) | (rw [xb_pos (by omega)]; done) | (rw [xb_neg (by omega)]; done)
  have j75 : f_X0_breaksATitle_j75 σ (e r : Int) = some (σ, xb (5 ≤ wK S r ∧ (wD S r < wD S (stb S (w2 S r).toNat) ∨ (wK S r = 6 ∧ ¬ wW S (stb S (w2 S r).toNat) = 5)))) := by
    unfold f_X0_breaksATitle_j75
    simp only [if_pos r2, Int.toNat_natCast, r3.1, r3_isOfLoss r2 r3, Option.bind_some]
    by_cases k5 : 5 ≤ wK S r
    · rw [j101 k5]
      have e1 : xb (5 ≤ wK S r ∧ (wD S r < wD S (stb S (w2 S r).toNat) ∨ (wK S r = 6 ∧ ¬ wW S (stb S (w2 S r).toNat) = 5))) = xb (wD S r < wD S (stb S (w2 S r).toNat) ∨ (wK S r = 6 ∧ ¬ wW S (stb S (w2 S r).toNat) = 5)) := xb_congr ⟨fun z => z.2, fun z => ⟨k5, z⟩⟩
      rw [e1]
      by_cases a : wK S r = 5
      · rw [if_pos a]
      · rw [if_neg a]
        by_cases b : wK S r = 6
        · rw [if_pos b]
        · rw [if_neg b, xb_pos (by omega), if_neg (by decide)]
    · rw [if_neg (by omega), if_neg (by omega), xb_neg (P := wK S r = 7 ∨ wK S r = 8) (by omega), if_pos rfl, xb_neg (fun z => k5 z.1)]
  have j57 : f_X0_breaksATitle_j57 σ (e r : Int) = some (σ, xb ((wK S r = 5 ∧ toldTwice S r) ∨ (5 ≤ wK S r ∧ (wD S r < wD S (stb S (w2 S r).toNat) ∨ (wK S r = 6 ∧ ¬ wW S (stb S (w2 S r).toNat) = 5))))) := by
    unfold f_X0_breaksATitle_j57
    simp only [if_pos r2, Int.toNat_natCast, r3.1]
    by_cases a : wK S r = 5
    · rw [if_pos a, r7_tellsAgain hW hC hr (Or.inr a)]
      simp only [Option.bind_some, xbi]
      by_cases t : toldTwice S r
      · rw [if_pos t, xb_pos (Or.inl ⟨a, t⟩)]
      · rw [if_neg t, j75, xb_congr]
        exact ⟨fun z => Or.inr z, fun z => z.elim (fun w => absurd w.2 t) id⟩
    · rw [if_neg a, j75, xb_congr]
      exact ⟨fun z => Or.inr z, fun z => z.elim (fun w => absurd w.1 a) id⟩
  have hrest : ¬ hB8 S r ↔ (4 ≤ wK S r ∧ wK S r ≤ 6 ∧ (wD S r < wBorn S (w1 S r) ∨ (0 ≤ wDead S (w1 S r) ∧ wDead S (w1 S r) < wD S r))) ∨ ((wK S r = 5 ∧ toldTwice S r) ∨ (5 ≤ wK S r ∧ (wD S r < wD S (stb S (w2 S r).toNat) ∨ (wK S r = 6 ∧ ¬ wW S (stb S (w2 S r).toNat) = 5)))) := by
    unfold hB8
    constructor
    · intro h
      apply Classical.byContradiction
      intro hn
      exact h ⟨fun k => ⟨Int.not_lt.mp (fun z => hn (Or.inl ⟨k.1, k.2, Or.inl z⟩)), fun z => hn (Or.inl ⟨k.1, k.2, Or.inr z⟩)⟩, fun k => Int.not_lt.mp (fun z => hn (Or.inr (Or.inr ⟨k, Or.inl z⟩))), fun k t => hn (Or.inr (Or.inl ⟨k, t⟩)), fun k => Classical.byContradiction (fun z => hn (Or.inr (Or.inr ⟨by omega, Or.inr ⟨k, z⟩⟩)))⟩
    · rintro (⟨k1, k2, z | z⟩ | ⟨k, t⟩ | ⟨k, z | ⟨k6, z⟩⟩) h
      · have := (h.1 ⟨k1, k2⟩).1; omega
      · exact (h.1 ⟨k1, k2⟩).2 z
      · exact h.2.2.1 k t
      · have := h.2.1 k; omega
      · exact z (h.2.2.2 k6)
  have j25 : 4 ≤ wK S r ∧ wK S r ≤ 6 → f_X0_breaksATitle_j25 σ (e r : Int) = some (σ, xb (¬ hB8 S r)) := by
    intro k
    have hp := isP_rg hW (n2 (by omega))
    unfold f_X0_breaksATitle_j25
    simp only [if_pos r2, Int.toNat_natCast, r3.2.1, r3.2.2.1, c_bornOn hW hP (n2 (show 1 ≤ wK S r ∧ wK S r ≤ 6 by omega)), Option.bind_some, c_isDeadAhead hP (Nat.lt_of_le_of_lt (Nat.zero_le _) hr) hp.1 hp.2.2, xbi]
    have hu1 := hu (w1 S r)
    have hdr := wDead_rg hW (w1 S r)
    by_cases a : wD S r < wBorn S (w1 S r)
    · rw [if_pos a, xb_pos (hrest.mpr (Or.inl ⟨k.1, k.2, Or.inl a⟩))]
    · rw [if_neg a]
      by_cases b : lastD S (w1 S r) ≠ -1 ∧ lastD S (w1 S r) < wD S r
      · rw [if_pos b, xb_pos (hrest.mpr (Or.inl ⟨k.1, k.2, Or.inr (by omega)⟩))]
      · rw [if_neg b, j57, xb_congr]
        exact ⟨fun z => hrest.mpr (Or.inr z), fun z => (hrest.mp z).elim (fun w => by omega) id⟩
  unfold f_X0_breaksATitle
  simp only [if_pos r2, Int.toNat_natCast, r3.1]
  by_cases k4 : wK S r = 4
  · rw [if_pos k4, j25 (by omega)]
  · rw [if_neg k4]
    by_cases k5 : wK S r = 5
    · rw [if_pos k5, j25 (by omega)]
    · rw [if_neg k5]
      by_cases k6 : wK S r = 6
      · rw [if_pos k6, j25 (by omega)]
      · rw [if_neg k6, j57, xb_congr]
        exact ⟨fun z => hrest.mpr (Or.inr z), fun z => (hrest.mp z).elim (fun w => by omega) id⟩
theorem c_breaks (hW : WF S) (hN : NM S) (hu : uq S) (hC : CS σ S e) (hP : PO σ S) {r : Nat} (hr : r < sn S) (hs : wS S r = 1) (b : Nat) (hb : 3 ≤ b ∧ b ≤ 9) : f_X0_breaks σ (b : Int) (e r : Int) = some (σ, xb (cbr S b r)) := by
  obtain ⟨r1, r2, r3, r4, r5⟩ := hC.at hr
  obtain ⟨n1, n2, n3, n4⟩ := hN r hr hs
  have hk := hW.kd hr
  have hd := hW.day hr
  unfold f_X0_breaks
  have hb' : b = 3 ∨ b = 4 ∨ b = 5 ∨ b = 6 ∨ b = 7 ∨ b = 8 ∨ b = 9 := by omega
  rcases hb' with rfl | rfl | rfl | rfl | rfl | rfl | rfl
  · show _ = some (σ, xb (¬ hB3 S r))
    unfold hB3
    rw [if_neg (by decide), if_neg (by decide), if_pos (by decide)]
    simp only [if_pos r2, Int.toNat_natCast, r3.1, r3.2.1, r3.2.2.2.2.2.1]
    by_cases k : wK S r = 0
    · have z := (hW.2.1 r hr).2.2.2.2.1 k
      simp only [if_pos k]
      by_cases g : w3 S r = -1
      · rw [if_pos g, xb_neg (fun y => y (fun _ => Or.inl (by omega)))]
      · rw [if_neg g, c_couldAct hW hP ((n1 k).2.resolve_left g) hd ⟨by decide, by decide⟩]
        simp only [Option.bind_some, xbi]
        by_cases u : wBorn S (w3 S r) + 4000 ≤ wD S r ∧ ¬ (lastD S (w3 S r) ≠ -1 ∧ lastD S (w3 S r) < wD S r - 0)
        · rw [if_pos u, xb_neg (fun y => y (fun _ => Or.inr ((age_cls hu hW _ _ _).mp u)))]
        · rw [if_neg u, xb_pos (fun y => (y k).elim (fun w => by omega) (fun w => u ((age_cls hu hW _ _ _).mpr w)))]
    · rw [if_neg k, xb_neg (fun y => y (fun w => absurd w k))]
  · show _ = some (σ, xb (¬ hB4 S r))
    unfold hB4
    rw [if_neg (by decide), if_neg (by decide), if_neg (by decide), if_pos (by decide)]
    simp only [if_pos r2, Int.toNat_natCast, r3.1, r3.2.1, r3.2.2.2.2.1]
    by_cases k : wK S r = 0
    · have z := (hW.2.1 r hr).2.2.2.2.1 k
      simp only [if_pos k]
      by_cases g : w2 S r = -1
      · rw [if_pos g, xb_neg (fun y => y (fun _ => Or.inl (by omega)))]
      · rw [if_neg g, c_couldAct hW hP ((n1 k).1.resolve_left g) hd ⟨by decide, by decide⟩]
        simp only [Option.bind_some, xbi]
        by_cases u : wBorn S (w2 S r) + 4000 ≤ wD S r ∧ ¬ (lastD S (w2 S r) ≠ -1 ∧ lastD S (w2 S r) < wD S r - 300)
        · rw [if_pos u, xb_neg (fun y => y (fun _ => Or.inr ((age_cls hu hW _ _ _).mp u)))]
        · rw [if_neg u, xb_pos (fun y => (y k).elim (fun w => by omega) (fun w => u ((age_cls hu hW _ _ _).mpr w)))]
    · rw [if_neg k, xb_neg (fun y => y (fun w => absurd w k))]
  · show _ = some (σ, xb (¬ hB5 S r))
    unfold hB5
    rw [if_neg (by decide), if_neg (by decide), if_neg (by decide), if_neg (by decide), if_pos (by decide)]
    simp only [if_pos r2, r3_isOfUnion r2 r3, Option.bind_some, xbi]
    by_cases k : wK S r = 1 ∨ wK S r = 2
    · rw [if_pos k]
      simp only [Int.toNat_natCast, r3.2.1, r3.2.2.1, r3.2.2.2.1, if_pos k]
      rw [c_couldAct hW hP (n2 (by omega)) hd ⟨by decide, by decide⟩]
      simp only [Option.bind_some, xbi, c_couldAct hW hP (n3 k) hd (show (0 : Int) ≤ 0 ∧ (0 : Int) ≤ 300 by decide), if_pos r2]
      by_cases u : wBorn S (w1 S r) + 4000 ≤ wD S r ∧ ¬ (lastD S (w1 S r) ≠ -1 ∧ lastD S (w1 S r) < wD S r - 0)
      · rw [if_pos u]
        simp only [Int.toNat_natCast, r3.2.1, r3.2.2.2.1, if_pos k, c_couldAct hW hP (n3 k) hd (show (0 : Int) ≤ 0 ∧ (0 : Int) ≤ 300 by decide), Option.bind_some, xbi]
        by_cases v : wBorn S (w2 S r) + 4000 ≤ wD S r ∧ ¬ (lastD S (w2 S r) ≠ -1 ∧ lastD S (w2 S r) < wD S r - 0)
        · rw [if_pos v, xb_neg (fun y => y (fun _ => ⟨(age_cls hu hW _ _ _).mp u, (age_cls hu hW _ _ _).mp v⟩))]
        · rw [if_neg v, xb_pos (fun y => v ((age_cls hu hW _ _ _).mpr (y k).2))]
      · rw [if_neg u, xb_pos (fun y => u ((age_cls hu hW _ _ _).mpr (y k).1))]
    · rw [if_neg k, xb_neg (fun y => y (fun w => absurd w k))]
  · show _ = some (σ, xb (uni S r ∧ outT S r))
    rw [if_neg (by decide), if_neg (by decide), if_neg (by decide), if_neg (by decide), if_neg (by decide), if_pos (by decide)]
    simp only [if_pos r2, r3_isOfUnion r2 r3, Option.bind_some, xbi, r7_isOutOfTurn hW hC hr]
    by_cases k : wK S r = 1 ∨ wK S r = 2
    · rw [if_pos k]
      by_cases u : outT S r
      · rw [if_pos u, xb_pos ⟨k, u⟩]
      · rw [if_neg u, xb_neg (fun y => u y.2)]
    · rw [if_neg k, xb_neg (fun y => k y.1)]
  · show _ = some (σ, xb False)
    rw [if_neg (by decide), if_neg (by decide), if_neg (by decide), if_neg (by decide), if_neg (by decide), if_neg (by decide), if_pos (by decide), xb_neg id]
  · show _ = some (σ, xb (¬ hB8 S r))
    rw [if_neg (by decide), if_neg (by decide), if_neg (by decide), if_neg (by decide), if_neg (by decide), if_neg (by decide), if_neg (by decide), if_pos (by decide), c_title hW hN hu hC hP hr hs]
    rfl
  · show _ = some (σ, xb (7 ≤ wK S r ∧ outT S r))
    rw [if_neg (by decide), if_neg (by decide), if_neg (by decide), if_neg (by decide), if_neg (by decide), if_neg (by decide), if_neg (by decide), if_neg (by decide), if_pos (by decide)]
    simp only [if_pos r2, r3_isOfLoss r2 r3, Option.bind_some, xbi, r7_isOutOfTurn hW hC hr]
    by_cases k : wK S r = 7 ∨ wK S r = 8
    · rw [if_pos k]
      by_cases u : outT S r
      · rw [if_pos u, xb_pos ⟨by omega, u⟩]
      · rw [if_neg u, xb_neg (fun y => u y.2)]
    · rw [if_neg k, xb_neg (fun y => by have := y.1; omega)]
end XB
