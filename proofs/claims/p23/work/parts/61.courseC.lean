/-! ===== the class's course ===== -/
/-- the steps that are noted -/
def CA (σ : xm_Mem) (S : xS) (A : Nat → Nat) (n : Nat) (m : Nat → Int64) (t K : Nat) : Prop := σ.1 (xm_cb t) 10 = (K : Int) ∧ ∀ k, k < K → σ.1 (xm_cb t + 2) k = (stp S A n m t k).1 ∧ σ.1 (xm_cb t + 3) k = (stp S A n m t k).2.1 ∧ σ.1 (xm_cb t + 4) k = ((stp S A n m t k).2.2.1 : Int) ∧ σ.1 (xm_cb t + 5) k = (stp S A n m t k).2.2.2
def zG (t a k : Nat) : Prop := (29 ≤ a ∧ a ≤ 34) ∨ (a = xm_cb t ∧ 10 ≤ k) ∨ (xm_cb t + 1 ≤ a ∧ a ≤ xm_cb t + 5)
section XG
variable {σ : xm_Mem} {S : xS} {A : Nat → Nat} {n : Nat} {m : Nat → Int64} {t : Nat} {e : Nat → Nat}
theorem zYG : ∀ a k, zY t a k → zG t a k := fun a k h => by unfold zY at h; unfold zG; omega
theorem zGC (ht : t < 8) : ∀ a k, zG t a k → 9 < a ∧ a < 111 := fun a k h => by have := cb_rg ht; unfold zG at h; omega
theorem isP_nat (hO : OK S) {s : Int} (h : isP S s) : isP S ((s.toNat : Nat) : Int) ∧ ((s.toNat : Nat) : Int) = s := by
  have e : ((s.toNat : Nat) : Int) = s := by have := h.1; omega
  exact ⟨by rw [e]; exact h, e⟩
theorem psS_p (hO : OK S) (hA : AGE S A n) (hm : BDY S A n m) (ht : isT S (t : Int)) {d : Int} {r : Nat} (hr : isP S (r : Int)) : psS S A n m t d r = -1 ∨ psS S A n m t d r = -2 ∨ isP S (psS S A n m t d r) := by
  rcases psS_ok hO hA hm ht (d := d) hr with (h | ⟨q, q1, q2, _⟩) | h
  · exact Or.inl h.1
  · refine Or.inr (Or.inr ?_)
    rw [q2]
    exact line_isP hO hA (psR_ok hO ht hr) q1
  · exact Or.inr (Or.inl h.1)
theorem bornA_p (hO : OK S) (hA : AGE S A n) {d : Int} {r : Nat} {s h : Int} (hr : isP S (r : Int)) (hs : isP S s) : isP S (bornA S A n t d r s h) := by
  unfold bornA
  split
  · rename_i c
    have := plc_rg (line S A n t d r) s
    exact line_isP hO hA hr (getD_mem (by omega))
  · exact hs
/-- what may be said of state and root behind each step of a day -/
theorem dP2_ok (hO : OK S) (hA : AGE S A n) (hm : BDY S A n m) (ht : isT S (t : Int)) {y : xC} {d : Int} (hr : isP S (y.2.1 : Int)) (hs : y.1 < 0 ∨ isP S y.1) : isP S ((dP2 S A n m t y d).2 : Int) ∧ ((dP2 S A n m t y d).1 = -1 ∨ (dP2 S A n m t y d).1 = -2 ∨ isP S (dP2 S A n m t y d).1) := by
  unfold dP2
  by_cases h : must S t y.1 d
  · rw [if_pos h]
    exact ⟨psR_ok hO ht hr, psS_p hO hA hm ht hr⟩
  · rw [if_neg h]
    refine ⟨hr, Or.inr (Or.inr (bornA_p hO hA hr (hs.resolve_left (fun z => h (Or.inl z)))))⟩
theorem callR_ok (hO : OK S) {d : Int} {r : Nat} (h : callR S A n t d r < sn S) : callP S A n t d r (callR S A n t d r) ∧ isP S (w1 S (callR S A n t d r)) := by
  have c := (fsx_spec (callP S A n t d r) (sn S)).2.1 h
  exact ⟨c, (hO.2.1 _ h c.1).2.1 ⟨by have := c.2.1; show 1 ≤ wK S (fsx _ _); omega, by have := c.2.1; show wK S (fsx _ _) ≤ 6; omega⟩⟩
theorem dP3_ok (hO : OK S) {z : Int × Nat} {d : Int} (hr : isP S (z.2 : Int)) (hs : z.1 = -1 ∨ z.1 = -2 ∨ isP S z.1) : isP S ((dP3 S A n t z d).2 : Int) ∧ ((dP3 S A n t z d).1 = -1 ∨ (dP3 S A n t z d).1 = -2 ∨ isP S (dP3 S A n t z d).1) := by
  unfold dP3
  split
  · rename_i c
    have := (callR_ok hO c.2).2
    exact ⟨(isP_nat hO this).1, Or.inr (Or.inr this)⟩
  · exact ⟨hr, hs⟩
theorem dP1_ok (hO : OK S) (hA : AGE S A n) (hm : BDY S A n m) (ht : isT S (t : Int)) {x : xC} {d : Int} (hr : isP S (x.2.1 : Int)) (hs : x.1 < 0 ∨ isP S x.1) : isP S ((dP1 S A n m t x d).2.1 : Int) ∧ ((dP1 S A n m t x d).1 < 0 ∨ isP S (dP1 S A n m t x d).1) := by
  unfold dP1
  by_cases h : backP S t d
  · rw [if_pos h]
    refine ⟨psR_ok hO ht hr, ?_⟩
    rcases psS_p hO hA hm ht (d := d) hr with z | z | z
    · left; show psS S A n m t d x.2.1 < 0; omega
    · left; show psS S A n m t d x.2.1 < 0; omega
    · right; exact z
  · rw [if_neg h]; exact ⟨hr, hs⟩
theorem dP_ok (hO : OK S) (hA : AGE S A n) (hm : BDY S A n m) (ht : isT S (t : Int)) {x : xC} {d : Int} (hr : isP S (x.2.1 : Int)) (hs : x.1 < 0 ∨ isP S x.1) : isP S ((dP S A n m t x d).2.1 : Int) ∧ ((dP S A n m t x d).1 < 0 ∨ isP S (dP S A n m t x d).1) ∧ ((dP S A n m t x d).1 = -3 ↔ lostP S t d) := by
  unfold dP
  by_cases l : lostP S t d
  · rw [if_pos l]
    exact ⟨hr, Or.inl (by show (-3 : Int) < 0; decide), fun _ => l, fun _ => rfl⟩
  · rw [if_neg l]
    obtain ⟨a1, a2⟩ := dP1_ok hO hA hm ht (d := d) hr hs
    obtain ⟨b1, b2⟩ := dP2_ok hO hA hm ht (d := d) a1 a2
    obtain ⟨c1, c2⟩ := dP3_ok (A := A) (n := n) (t := t) hO (d := d) b1 b2
    refine ⟨c1, ?_, fun z => ?_, fun z => absurd z l⟩
    · rcases c2 with z | z | z
      · left; show (dP3 S A n t _ d).1 < 0; omega
      · left; show (dP3 S A n t _ d).1 < 0; omega
      · right; exact z
    · have z : (dP3 S A n t (dP2 S A n m t (dP1 S A n m t x d) d) d).1 = -3 := z
      rcases c2 with y | y | y
      · omega
      · omega
      · have := y.1; omega
theorem stp_ok (hO : OK S) (hA : AGE S A n) (hm : BDY S A n m) (ht : isT S (t : Int)) : ∀ k, isP S ((stp S A n m t k).2.2.1 : Int) ∧ ((stp S A n m t k).2.1 < 0 ∨ isP S (stp S A n m t k).2.1) ∧ ((stp S A n m t k).2.1 = -3 ↔ lostP S t (stp S A n m t k).1) := by
  intro k
  induction k with
  | zero => exact dP_ok hO hA hm ht (x := ((ow S t : Int), ow S t, oD S t)) (d := oD S t) (ow_ok hO ht).1 (Or.inr (ow_ok hO ht).1)
  | succ k ih => exact dP_ok hO hA hm ht (x := (stp S A n m t k).2) (d := nxD S t (stp S A n m t k).1) ih.1 ih.2.1
theorem stp_rg (hO : OK S) (ht : isT S (t : Int)) : ∀ k, 0 ≤ (stp S A n m t k).1 := by
  intro k
  induction k with
  | zero => exact (ow_ok hO ht).2.2.1
  | succ k ih =>
    obtain ⟨h1, h2, _⟩ := nxD_spec (t := t) hO.1 (stp S A n m t k).1
    show 0 ≤ nxD S t (stp S A n m t k).1
    rcases h2 with h2 | ⟨r, r1, r2, r3, r4⟩
    · omega
    · rw [r4]; exact (hO.1.day r1).1
theorem c_note {K : Nat} (ht : t < 8) (hK : K < 200) {s : Int} {r : Nat} {h d : Int} (hq : CQ σ S A n m t s r h) (h10 : σ.1 (xm_cb t) 10 = (K : Int)) :
    ∃ σ', f_X1_note t σ d = some (σ', 0) ∧ gx (fun a k => (a = xm_cb t ∧ k = 10) ∨ (xm_cb t + 2 ≤ a ∧ a ≤ xm_cb t + 5 ∧ k = K)) σ σ' ∧ CQ σ' S A n m t s r h ∧ σ'.1 (xm_cb t) 10 = ((K + 1 : Nat) : Int) ∧ σ'.1 (xm_cb t + 2) K = d ∧ σ'.1 (xm_cb t + 3) K = s ∧ σ'.1 (xm_cb t + 4) K = (r : Int) ∧ σ'.1 (xm_cb t + 5) K = h := by
  have cr := cb_rg ht
  obtain ⟨⟨h1, h2, h3⟩, ⟨h4, h5⟩, h6, h7, h8⟩ := hq
  unfold f_X1_note
  have n2 : ¬ xm_cb t = xm_cb t + 2 := by omega
  have n3 : ¬ xm_cb t = xm_cb t + 3 := by omega
  have n4 : ¬ xm_cb t = xm_cb t + 4 := by omega
  have n5 : ¬ xm_cb t = xm_cb t + 5 := by omega
  have hg : 0 ≤ (K : Int) ∧ (K : Int) < 200 := ⟨by omega, by omega⟩
  simp only [xst, xu11, n2, n3, n4, n5, false_and, if_false, h10, h6, h7, h8, if_pos hg, Int.toNat_natCast, if_pos hg.2]
  rw [xw1 (by omega)]
  generalize hτ : xm_u1 (xm_u1 (xm_u1 (xm_u1 (xm_u1 σ (xm_cb t + 2) K d) (xm_cb t + 3) K s) (xm_cb t + 4) K (r : Int)) (xm_cb t + 5) K h) (xm_cb t) 10 ((K + 1 : Nat) : Int) = τ
  have g0 : gx (fun a k => (a = xm_cb t ∧ k = 10) ∨ (xm_cb t + 2 ≤ a ∧ a ≤ xm_cb t + 5 ∧ k = K)) σ τ := by
    rw [← hτ]
    exact (((((gx.rf _ _).u1 (by omega)).u1 (by omega)).u1 (by omega)).u1 (by omega)).u1 (by omega)
  refine ⟨τ, rfl, g0, ⟨⟨h1.gx g0 (fun a k z => by unfold zP; omega), h2.gx g0 (fun a k z => by omega), fun p hp => by rw [g0.1 _ _ (by omega)]; exact h3 p hp⟩, ⟨by rw [g0.1 _ _ (by omega)]; exact h4, by rw [g0.1 _ _ (by omega)]; exact h5⟩, by rw [g0.1 _ _ (by omega)]; exact h6, by rw [g0.1 _ _ (by omega)]; exact h7, by rw [g0.1 _ _ (by omega)]; exact h8⟩, ?_, ?_, ?_, ?_, ?_⟩
  · rw [← hτ, xu11, if_pos ⟨rfl, rfl⟩]
  · rw [← hτ, xu11, if_neg (by omega), xu11, if_neg (by omega), xu11, if_neg (by omega), xu11, if_neg (by omega), xu11, if_pos ⟨rfl, rfl⟩]
  · rw [← hτ, xu11, if_neg (by omega), xu11, if_neg (by omega), xu11, if_neg (by omega), xu11, if_pos ⟨rfl, rfl⟩]
  · rw [← hτ, xu11, if_neg (by omega), xu11, if_neg (by omega), xu11, if_pos ⟨rfl, rfl⟩]
  · rw [← hτ, xu11, if_neg (by omega), xu11, if_pos ⟨rfl, rfl⟩]
/-- what a day changes -/
def zDy (t K a k : Nat) : Prop := zY t a k ∨ (a = xm_cb t ∧ k = 10) ∨ (xm_cb t + 2 ≤ a ∧ a ≤ xm_cb t + 5 ∧ k = K)
theorem c_day (hO : OK S) (hA : AGE S A n) (hm : BDY S A n m) (hC : CS σ S e) (ht : isT S (t : Int)) {K : Nat} (hK : K < 200) {x : xC} {d : Int} (hq : CQ σ S A n m t x.1 x.2.1 x.2.2) (h10 : σ.1 (xm_cb t) 10 = (K : Int)) (hd : 0 ≤ d ∧ d ≤ 99999) (hr : isP S (x.2.1 : Int)) (hs : x.1 < 0 ∨ isP S x.1) :
    ∃ σ', f_X1_goThrough t σ d = some (σ', 0) ∧ gx (zDy t K) σ σ' ∧ CQ σ' S A n m t (dP S A n m t x d).1 (dP S A n m t x d).2.1 (dP S A n m t x d).2.2 ∧ σ'.1 (xm_cb t) 10 = ((K + 1 : Nat) : Int) ∧ σ'.1 (xm_cb t + 2) K = d ∧ σ'.1 (xm_cb t + 3) K = (dP S A n m t x d).1 ∧ σ'.1 (xm_cb t + 4) K = ((dP S A n m t x d).2.1 : Int) ∧ σ'.1 (xm_cb t + 5) K = (dP S A n m t x d).2.2 := by
  have t8 := (isT_t hO ht).1
  have cr := cb_rg t8
  unfold f_X1_goThrough
  rw [hq.2.2.2.1, xvl]
  -- the end: since, and the note
  have j97 : ∀ {σ1 : xm_Mem} {s : Int} {r : Nat} {h : Int}, gx (zY t) σ σ1 → CQ σ1 S A n m t s r h → s = (dP S A n m t x d).1 → r = (dP S A n m t x d).2.1 → (if s = x.1 then h else d) = (dP S A n m t x d).2.2 → ∃ σ', f_X1_goThrough_j97 t σ1 d x.1 = some (σ', 0) ∧ gx (zDy t K) σ σ' ∧ CQ σ' S A n m t (dP S A n m t x d).1 (dP S A n m t x d).2.1 (dP S A n m t x d).2.2 ∧ σ'.1 (xm_cb t) 10 = ((K + 1 : Nat) : Int) ∧ σ'.1 (xm_cb t + 2) K = d ∧ σ'.1 (xm_cb t + 3) K = (dP S A n m t x d).1 ∧ σ'.1 (xm_cb t + 4) K = ((dP S A n m t x d).2.1 : Int) ∧ σ'.1 (xm_cb t + 5) K = (dP S A n m t x d).2.2 := by
    intro σ1 s r h z1 q1 es er eh
    unfold f_X1_goThrough_j97
    rw [q1.2.2.2.1]
    have fin : ∀ {σ2 : xm_Mem}, gx (zY t) σ σ2 → CQ σ2 S A n m t (dP S A n m t x d).1 (dP S A n m t x d).2.1 (dP S A n m t x d).2.2 → ∃ σ', (f_X1_note t σ2 d).bind (fun o27 => some (o27.1, (0 : Int))) = some (σ', 0) ∧ gx (zDy t K) σ σ' ∧ CQ σ' S A n m t (dP S A n m t x d).1 (dP S A n m t x d).2.1 (dP S A n m t x d).2.2 ∧ σ'.1 (xm_cb t) 10 = ((K + 1 : Nat) : Int) ∧ σ'.1 (xm_cb t + 2) K = d ∧ σ'.1 (xm_cb t + 3) K = (dP S A n m t x d).1 ∧ σ'.1 (xm_cb t + 4) K = ((dP S A n m t x d).2.1 : Int) ∧ σ'.1 (xm_cb t + 5) K = (dP S A n m t x d).2.2 := by
      intro σ2 z2 q2
      obtain ⟨σ3, b1, b2, b3, b4, b5⟩ := c_note (d := d) t8 hK q2 (by rw [z2.1 _ _ (by unfold zY; omega)]; exact h10)
      rw [b1, Option.bind_some]
      exact ⟨σ3, rfl, (z2.mono (fun a k z => Or.inl z)).tr (b2.mono (fun a k z => Or.inr z)), b3, b4, b5⟩
    by_cases c : s = x.1
    · rw [if_pos c]
      rw [if_pos c] at eh
      rw [es, er, eh] at q1
      exact fin z1 q1
    · rw [if_neg c, xst]
      rw [if_neg c] at eh
      obtain ⟨c1, c2⟩ := q1.set t8 (k := 16) (v := d) (s' := s) (r' := r) (h' := d) (Or.inr (Or.inr ⟨rfl, rfl, rfl, rfl⟩))
      rw [es, er] at c1
      exact fin (z1.tr c2) (by rw [← eh]; exact c1)
  -- behind a possible back
  have j62 : ¬ lostP S t d → ∀ {σ1 : xm_Mem}, gx (zY t) σ σ1 → CQ σ1 S A n m t (dP1 S A n m t x d).1 (dP1 S A n m t x d).2.1 (dP1 S A n m t x d).2.2 → ∃ σ', f_X1_goThrough_j62 t σ1 d x.1 = some (σ', 0) ∧ gx (zDy t K) σ σ' ∧ CQ σ' S A n m t (dP S A n m t x d).1 (dP S A n m t x d).2.1 (dP S A n m t x d).2.2 ∧ σ'.1 (xm_cb t) 10 = ((K + 1 : Nat) : Int) ∧ σ'.1 (xm_cb t + 2) K = d ∧ σ'.1 (xm_cb t + 3) K = (dP S A n m t x d).1 ∧ σ'.1 (xm_cb t + 4) K = ((dP S A n m t x d).2.1 : Int) ∧ σ'.1 (xm_cb t + 5) K = (dP S A n m t x d).2.2 := by
    intro nl σ1 z1 q1
    obtain ⟨a1, a2⟩ := dP1_ok hO hA hm ht (d := d) hr hs
    have eP : dP S A n m t x d = ((dP3 S A n t (dP2 S A n m t (dP1 S A n m t x d) d) d).1, (dP3 S A n t (dP2 S A n m t (dP1 S A n m t x d) d) d).2, if (dP3 S A n t (dP2 S A n m t (dP1 S A n m t x d) d) d).1 = x.1 then (dP1 S A n m t x d).2.2 else d) := by unfold dP; rw [if_neg nl]
    generalize hy : dP1 S A n m t x d = y at q1 a1 a2 eP
    unfold f_X1_goThrough_j62
    have hC1 := hC.gx z1 (zYC t8)
    rw [c_mustPass hO q1 hd a2, Option.bind_some]
    try dsimp only
    rw [xbi]
    -- behind the pass
    have j83 : ∀ {σ2 : xm_Mem}, gx (zY t) σ σ2 → CQ σ2 S A n m t (dP2 S A n m t y d).1 (dP2 S A n m t y d).2 y.2.2 → LN σ2 (line S A n t d (dP2 S A n m t y d).2) → ∃ σ', f_X1_goThrough_j83 t σ2 d x.1 = some (σ', 0) ∧ gx (zDy t K) σ σ' ∧ CQ σ' S A n m t (dP S A n m t x d).1 (dP S A n m t x d).2.1 (dP S A n m t x d).2.2 ∧ σ'.1 (xm_cb t) 10 = ((K + 1 : Nat) : Int) ∧ σ'.1 (xm_cb t + 2) K = d ∧ σ'.1 (xm_cb t + 3) K = (dP S A n m t x d).1 ∧ σ'.1 (xm_cb t + 4) K = ((dP S A n m t x d).2.1 : Int) ∧ σ'.1 (xm_cb t + 5) K = (dP S A n m t x d).2.2 := by
      intro σ2 z2 q2 l2
      unfold f_X1_goThrough_j83
      rw [q2.2.2.2.1]
      by_cases ab : (dP2 S A n m t y d).1 = -2
      · have hC2 := hC.gx z2 (zYC t8)
        obtain ⟨σ3, b1, b2, b3⟩ := c_obey (d := d) hO hC2 ht q2 l2
        rw [if_pos ab, b1, Option.bind_some]
        rcases b3 with ⟨b3, b4⟩ | ⟨b3, b4⟩
        · have e3 : dP3 S A n t (dP2 S A n m t y d) d = dP2 S A n m t y d := by unfold dP3; rw [if_neg (fun z => b3 z.2)]
          exact j97 (z2.tr b2) b4 (by rw [eP, e3]) (by rw [eP, e3]) (by rw [eP, e3])
        · have e3 : dP3 S A n t (dP2 S A n m t y d) d = (w1 S (callR S A n t d (dP2 S A n m t y d).2), (w1 S (callR S A n t d (dP2 S A n m t y d).2)).toNat) := by unfold dP3; rw [if_pos ⟨ab, b3⟩]
          exact j97 (z2.tr b2) b4 (by rw [eP, e3]) (by rw [eP, e3]) (by rw [eP, e3])
      · have e3 : dP3 S A n t (dP2 S A n m t y d) d = dP2 S A n m t y d := by unfold dP3; rw [if_neg (fun z => ab z.1)]
        rw [if_neg ab]
        exact j97 z2 q2 (by rw [eP, e3]) (by rw [eP, e3]) (by rw [eP, e3])
    by_cases mp : must S t y.1 d
    · obtain ⟨σ2, b1, b2, b3, b4⟩ := c_passOn hO hA hm ht q1 hd a1
      have e2 : dP2 S A n m t y d = (psS S A n m t d y.2.1, psR S A n t d y.2.1) := by unfold dP2; rw [if_pos mp]
      rw [if_pos mp, b1, Option.bind_some]
      exact j83 (z1.tr b2) (by rw [e2]; exact b3) (by rw [e2]; exact b4)
    · obtain ⟨σ2, b1, b2, b3, b4⟩ := c_give hO hA ht q1 hd a1
      have e2 : dP2 S A n m t y d = (bornA S A n t d y.2.1 y.1 y.2.2, y.2.1) := by unfold dP2; rw [if_neg mp]
      rw [if_neg mp, b1, Option.bind_some]
      exact j83 (z1.tr b2) (by rw [e2]; exact b3) (by rw [e2]; exact b4)
  obtain ⟨v, v1, v2⟩ := r7_latest hO.1 hC t d
  rw [v1, Option.bind_some]
  try dsimp only
  rcases v2 with ⟨v2, v3⟩ | ⟨b, hb, v2⟩
  · have nl : ¬ lostP S t d := fun ⟨b, hb, _⟩ => v3 b hb.1.1 hb.1.2
    have nb : ¬ backP S t d := fun ⟨b, hb, _⟩ => v3 b hb.1.1 hb.1.2
    have e1 : dP1 S A n m t x d = x := by unfold dP1; rw [if_neg nb]
    rw [v2, xvr _ (by decide), if_pos rfl]
    unfold f_X1_goThrough_j40
    rw [if_pos rfl]
    exact j62 nl (gx.rf _ _) (by rw [e1]; exact hq)
  · obtain ⟨g1, g2, g3, g4, g5⟩ := hC.at hb.1.1
    have e0 : σ.1 (e b) 0 = wK S b := g3.1
    have e1' : σ.1 (e b) 1 = wD S b := g3.2.1
    rw [v2, xvr _ g4, if_neg g5]
    simp only [if_pos g2, Int.toNat_natCast, e0]
    by_cases k7 : wK S b = 7
    · have l : lostP S t d := ⟨b, hb, k7⟩
      have eP : dP S A n m t x d = (-3, x.2.1, if x.1 = -3 then x.2.2 else d) := by unfold dP; rw [if_pos l]
      rw [if_pos k7, xst]
      obtain ⟨c1, c2⟩ := hq.set t8 (k := 15) (v := -3) (s' := -3) (r' := x.2.1) (h' := x.2.2) (Or.inr (Or.inl ⟨rfl, rfl, rfl, rfl⟩))
      refine j97 c2 c1 (by rw [eP]) (by rw [eP]) ?_
      rw [eP]
      by_cases c : x.1 = -3
      · rw [if_pos c.symm, if_pos c]
      · rw [if_neg (fun z => c z.symm), if_neg c]
    · have hk := hO.1.kd hb.1.1
      have h7 := hb.1.2.2.1
      have k8 : wK S b = 8 := by omega
      have nl : ¬ lostP S t d := fun ⟨c, hc, c7⟩ => by
        have := ltst_uniq hb hc
        subst this
        exact k7 c7
      rw [if_neg k7]
      unfold f_X1_goThrough_j40
      rw [if_neg g5]
      simp only [if_pos g2, Int.toNat_natCast, e1']
      by_cases kd : wD S b = d
      · have hbk : backP S t d := ⟨b, hb, k8, kd⟩
        obtain ⟨σ2, b1, b2, b3, b4⟩ := c_passOn hO hA hm ht hq hd hr
        have e1 : dP1 S A n m t x d = (psS S A n m t d x.2.1, psR S A n t d x.2.1, d) := by unfold dP1; rw [if_pos hbk]
        rw [if_pos kd, b1, Option.bind_some, xst]
        obtain ⟨c1, c2⟩ := b3.set t8 (k := 16) (v := d) (s' := psS S A n m t d x.2.1) (r' := psR S A n t d x.2.1) (h' := d) (Or.inr (Or.inr ⟨rfl, rfl, rfl, rfl⟩))
        exact j62 nl (b2.tr c2) (by rw [e1]; exact c1)
      · have nb : ¬ backP S t d := fun ⟨c, hc, _, c8⟩ => by
          have := ltst_uniq hb hc
          subst this
          exact kd c8
        have e1 : dP1 S A n m t x d = x := by unfold dP1; rw [if_neg nb]
        rw [if_neg kd]
        exact j62 nl (gx.rf _ _) (by rw [e1]; exact hq)
end XG
