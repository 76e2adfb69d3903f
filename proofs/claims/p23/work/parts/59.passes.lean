/-! ===== both pass a title on ===== -/
section XP
variable {S : xS} {A : Nat → Nat} {n : Nat} {m : Nat → Int64} {L : List Nat} {t : Nat}
theorem dsc_res (hO : OK S) (hA : AGE S A n) (hm : BDY S A n m) (hL : ∀ q, q ∈ L → q < 64) : ∀ dd p : Nat, 64 - p ≤ dd → isP S (p : Int) → tch m L p → (∃ q, q ∈ L ∧ dsc S A n m L p = ((q : Int), [])) ∨ ((dsc S A n m L p).1 = -2 ∧ 1 < (dsc S A n m L p).2.length) := by
  intro dd
  induction dd with
  | zero => intro p h hp; have := (hO.rec hp).2.2.2.2.2; exact absurd h (by omega)
  | succ dd ih =>
    intro p h hp ht
    by_cases c : p ∈ L
    · exact Or.inl ⟨p, c, dsc_in c⟩
    · obtain ⟨n1, n2⟩ := dsc_next hO hA hm hp hL ht c
      rw [dsc_step hO hA hm hL hp ht c]
      by_cases s : (sonL S A n m L p).length = 0
      · rw [if_pos s]
        obtain ⟨_, x, x1, x2, x3⟩ := n2 s
        have kr := kid_rg hO hA x2
        by_cases o : 1 < (dfold m L (dauL S A n p)).2.1.length
        · rw [if_pos o]; exact Or.inr ⟨rfl, o⟩
        · rw [if_neg o, x1, Int.toNat_natCast]; exact ih x (by omega) kr.1 x3
      · rw [if_neg s]
        obtain ⟨x2, x3⟩ := n1 s
        have kr := kid_rg hO hA x2
        exact ih _ (by omega) kr.1 x3
theorem line_tch (hO : OK S) (hA : AGE S A n) (hm : BDY S A n m) {d : Int} {r : Nat} (hr : isP S (r : Int)) (h5 : rl S t = 5) (hne : (line S A n t d r).length ≠ 0) : tch m (line S A n t d r) r := by
  have h0 := getD_mem (l := line S A n t d r) (i := 0) (by omega)
  exact ⟨_, h0, ord_body hO hA hm hr (by omega) (line_mem.mp h0).1⟩
theorem psR_ok (hO : OK S) (ht : isT S (t : Int)) {d : Int} {r : Nat} (hr : isP S (r : Int)) : isP S (psR S A n t d r : Int) := by
  unfold psR
  split
  · exact (ow_ok hO ht).1
  · exact hr
theorem psS_ok (hO : OK S) (hA : AGE S A n) (hm : BDY S A n m) (ht : isT S (t : Int)) {d : Int} {r : Nat} (hr : isP S (r : Int)) :
    ((psS S A n m t d r = -1 ∧ psC S A n m t d r = []) ∨ (∃ q, q ∈ line S A n t d (psR S A n t d r) ∧ psS S A n m t d r = (q : Int) ∧ psC S A n m t d r = [])) ∨ (psS S A n m t d r = -2 ∧ rl S t = 5 ∧ (line S A n t d (psR S A n t d r)).length ≠ 0 ∧ psC S A n m t d r = (dsc S A n m (line S A n t d (psR S A n t d r)) (psR S A n t d r)).2) := by
  have hr' := psR_ok (A := A) (n := n) (d := d) hO ht hr
  unfold psS psC
  by_cases h : (line S A n t d (psR S A n t d r)).length = 0
  · rw [if_pos h, if_pos h]; exact Or.inl (Or.inl ⟨rfl, rfl⟩)
  · rw [if_neg h, if_neg h]
    by_cases h5 : rl S t = 5
    · rw [if_pos h5, if_pos h5]
      have ht' := line_tch hO hA hm hr' h5 h
      rcases dsc_res hO hA hm (fun q hq => (hO.rec (line_isP hO hA hr' hq)).2.2.2.2.2) 64 _ (by omega) hr' ht' with ⟨q, q1, q2⟩ | ⟨q1, q2⟩
      · exact Or.inl (Or.inr ⟨q, q1, by rw [q2], by rw [q2]⟩)
      · exact Or.inr ⟨q1, h5, h, rfl⟩
    · rw [if_neg h5, if_neg h5]
      exact Or.inl (Or.inr ⟨_, getD_mem (by omega), rfl, rfl⟩)
/-- passing it again from the root it was passed to -/
theorem psR_idem {d : Int} {r : Nat} : psR S A n t d (psR S A n t d r) = psR S A n t d r := by
  conv => rhs; unfold psR
  by_cases h : (line S A n t d r).length = 0 ∧ r ≠ ow S t
  · have e : psR S A n t d r = ow S t := by unfold psR; rw [if_pos h]
    rw [e, if_pos h]
    unfold psR
    rw [if_neg (fun z => z.2 rfl)]
  · have e : psR S A n t d r = r := by unfold psR; rw [if_neg h]
    rw [e, if_neg h]
    unfold psR
    rw [if_neg h]
theorem psS_idem {d : Int} {r : Nat} : psS S A n m t d (psR S A n t d r) = psS S A n m t d r ∧ psC S A n m t d (psR S A n t d r) = psC S A n m t d r := by
  unfold psS psC
  rw [psR_idem]
  exact ⟨rfl, rfl⟩
/-- the class's cells for a course at work -/
def zY (t a k : Nat) : Prop := (29 ≤ a ∧ a ≤ 34) ∨ (a = xm_cb t ∧ 14 ≤ k ∧ k ≤ 16)
def CQ (σ : xm_Mem) (S : xS) (A : Nat → Nat) (n : Nat) (m : Nat → Int64) (t : Nat) (s : Int) (r : Nat) (h : Int) : Prop := (FI σ S A n ∧ BD σ S m ∧ YV σ S t) ∧ (σ.1 (xm_cb t) 12 = rl S t ∧ σ.1 (xm_cb t) 13 = (ow S t : Int)) ∧ σ.1 (xm_cb t) 14 = (r : Int) ∧ σ.1 (xm_cb t) 15 = s ∧ σ.1 (xm_cb t) 16 = h
variable {σ : xm_Mem}
theorem FI.gx {σ' : xm_Mem} {Z : Nat → Nat → Prop} (h : FI σ S A n) (hf : gx Z σ σ') (hz : ∀ a k, Z a k → ¬ zP a ∧ ¬ (23 ≤ a ∧ a ≤ 27) ∧ ¬ (a = 29 ∧ (k = 3 ∨ k = 4 ∨ k = 5)) ∧ a ≠ 30) : FI σ' S A n := by
  obtain ⟨⟨h1, h2, h3⟩, h4, h5⟩ := h
  refine ⟨⟨h1.gx hf (fun a k z => (hz a k z).1), h2.gx hf (fun a k z => by have := (hz a k z).2.1; omega), h3.gx hf (fun a k z => by have := (hz a k z).2.1; omega)⟩, ?_, by rw [hf.2.2]; exact h5⟩
  unfold CV
  have o29 : ∀ k, (k = 3 ∨ k = 4 ∨ k = 5) → σ'.1 29 k = σ.1 29 k := fun k y => hf.1 29 k (fun z => (hz _ _ z).2.2.1 ⟨rfl, y⟩)
  rw [o29 4 (by omega), o29 5 (by omega), o29 3 (by omega)]
  intro h0
  obtain ⟨q, q1, q3, q4⟩ := h4 h0
  exact ⟨q, q1, q3, q4.eq (fun i _ => hf.1 30 _ (fun z => (hz _ _ z).2.2.2 rfl))⟩
theorem cb_rg (ht : t < 8) : 36 ≤ xm_cb t ∧ xm_cb t + 5 ≤ 83 := by unfold xm_cb; omega
/-- what changes within a course's own row -/
theorem CQ.set (ht : t < 8) {s : Int} {r : Nat} {h : Int} (hq : CQ σ S A n m t s r h) {k : Nat} {v : Int} {s' : Int} {r' : Nat} {h' : Int} (hk : (k = 14 ∧ v = (r' : Int) ∧ s' = s ∧ h' = h) ∨ (k = 15 ∧ v = s' ∧ r' = r ∧ h' = h) ∨ (k = 16 ∧ v = h' ∧ r' = r ∧ s' = s)) : CQ (xm_u1 σ (xm_cb t) k v) S A n m t s' r' h' ∧ gx (zY t) σ (xm_u1 σ (xm_cb t) k v) := by
  have cr := cb_rg ht
  obtain ⟨⟨h1, h2, h3⟩, ⟨h4, h5⟩, h6, h7, h8⟩ := hq
  have g0 : gx (fun a j => a = xm_cb t ∧ j = k) σ (xm_u1 σ (xm_cb t) k v) := (gx.rf _ _).u1 ⟨rfl, rfl⟩
  refine ⟨⟨⟨h1.gx g0 (fun a k z => by unfold zP; omega), h2.gx g0 (fun a k z => by omega), fun p hp => by rw [xu11, if_neg (by omega)]; exact h3 p hp⟩, ⟨?_, ?_⟩, ?_, ?_, ?_⟩, g0.mono (fun a j z => by unfold zY; omega)⟩
  · rw [xu11, if_neg (by omega)]; exact h4
  · rw [xu11, if_neg (by omega)]; exact h5
  all_goals
    rw [xu11]
    rcases hk with ⟨e1, e2, e3, e4⟩ | ⟨e1, e2, e3, e4⟩ | ⟨e1, e2, e3, e4⟩
    all_goals subst e1; first | (rw [if_pos ⟨rfl, rfl⟩]; assumption) | (rw [if_neg (by omega)]; first | assumption | (rw [e3]; assumption) | (rw [e4]; assumption))
theorem CQ.fill (hO : OK S) (hA : AGE S A n) (ht : isT S (t : Int)) {s : Int} {r r' : Nat} {h d : Int} (hq : CQ σ S A n m t s r h) (hd : 0 ≤ d ∧ d ≤ 99999) (hr : isP S (r' : Int)) : ∃ σ', f_X4_fill σ (rl S t) (r' : Int) d (((xm_cb t + 1) : Nat) : Int) = some (σ', 0) ∧ gx (zY t) σ σ' ∧ CQ σ' S A n m t s r h ∧ LN σ' (line S A n t d r') := by
  have t8 := (isT_t hO ht).1
  have cr := cb_rg t8
  obtain ⟨⟨h1, h2, h3⟩, ⟨h4, h5⟩, h6, h7, h8⟩ := hq
  obtain ⟨σ', a1, a2, a3, a4⟩ := c_fill hO hA h1 ht hd h3 hr
  have o : ∀ a k, 36 ≤ a → σ'.1 a k = σ.1 a k := fun a k z => a2.1 a k (by unfold zL; omega)
  exact ⟨σ', a1, a2.gx.mono (fun a k z => Or.inl z), ⟨⟨a3, h2.gx a2.gx (fun a k z => by unfold zL at z; omega), fun p hp => by rw [o _ _ (by omega)]; exact h3 p hp⟩, ⟨by rw [o _ _ (by omega)]; exact h4, by rw [o _ _ (by omega)]; exact h5⟩, by rw [o _ _ (by omega)]; exact h6, by rw [o _ _ (by omega)]; exact h7, by rw [o _ _ (by omega)]; exact h8⟩, a4⟩
theorem c_passOn (hO : OK S) (hA : AGE S A n) (hm : BDY S A n m) (ht : isT S (t : Int)) {s : Int} {r : Nat} {h d : Int} (hq : CQ σ S A n m t s r h) (hd : 0 ≤ d ∧ d ≤ 99999) (hr : isP S (r : Int)) :
    ∃ σ', f_X1_passOn t σ d = some (σ', 0) ∧ gx (zY t) σ σ' ∧ CQ σ' S A n m t (psS S A n m t d r) (psR S A n t d r) h ∧ LN σ' (line S A n t d (psR S A n t d r)) := by
  have t8 := (isT_t hO ht).1
  have cr := cb_rg t8
  have hrg := rl_rg hO ht
  unfold f_X1_passOn
  rw [hq.2.1.1, hq.2.2.1]
  obtain ⟨σ1, a1, a2, a3, a4⟩ := hq.fill hO hA ht hd hr
  rw [a1, Option.bind_some]
  try dsimp only
  unfold f_X4_size
  rw [Option.bind_some]
  try dsimp only
  -- the end of it
  have j69 : ∀ σ2, gx (zY t) σ σ2 → CQ σ2 S A n m t s (psR S A n t d r) h → LN σ2 (line S A n t d (psR S A n t d r)) → ∃ σ', f_X1_passOn_j69 t σ2 = some (σ', 0) ∧ gx (zY t) σ σ' ∧ CQ σ' S A n m t (psS S A n m t d r) (psR S A n t d r) h ∧ LN σ' (line S A n t d (psR S A n t d r)) := by
    intro σ2 z2 q2 l2
    have hr' := psR_ok (A := A) (n := n) (d := d) hO ht hr
    have hlen := line_len (t := t) (d := d) hO hA hr'
    unfold f_X1_passOn_j69 f_X4_size
    rw [Option.bind_some]
    try dsimp only
    rw [l2.1]
    have put : ∀ {σ3 : xm_Mem}, gx (zY t) σ σ3 → CQ σ3 S A n m t s (psR S A n t d r) h → LN σ3 (line S A n t d (psR S A n t d r)) → ∀ v, v = psS S A n m t d r → ∃ σ', some (xm_u1 σ3 (xm_cb t) 15 v, (0 : Int)) = some (σ', 0) ∧ gx (zY t) σ σ' ∧ CQ σ' S A n m t (psS S A n m t d r) (psR S A n t d r) h ∧ LN σ' (line S A n t d (psR S A n t d r)) := by
      intro σ3 z3 q3 l3 v hv
      obtain ⟨c1, c2⟩ := q3.set t8 (k := 15) (v := v) (s' := v) (r' := psR S A n t d r) (h' := h) (Or.inr (Or.inl ⟨rfl, rfl, rfl, rfl⟩))
      rw [hv] at c1 c2 ⊢
      refine ⟨_, rfl, z3.tr c2, c1, ?_⟩
      exact l3.gx (Z := fun a j => a = xm_cb t ∧ j = 15) ((gx.rf _ _).u1 ⟨rfl, rfl⟩) (fun a k z => by omega)
    by_cases c0 : (line S A n t d (psR S A n t d r)).length = 0
    · rw [if_pos (by omega), xst]
      exact put z2 q2 l2 (-1) (by unfold psS; rw [if_pos c0])
    · rw [if_neg (by omega), q2.2.1.1]
      by_cases c5 : rl S t = 5
      · rw [if_pos c5, q2.2.2.1]
        have ht' := line_tch hO hA hm hr' c5 c0
        obtain ⟨⟨⟨hP2, hD2, hK2⟩, hC2, hn2⟩, hB2, hY2⟩ := q2.1
        obtain ⟨σ3, b1, b2, b3, b4⟩ := c_stateByWrit hO hA hm hP2 hK2 hB2 l2 hlen (fun q hq => line_isP hO hA hr' hq) hr' ht'
        rw [b1, Option.bind_some]
        try dsimp only
        rw [xst]
        have o : ∀ a k, 36 ≤ a → σ3.1 a k = σ2.1 a k := fun a k z => b2.1 a k (by unfold zHe; omega)
        have q3 : CQ σ3 S A n m t s (psR S A n t d r) h := ⟨⟨q2.1.1.gx b2 (fun a k z => by unfold zHe at z; unfold zP; omega), hB2.gx b2 (fun a k z => by unfold zHe at z; omega), fun p hp => by rw [o _ _ (by omega)]; exact hY2 p hp⟩, ⟨by rw [o _ _ (by omega)]; exact q2.2.1.1, by rw [o _ _ (by omega)]; exact q2.2.1.2⟩, by rw [o _ _ (by omega)]; exact q2.2.2.1, by rw [o _ _ (by omega)]; exact q2.2.2.2.1, by rw [o _ _ (by omega)]; exact q2.2.2.2.2⟩
        refine put (z2.tr (b2.mono (fun a k z => by unfold zHe at z; unfold zY; omega))) q3 (l2.gx b2 (fun a k z => by unfold zHe at z; omega)) _ ?_
        unfold psS; rw [if_neg c0, if_pos c5]
      · rw [if_neg c5]
        unfold f_X4_at
        have e0 := l2.2.1 0 (by omega)
        rw [if_neg (by decide), l2.1, if_pos (by omega), if_pos (by decide), Option.bind_some, xst]
        refine put z2 q2 l2 _ ?_
        unfold psS; rw [if_neg c0, if_neg c5]; exact e0
  rw [a4.1]
  by_cases c0 : (line S A n t d r).length = 0
  · rw [if_pos (by omega), a3.2.2.1, a3.2.1.2]
    by_cases cr' : r = ow S t
    · rw [if_pos (by omega)]
      have e : psR S A n t d r = r := by unfold psR; rw [if_neg (fun z => z.2 cr')]
      exact j69 σ1 a2 (by rw [e]; exact a3) (by rw [e]; exact a4)
    · rw [if_neg (by omega), xst]
      have e : psR S A n t d r = ow S t := by unfold psR; rw [if_pos ⟨c0, cr'⟩]
      obtain ⟨c1, c2⟩ := a3.set t8 (k := 14) (v := (ow S t : Int)) (s' := s) (r' := ow S t) (h' := h) (Or.inl ⟨rfl, rfl, rfl, rfl⟩)
      rw [c1.2.1.1, c1.2.2.1]
      obtain ⟨σ2, b1, b2, b3, b4⟩ := c1.fill hO hA ht hd (ow_ok hO ht).1
      rw [b1, Option.bind_some]
      exact j69 σ2 ((a2.tr c2).tr b2) (by rw [e]; exact b3) (by rw [e]; exact b4)
  · rw [if_neg (by omega)]
    have e : psR S A n t d r = r := by unfold psR; rw [if_neg (fun z => c0 z.1)]
    exact j69 σ1 a2 (by rw [e]; exact a3) (by rw [e]; exact a4)
/-- what the reference may change at a title's day -/
def zMq (a k : Nat) : Prop := zLn a k ∨ (a = 84 ∧ (k = 30 ∨ k = 31 ∨ k = 33)) ∨ a = 103
theorem zMqM : ∀ a k, zMq a k → ¬ (a = 84 ∧ (k = 5 ∨ k = 14 ∨ k = 15)) ∧ ¬ (86 ≤ a ∧ a ≤ 94) := fun a k h => by
  rcases h with h | h
  · exact zLnM a k h
  · omega
/-- the reference at a title's day: records, what is reckoned, state and root -/
def MY (σ : xm_Mem) (S : xS) (A : Nat → Nat) (n : Nat) (m : Nat → Int64) (s : Int) (r : Nat) : Prop := (MS σ S ∧ σ.1 84 18 = 1 ∧ RO σ S A n m) ∧ σ.1 84 30 = s ∧ σ.1 84 31 = (r : Int)
theorem roQ {σ' : xm_Mem} (h : RO σ S A n m) {Z : Nat → Nat → Prop} (hf : gx Z σ σ') (hz : ∀ a k, Z a k → (a = 84 ∧ (k = 27 ∨ k = 28 ∨ k = 30 ∨ k = 31 ∨ k = 33)) ∨ 101 ≤ a) : RO σ' S A n m := h.gx hf (fun a k z => by have := hz a k z; omega)
theorem MY.set {s s' : Int} {r r' : Nat} (hq : MY σ S A n m s r) {k : Nat} {v : Int} (hk : (k = 30 ∧ v = s' ∧ r' = r) ∨ (k = 31 ∧ v = (r' : Int) ∧ s' = s) ∨ (k = 33 ∧ r' = r ∧ s' = s)) : MY (xm_u1 σ 84 k v) S A n m s' r' ∧ gx zMq σ (xm_u1 σ 84 k v) := by
  obtain ⟨⟨h1, h2, h3⟩, h4, h5⟩ := hq
  have g0 : gx (fun a j => a = 84 ∧ j = k) σ (xm_u1 σ 84 k v) := (gx.rf _ _).u1 ⟨rfl, rfl⟩
  refine ⟨⟨⟨h1.gx g0 (fun a k z => by omega), by rw [xu11, if_neg (by omega)]; exact h2, roQ h3 g0 (fun a k z => by omega)⟩, ?_, ?_⟩, g0.mono (fun a j z => Or.inr (Or.inl (by omega)))⟩
  all_goals
    rw [xu11]
    rcases hk with ⟨e1, e2, e3⟩ | ⟨e1, e2, e3⟩ | ⟨e1, e2, e3⟩
    all_goals subst e1; first | (rw [if_pos ⟨rfl, rfl⟩]; assumption) | (rw [if_neg (by omega)]; first | assumption | (rw [e2]; assumption) | (rw [e3]; assumption))
end XP
