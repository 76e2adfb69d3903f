/-! ===== questions of titles: both answer alike ===== -/
def zQ1 (a k : Nat) : Prop := zQ a k ∨ (a = 1 ∧ k = 8)
def QA (σ : xm_Mem) (S : xS) (A : Nat → Nat) (n : Nat) (m : Nat → Int64) (e : Nat → Nat) (r : Option xm_Out) (a w : Int) : Prop := ∃ σ', r = some (σ', a) ∧ gx zQ1 σ σ' ∧ CI σ' S A n m e ∧ σ'.1 1 8 = w
def QB (τ : xm_Mem) (S : xS) (A : Nat → Nat) (n : Nat) (m : Nat → Int64) (r : Option xm_Out) (a w : Int) : Prop := ∃ τ', r = some (τ', a) ∧ gx zNQ τ τ' ∧ MI τ' S A n m ∧ τ'.1 84 2 = w
section XG
variable {σ σ1 τ τ1 : xm_Mem} {S : xS} {A : Nat → Nat} {n : Nat} {m : Nat → Int64} {t : Nat} {e : Nat → Nat}
theorem cs_gx {σ' : xm_Mem} {Z : Nat → Nat → Prop} (h : CS σ S e) (hf : gx Z σ σ') (hz : ∀ a k, Z a k → a ≤ 4 ∨ (9 < a ∧ a ≤ 110) ∨ σ.2.2 < a) : CS σ' S e := by
  have c110 := h.2.1.1
  have o : ∀ a k, (5 ≤ a ∧ a ≤ 9) ∨ (111 ≤ a ∧ a ≤ σ.2.2) → σ'.1 a k = σ.1 a k := fun a k z => hf.1 a k (fun y => by have := hz a k y; omega)
  obtain ⟨⟨a1, a2, a3⟩, b, c, d, f, g⟩ := h
  refine ⟨⟨by rw [o 5 _ (by omega)]; exact a1, by rw [o 5 _ (by omega)]; exact a2, by rw [o 5 _ (by omega)]; exact a3⟩, by rw [hf.2.2]; exact b, fun r hr => ?_, d, fun p hp => by rw [o 7 _ (by omega)]; exact f p hp, fun t ht => by rw [o 8 _ (by omega)]; exact g t ht⟩
  obtain ⟨c1, c2, c3, c4⟩ := c r hr
  refine ⟨by rw [o 6 _ (by omega)]; exact c1, c2, by rw [hf.2.2]; exact c3, ?_⟩
  have oe : ∀ k, σ'.1 (e r) k = σ.1 (e r) k := fun k => o _ k (Or.inr ⟨c2, c3⟩)
  unfold CE at c4 ⊢
  simp only [oe]
  exact c4
/-- other changes leave the class's world -/
theorem ci_gx {σ' : xm_Mem} {Z : Nat → Nat → Prop} (hO : OK S) (h : CI σ S A n m e) (hf : gx Z σ σ') (hz : ∀ a k, Z a k → a ≤ 4 ∨ a = 16 ∨ a = 17 ∨ (84 ≤ a ∧ a ≤ 110) ∨ σ.2.2 < a) : CI σ' S A n m e := by
  have c110 := h.1.2.1.1
  obtain ⟨hC, hUO, ⟨hF, hB⟩, hK⟩ := h
  have o : ∀ a k, 36 ≤ a ∧ a ≤ 83 → σ'.1 a k = σ.1 a k := fun a k z => hf.1 a k (fun y => by have := hz a k y; omega)
  refine ⟨cs_gx hC hf (fun a k z => by have := hz a k z; omega), ?_, ⟨hF.gx hf (fun a k z => by have := hz a k z; unfold zP; omega), hB.gx hf (fun a k z => by have := hz a k z; omega)⟩, fun t' ht' => ?_⟩
  · exact hUO.fr (A := fun a => a ≤ 4 ∨ a = 16 ∨ a = 17 ∨ (84 ≤ a ∧ a ≤ 110) ∨ σ.2.2 < a) ⟨fun a k z => hf.1 a k (fun y => z (hz a k y)), fun a k z => hf.2.1 a k (fun y => z (hz a k y)), hf.2.2⟩ (fun a h z => by unfold zU at z; omega)
  · have t8' := (isT_t hO ht').1
    have cr := cb_rg t8'
    have cb : 36 ≤ xm_cb t' ∧ xm_cb t' + 5 ≤ 83 := by unfold xm_cb; omega
    rw [o _ _ (by omega)]
    rcases hK t' ht' with z | ⟨z1, ⟨z2, z3⟩, z4, z5, z6⟩
    · exact Or.inl z
    · refine Or.inr ⟨z1, ⟨by rw [o _ _ (by omega)]; exact z2, by rw [o _ _ (by omega)]; exact z3⟩, fun p hp => by rw [o _ _ (by omega)]; exact z4 p hp, by rw [o _ _ (by omega)]; exact z5, fun k hk => ?_⟩
      rw [o _ _ (by omega), o _ _ (by omega), o _ _ (by omega), o _ _ (by omega)]
      exact z6 k hk
theorem qa_acc (hO : OK S) (h : CI σ1 S A n m e) (hg : gx zQ1 σ σ1) (a : Int) : QA σ S A n m e ((f_X10_accept σ1 a).bind (fun o => some (o.1, o.2))) a 0 := by
  unfold QA f_X10_accept
  rw [xst, Option.bind_some]
  exact ⟨_, rfl, hg.u1 (Or.inr ⟨rfl, rfl⟩), ci_gx hO h ((gx.rf (fun a k => a = 1 ∧ k = 8) _).u1 ⟨rfl, rfl⟩) (fun a k z => by omega), by rw [xu11, if_pos ⟨rfl, rfl⟩]⟩
theorem qa_ref (hO : OK S) (h : CI σ1 S A n m e) (hg : gx zQ1 σ σ1) (w : Int) : QA σ S A n m e ((f_X10_refuse σ1 w).bind (fun o => some (o.1, o.2))) (-9) w := by
  unfold QA f_X10_refuse
  rw [xst, Option.bind_some]
  exact ⟨_, rfl, hg.u1 (Or.inr ⟨rfl, rfl⟩), ci_gx hO h ((gx.rf (fun a k => a = 1 ∧ k = 8) _).u1 ⟨rfl, rfl⟩) (fun a k z => by omega), by rw [xu11, if_pos ⟨rfl, rfl⟩]⟩
theorem qb_fine (hO : OK S) (h : MI τ1 S A n m) (hg : gx zNQ τ τ1) (a : Int) : QB τ S A n m ((f_X11_fine τ1 a).bind (fun o => some (o.1, o.2))) a 0 := by
  unfold QB f_X11_fine
  rw [xst, Option.bind_some]
  exact ⟨_, rfl, hg.u1 (Or.inr ⟨rfl, rfl⟩), mi_gx h hO ((gx.rf (fun a k => a = 84 ∧ k = 2) _).u1 ⟨rfl, rfl⟩) (fun a k z => by omega), by rw [xu11, if_pos ⟨rfl, rfl⟩]⟩
theorem qb_no (hO : OK S) (h : MI τ1 S A n m) (hg : gx zNQ τ τ1) (w : Int) : QB τ S A n m ((f_X11_no τ1 w).bind (fun o => some (o.1, o.2))) (-9) w := by
  unfold QB f_X11_no
  rw [xst, Option.bind_some]
  exact ⟨_, rfl, hg.u1 (Or.inr ⟨rfl, rfl⟩), mi_gx h hO ((gx.rf (fun a k => a = 84 ∧ k = 2) _).u1 ⟨rfl, rfl⟩) (fun a k z => by omega), by rw [xu11, if_pos ⟨rfl, rfl⟩]⟩
theorem zQ1_mono : ∀ a k, zQ a k → zQ1 a k := fun _ _ z => Or.inl z
theorem c_isDay (x : Int) : f_X10_isDay σ x = some (σ, xb (0 ≤ x ∧ x ≤ 99999)) := by
  unfold f_X10_isDay
  (repeat' split) <;> first | (rw [xb_pos (by omega)]; done) | (rw [xb_neg (by omega)]; done)
theorem m_why0 (hW : WF S) (hM : MS τ S) {x d : Int} (ht : isT S x) (hd : 0 ≤ d ∧ d ≤ 99999) : f_X11_titleWhy τ x d = some (τ, 0) := by
  unfold f_X11_titleWhy
  rw [m_isTitle hW hM, Option.bind_some]
  try dsimp only
  rw [xb_pos ht, if_neg (by decide), m_isIn', Option.bind_some]
  try dsimp only
  rw [xb_pos hd, if_neg (by decide)]
theorem m_why3 (hW : WF S) (hM : MS τ S) {x d : Int} (ht : isT S x) (hd : ¬ (0 ≤ d ∧ d ≤ 99999)) : f_X11_titleWhy τ x d = some (τ, 3) := by
  unfold f_X11_titleWhy
  rw [m_isTitle hW hM, Option.bind_some]
  try dsimp only
  rw [xb_pos ht, if_neg (by decide), m_isIn', Option.bind_some]
  try dsimp only
  rw [xb_neg hd, if_pos rfl]
theorem m_why1 (hW : WF S) (hM : MS τ S) {x d : Int} (ht : ¬ isT S x) : f_X11_titleWhy τ x d = some (τ, 1) := by
  unfold f_X11_titleWhy
  rw [m_isTitle hW hM, Option.bind_some]
  try dsimp only
  rw [xb_neg ht, if_pos rfl]
theorem holdA_eq (d : Int) : (if 0 ≤ sK_ S A n m t d ∧ sK_ S A n m t d < NS S A n m t then (stp S A n m t (sK_ S A n m t d).toNat).2.1 else -4) = holdA S A n m t d := by
  unfold holdA
  by_cases c : 0 ≤ sK_ S A n m t d ∧ sK_ S A n m t d < NS S A n m t
  · rw [if_pos c, if_neg (by omega)]
  · rw [if_neg c, if_pos ((sK_in d).mpr c)]
theorem sncA_eq (d : Int) : (if 0 ≤ sK_ S A n m t d ∧ sK_ S A n m t d < NS S A n m t then (stp S A n m t (sK_ S A n m t d).toNat).2.2.2 else -1) = sncA S A n m t d := by
  unfold sncA
  by_cases c : 0 ≤ sK_ S A n m t d ∧ sK_ S A n m t d < NS S A n m t
  · rw [if_pos c, if_neg (by omega)]
  · rw [if_neg c, if_pos ((sK_in d).mpr c)]
theorem q_holder (hU : PU S A n m) (hC : CI σ S A n m e) (hM : MI τ S A n m) (x d : Int) : ∃ a w, QA σ S A n m e (f_X10_holder σ x d) a w ∧ QB τ S A n m (f_X11_holder τ x d) a w := by
  unfold f_X10_holder f_X11_holder
  rw [r7_hasTitle hU.1.1 hC.1, Option.bind_some]
  by_cases ht : isT S x
  · obtain ⟨t, rfl⟩ := Int.eq_ofNat_of_zero_le ht.1
    by_cases hd : 0 ≤ d ∧ d ≤ 99999
    · refine ⟨holdA S A n m t d, 0, ?_, ?_⟩
      · obtain ⟨σ1, a1, a2, a3, a4⟩ := hC.co hU ht
        try dsimp only
        rw [xb_pos ht, if_neg (by decide), c_isDay, Option.bind_some]
        try dsimp only
        rw [xb_pos hd, if_neg (by decide), a1, Option.bind_some]
        try dsimp only
        rw [Int.toNat_natCast, c_stepOn hU.1 ht a4, Option.bind_some]
        try dsimp only
        rw [c_state hU.1 ht a4, Option.bind_some]
        try dsimp only
        rw [holdA_eq]
        exact qa_acc hU.1 a3 (a2.mono zQ1_mono) _
      · obtain ⟨τ1, b1, b2, b3⟩ := m_stateOn hU hM ht d
        rw [m_why0 hU.1.1 hM.1 ht hd, Option.bind_some]
        try dsimp only
        rw [if_neg (by decide), b1, Option.bind_some]
        exact qb_fine hU.1 b3 b2 _
    · refine ⟨-9, 3, ?_, ?_⟩
      · try dsimp only
        rw [xb_pos ht, if_neg (by decide), c_isDay, Option.bind_some]
        try dsimp only
        rw [xb_neg hd, if_pos rfl]
        exact qa_ref hU.1 hC (gx.rf _ _) _
      · rw [m_why3 hU.1.1 hM.1 ht hd, Option.bind_some]
        try dsimp only
        rw [if_pos (by decide)]
        exact qb_no hU.1 hM (gx.rf _ _) _
  · refine ⟨-9, 1, ?_, ?_⟩
    · try dsimp only
      rw [xb_neg ht, if_pos rfl]
      exact qa_ref hU.1 hC (gx.rf _ _) _
    · rw [m_why1 hU.1.1 hM.1 ht, Option.bind_some]
      try dsimp only
      rw [if_pos (by decide)]
      exact qb_no hU.1 hM (gx.rf _ _) _
theorem q_since (hU : PU S A n m) (hC : CI σ S A n m e) (hM : MI τ S A n m) (x d : Int) : ∃ a w, QA σ S A n m e (f_X10_since σ x d) a w ∧ QB τ S A n m (f_X11_since τ x d) a w := by
  unfold f_X10_since f_X11_since
  rw [r7_hasTitle hU.1.1 hC.1, Option.bind_some]
  by_cases ht : isT S x
  · obtain ⟨t, rfl⟩ := Int.eq_ofNat_of_zero_le ht.1
    by_cases hd : 0 ≤ d ∧ d ≤ 99999
    · refine ⟨sncA S A n m t d, 0, ?_, ?_⟩
      · obtain ⟨σ1, a1, a2, a3, a4⟩ := hC.co hU ht
        try dsimp only
        rw [xb_pos ht, if_neg (by decide), c_isDay, Option.bind_some]
        try dsimp only
        rw [xb_pos hd, if_neg (by decide), a1, Option.bind_some]
        try dsimp only
        rw [Int.toNat_natCast, c_stepOn hU.1 ht a4, Option.bind_some]
        try dsimp only
        rw [c_firstDay hU.1 ht a4, Option.bind_some]
        try dsimp only
        rw [sncA_eq]
        exact qa_acc hU.1 a3 (a2.mono zQ1_mono) _
      · obtain ⟨τ1, b1, b2, b3, b4, _⟩ := mi_ev hU hM ht d
        rw [m_why0 hU.1.1 hM.1 ht hd, Option.bind_some]
        try dsimp only
        rw [if_neg (by decide), b1, Option.bind_some]
        try dsimp only
        by_cases c : sK_ S A n m t d < 0
        · have es : sncA S A n m t d = -1 := by unfold sncA; rw [if_pos c]
          simp only [if_pos c]
          rw [if_pos (by decide), es]
          exact qb_fine hU.1 b3 b2 _
        · obtain ⟨k, k1, k2, k3, k4⟩ := ev_ix hU.1 ht c
          have es : sncA S A n m t d = (stp S A n m t k).2.2.2 := by unfold sncA; rw [if_neg c, k1, Int.toNat_natCast]
          rw [k3, if_neg (by omega), if_pos k4, Int.toNat_natCast, (b4.2 k k2).2.2.2, es]
          exact qb_fine hU.1 b3 b2 _
    · refine ⟨-9, 3, ?_, ?_⟩
      · try dsimp only
        rw [xb_pos ht, if_neg (by decide), c_isDay, Option.bind_some]
        try dsimp only
        rw [xb_neg hd, if_pos rfl]
        exact qa_ref hU.1 hC (gx.rf _ _) _
      · rw [m_why3 hU.1.1 hM.1 ht hd, Option.bind_some]
        try dsimp only
        rw [if_pos (by decide)]
        exact qb_no hU.1 hM (gx.rf _ _) _
  · refine ⟨-9, 1, ?_, ?_⟩
    · try dsimp only
      rw [xb_neg ht, if_pos rfl]
      exact qa_ref hU.1 hC (gx.rf _ _) _
    · rw [m_why1 hU.1.1 hM.1 ht, Option.bind_some]
      try dsimp only
      rw [if_pos (by decide)]
      exact qb_no hU.1 hM (gx.rf _ _) _
theorem lineA_len (hU : PU S A n m) (ht : isT S (t : Int)) (d : Int) : (lineA S A n m t d).length ≤ 64 := line_len hU.1 hU.2.1 (rtA_ok hU ht d)
theorem q_line (hU : PU S A n m) (hC : CI σ S A n m e) (hM : MI τ S A n m) (x d y : Int) : ∃ a w, QA σ S A n m e (f_X10_line σ x d y) a w ∧ QB τ S A n m (f_X11_line τ x d y) a w := by
  unfold f_X10_line f_X11_line
  rw [r7_hasTitle hU.1.1 hC.1, Option.bind_some]
  by_cases ht : isT S x
  · obtain ⟨t, rfl⟩ := Int.eq_ofNat_of_zero_le ht.1
    by_cases hd : 0 ≤ d ∧ d ≤ 99999
    · obtain ⟨σ1, a1, a2, a3, a4⟩ := hC.co hU ht
      obtain ⟨σ2, c1, c2, c3, c4⟩ := c_lineUp hU a3 ht a4 hd
      obtain ⟨τ1, b1, b2, b3, b4⟩ := m_lineOn hU hM ht d
      have hl := lineA_len (A := A) (n := n) (m := m) hU ht d
      have g2 := (a2.tr c2).mono zQ1_mono
      by_cases hy : 0 ≤ y ∧ y < ((lineA S A n m t d).length : Int)
      · obtain ⟨j, rfl⟩ := Int.eq_ofNat_of_zero_le hy.1
        refine ⟨(((lineA S A n m t d).getD j 0 : Nat) : Int), 0, ?_, ?_⟩
        · try dsimp only
          rw [xb_pos ht, if_neg (by decide), c_isDay, Option.bind_some]
          try dsimp only
          rw [xb_pos hd, if_neg (by decide), a1, Option.bind_some]
          try dsimp only
          rw [Int.toNat_natCast, c1, Option.bind_some]
          try dsimp only
          rw [if_neg (by omega)]
          unfold f_X4_size
          rw [Option.bind_some]
          try dsimp only
          rw [c4.1, if_pos hy.2]
          unfold f_X4_at
          rw [if_neg (by omega), c4.1, if_pos hy.2, if_pos ⟨by omega, by omega⟩, Option.bind_some]
          try dsimp only
          have v := c4.2.1 j (by omega)
          rw [Nat.zero_add] at v
          rw [Int.toNat_natCast, v]
          exact qa_acc hU.1 c3 g2 _
        · have v := b4.2 j (by omega)
          rw [m_why0 hU.1.1 hM.1 ht hd, Option.bind_some]
          try dsimp only
          rw [if_neg (by decide), b1, Option.bind_some]
          try dsimp only
          rw [m_isIn', Option.bind_some]
          try dsimp only
          rw [b4.1, xp_w (by omega) (by omega)]
          rw [Nat.zero_add] at v
          rw [xb_pos (by omega), if_neg (by decide), if_pos ⟨by omega, by omega⟩, Int.toNat_natCast, v]
          exact qb_fine hU.1 b3 b2 _
      · refine ⟨-9, 1, ?_, ?_⟩
        · try dsimp only
          rw [xb_pos ht, if_neg (by decide), c_isDay, Option.bind_some]
          try dsimp only
          rw [xb_pos hd, if_neg (by decide), a1, Option.bind_some]
          try dsimp only
          rw [Int.toNat_natCast, c1, Option.bind_some]
          try dsimp only
          by_cases y0 : y < 0
          · rw [if_pos y0]
            exact qa_ref hU.1 c3 g2 _
          · rw [if_neg y0]
            unfold f_X4_size
            rw [Option.bind_some]
            try dsimp only
            rw [c4.1, if_neg (by omega)]
            exact qa_ref hU.1 c3 g2 _
        · rw [m_why0 hU.1.1 hM.1 ht hd, Option.bind_some]
          try dsimp only
          rw [if_neg (by decide), b1, Option.bind_some]
          try dsimp only
          rw [m_isIn', Option.bind_some]
          try dsimp only
          rw [b4.1, xp_w (by omega) (by omega)]
          rw [xb_neg (by omega), if_pos rfl]
          exact qb_no hU.1 b3 b2 _
    · refine ⟨-9, 3, ?_, ?_⟩
      · try dsimp only
        rw [xb_pos ht, if_neg (by decide), c_isDay, Option.bind_some]
        try dsimp only
        rw [xb_neg hd, if_pos rfl]
        exact qa_ref hU.1 hC (gx.rf _ _) _
      · rw [m_why3 hU.1.1 hM.1 ht hd, Option.bind_some]
        try dsimp only
        rw [if_pos (by decide)]
        exact qb_no hU.1 hM (gx.rf _ _) _
  · refine ⟨-9, 1, ?_, ?_⟩
    · try dsimp only
      rw [xb_neg ht, if_pos rfl]
      exact qa_ref hU.1 hC (gx.rf _ _) _
    · rw [m_why1 hU.1.1 hM.1 ht, Option.bind_some]
      try dsimp only
      rw [if_pos (by decide)]
      exact qb_no hU.1 hM (gx.rf _ _) _
end XG
