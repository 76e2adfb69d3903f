/-! ===== questions of titles: both answer alike ===== -/
def zQ1 (a k : Nat) : Prop := zQ a k ∨ (a = 1 ∧ k = 8)
def QA (σ : xm_Mem) (S : xS) (A : Nat → Nat) (n : Nat) (m : Nat → Int64) (e : Nat → Nat) (r : Option xm_Out) (a w : Int) : Prop := ∃ σ', r = some (σ', a) ∧ gx zQ1 σ σ' ∧ CI σ' S A n m e ∧ σ'.1 1 8 = w
def QB (τ : xm_Mem) (S : xS) (A : Nat → Nat) (n : Nat) (m : Nat → Int64) (r : Option xm_Out) (a w : Int) : Prop := ∃ τ', r = some (τ', a) ∧ gx zNQ τ τ' ∧ MI τ' S A n m ∧ τ'.1 84 2 = w
section XG
variable {σ σ1 τ τ1 : xm_Mem} {S : xS} {A : Nat → Nat} {n : Nat} {m : Nat → Int64} {t : Nat} {e : Nat → Nat}
theorem cs_gx {σ' : xm_Mem} {Z : Nat → Nat → Prop} (h : CS σ S e) (hf : gx Z σ σ') (hz : ∀ a k, Z a k → a ≤ 4 ∨ (9 < a ∧ a ≤ 110) ∨ σ.2.2 < a) : CS σ' S e := by
  have c110 := h.2.1.1
  have o : ∀ a k, (5 ≤ a ∧ a ≤ 9) ∨ (111 ≤ a ∧ a ≤ σ.2.2) → σ'.1 a k = σ.1 a k := fun a k z => hf.1 a k (fun y => by have := hz a k y; omega)
  obtain ⟨⟨a1, a2, a3⟩, b, c, d, f, g⟩ := h
  refine ⟨⟨by rw [o 5 _ (by omega)]; exact a1, by rw [o 5 _ (by omega)]; exact a2, by rw [o 5 _ (by omega)]; exact a3⟩, by rw [hf.2.2]; exact b, fun r hr => ?_, d, fun p hp => by rw [o 7 _ (by omega)]; exact f p hp, fun t ht => by rw [o 8 _ (by omega)]; exact g t ht⟩
  obtain ⟨c1, c2, c3, c4⟩ := c r hr
  refine ⟨by rw [o 6 _ (by omega)]; exact c1, c2, by rw [hf.2.2]; exact c3, ?_⟩
  have oe : ∀ k, σ'.1 (e r) k = σ.1 (e r) k := fun k => o _ k (Or.inr ⟨c2, c3⟩)
  unfold CE at c4 ⊢
  simp only [oe]
  exact c4
/-- other changes leave the class's world -/
theorem ci_gx {σ' : xm_Mem} {Z : Nat → Nat → Prop} (hO : OK S) (h : CI σ S A n m e) (hf : gx Z σ σ') (hz : ∀ a k, Z a k → a ≤ 4 ∨ a = 16 ∨ a = 17 ∨ (84 ≤ a ∧ a ≤ 110) ∨ σ.2.2 < a) : CI σ' S A n m e := by
  have c110 := h.1.2.1.1
  obtain ⟨hC, hUO, ⟨hF, hB⟩, hK⟩ := h
  have o : ∀ a k, 36 ≤ a ∧ a ≤ 83 → σ'.1 a k = σ.1 a k := fun a k z => hf.1 a k (fun y => by have := hz a k y; omega)
  refine ⟨cs_gx hC hf (fun a k z => by have := hz a k z; omega), ?_, ⟨hF.gx hf (fun a k z => by have := hz a k z; unfold zP; omega), hB.gx hf (fun a k z => by have := hz a k z; omega)⟩, fun t' ht' => ?_⟩
  · exact hUO.fr (A := fun a => a ≤ 4 ∨ a = 16 ∨ a = 17 ∨ (84 ≤ a ∧ a ≤ 110) ∨ σ.2.2 < a) ⟨fun a k z => hf.1 a k (fun y => z (hz a k y)), fun a k z => hf.2.1 a k (fun y => z (hz a k y)), hf.2.2⟩ (fun a h z => by unfold zU at z; omega)
  · have t8' := (isT_t hO ht').1
    have cr := cb_rg t8'
    have cb : 36 ≤ xm_cb t' ∧ xm_cb t' + 5 ≤ 83 := by unfold xm_cb; omega
    rw [o _ _ (by omega)]
    rcases hK t' ht' with z | ⟨z1, ⟨z2, z3⟩, z4, z5, z6⟩
    · exact Or.inl z
    · refine Or.inr ⟨z1, ⟨by rw [o _ _ (by omega)]; exact z2, by rw [o _ _ (by omega)]; exact z3⟩, fun p hp => by rw [o _ _ (by omega)]; exact z4 p hp, by rw [o _ _ (by omega)]; exact z5, fun k hk => ?_⟩
      rw [o _ _ (by omega), o _ _ (by omega), o _ _ (by omega), o _ _ (by omega)]
      exact z6 k hk
theorem qa_acc (hO : OK S) (h : CI σ1 S A n m e) (hg : gx zQ1 σ σ1) (a : Int) : QA σ S A n m e ((f_X10_accept σ1 a).bind (fun o => some (o.1, o.2))) a 0 := by
  unfold QA f_X10_accept
  rw [xst, Option.bind_some]
  exact ⟨_, rfl, hg.u1 (Or.inr ⟨rfl, rfl⟩), ci_gx hO h ((gx.rf (fun a k => a = 1 ∧ k = 8) _).u1 ⟨rfl, rfl⟩) (fun a k z => by omega), by rw [xu11, if_pos ⟨rfl, rfl⟩]⟩
theorem qa_ref (hO : OK S) (h : CI σ1 S A n m e) (hg : gx zQ1 σ σ1) (w : Int) : QA σ S A n m e ((f_X10_refuse σ1 w).bind (fun o => some (o.1, o.2))) (-9) w := by
  unfold QA f_X10_refuse
  rw [xst, Option.bind_some]
  exact ⟨_, rfl, hg.u1 (Or.inr ⟨rfl, rfl⟩), ci_gx hO h ((gx.rf (fun a k => a = 1 ∧ k = 8) _).u1 ⟨rfl, rfl⟩) (fun a k z => by omega), by rw [xu11, if_pos ⟨rfl, rfl⟩]⟩
theorem zQ1_mono : ∀ a k, zQ a k → zQ1 a k := fun _ _ z => Or.inl z
theorem c_isDay (x : Int) : f_X10_isDay σ x = some (σ, xb (0 ≤ x ∧ x ≤ 99999)) := by
  unfold f_X10_isDay
  (repeat' split) <;> first | (rw [xb_pos (by omega)]; done) | (rw [xb_neg (by omega)]; done)
theorem holdA_eq (d : Int) : (if 0 ≤ sK_ S A n m t d ∧ sK_ S A n m t d < NS S A n m t then (stp S A n m t (sK_ S A n m t d).toNat).2.1 else -4) = holdA S A n m t d := by
  unfold holdA
  by_cases c : 0 ≤ sK_ S A n m t d ∧ sK_ S A n m t d < NS S A n m t
  · rw [if_pos c, if_neg (by omega)]
  · rw [if_neg c, if_pos ((sK_in d).mpr c)]
theorem sncA_eq (d : Int) : (if 0 ≤ sK_ S A n m t d ∧ sK_ S A n m t d < NS S A n m t then (stp S A n m t (sK_ S A n m t d).toNat).2.2.2 else -1) = sncA S A n m t d := by
  unfold sncA
  by_cases c : 0 ≤ sK_ S A n m t d ∧ sK_ S A n m t d < NS S A n m t
  · rw [if_pos c, if_neg (by omega)]
  · rw [if_neg c, if_pos ((sK_in d).mpr c)]
theorem lineA_len (hU : PU S A n m) (ht : isT S (t : Int)) (d : Int) : (lineA S A n m t d).length ≤ 64 := line_len hU.1 hU.2.1 (rtA_ok hU ht d)
end XG
