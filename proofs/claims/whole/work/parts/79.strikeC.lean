/-! ===== strike keeps the law's invariant ===== -/
def zC1 (a k : Nat) : Prop := (a = 1 ∧ (k = 8 ∨ k = 10)) ∨ (10 ≤ a ∧ a ≤ 83)
def zC2 (a k : Nat) : Prop := zC1 a k ∨ 111 ≤ a
def zM1 (a k : Nat) : Prop := (a = 84 ∧ (k = 2 ∨ k = 4 ∨ k = 6 ∨ k = 18)) ∨ a = 92 ∨ a = 95
def CC (σ σ1 : xm_Mem) (S : xS) (A : Nat → Nat) (n : Nat) (m : Nat → Int64) (e : Nat → Nat) (w b : Int) : Prop := gx zC2 σ σ1 ∧ CI σ1 S A n m e ∧ σ1.1 1 8 = w ∧ σ1.1 1 10 = b
def MM (τ τ1 : xm_Mem) (S : xS) (A : Nat → Nat) (n : Nat) (m : Nat → Int64) (w b : Int) : Prop := gx zM1 τ τ1 ∧ MI τ1 S A n m ∧ τ1.1 84 2 = w ∧ τ1.1 84 4 = b ∧ τ1.1 84 6 = (sN S : Int)
section XS
variable {σ σ1 τ τ1 : xm_Mem} {S : xS} {A A' : Nat → Nat} {n n' : Nat} {m m' : Nat → Int64} {e : Nat → Nat} {B : Nat → Int} {s : Nat}
theorem cc_ref (hO : OK S) (hC : CI σ1 S A n m e) (g : gx zC2 σ σ1) {b : Int} (hb : σ1.1 1 10 = b) (w : Int) : ∃ σ2, (f_X10_refuse σ1 w).bind (fun o => some (o.1, o.2)) = some (σ2, -9) ∧ CC σ σ2 S A n m e w b := by
  unfold f_X10_refuse
  rw [xst, Option.bind_some]
  exact ⟨_, rfl, g.u1 (Or.inl (Or.inl ⟨rfl, Or.inl rfl⟩)), ci_gx hO hC ((gx.rf (fun a k => a = 1 ∧ k = 8) _).u1 ⟨rfl, rfl⟩) (fun a k z => by omega), by rw [xu11, if_pos ⟨rfl, rfl⟩], by rw [xu11, if_neg (by omega)]; exact hb⟩
theorem mm_no (hO : OK S) (hM : MI τ1 S A n m) (g : gx zM1 τ τ1) {b : Int} (hb : τ1.1 84 4 = b) (h6 : τ1.1 84 6 = (sN S : Int)) (w : Int) : ∃ τ2, (f_X11_no τ1 w).bind (fun o => some (o.1, o.2)) = some (τ2, -9) ∧ MM τ τ2 S A n m w b := by
  unfold f_X11_no
  rw [xst, Option.bind_some]
  exact ⟨_, rfl, g.u1 (Or.inl ⟨rfl, Or.inl rfl⟩), mi_gx hM hO ((gx.rf (fun a k => a = 84 ∧ k = 2) _).u1 ⟨rfl, rfl⟩) (fun a k z => by omega), by rw [xu11, if_pos ⟨rfl, rfl⟩], by rw [xu11, if_neg (by omega)]; exact hb, by rw [xu11, if_neg (by omega)]; exact h6⟩
theorem c_strike (hU : PU S A n m) (hC : CI σ S A n m e) (x : Int) :
    (¬ (0 ≤ x ∧ x < (sn S : Int)) → ∃ σ1, f_X10_strike σ x = some (σ1, -9) ∧ CC σ σ1 S A n m e 1 0) ∧
    ∀ r : Nat, x = (r : Int) → r < sn S →
      (wS S r = 0 → ∃ σ1, f_X10_strike σ x = some (σ1, -9) ∧ CC σ σ1 S A n m e 8 0) ∧
      (wS S r = 1 → nmd S r → ∃ σ1, f_X10_strike σ x = some (σ1, -9) ∧ CC σ σ1 S A n m e 6 0) ∧
      (wS S r = 1 → ¬ nmd S r → fstB (breaks (setS S r 0)) 9 1 ≠ 0 → ∃ σ1, f_X10_strike σ x = some (σ1, -9) ∧ CC σ σ1 S A n m e 5 (fstB (breaks (setS S r 0)) 9 1 : Int)) ∧
      (wS S r = 1 → ¬ nmd S r → fstB (breaks (setS S r 0)) 9 1 = 0 → ∃ σ1 A' n' m', f_X10_strike σ x = some (σ1, (sN (setS S r 0) : Int)) ∧ PU (setS S r 0) A' n' m' ∧ CC σ σ1 (setS S r 0) A' n' m' e 0 0) := by
  unfold f_X10_strike
  rw [xst]
  have g1 : gx zC2 σ (xm_u1 σ 1 10 0) := (gx.rf _ _).u1 (Or.inl (Or.inl ⟨rfl, Or.inr rfl⟩))
  have hC1 := ci_gx hU.1 hC ((gx.rf (fun a k => a = 1 ∧ k = 10) _).u1 (v := 0) ⟨rfl, rfl⟩) (fun a k z => by omega)
  have b1 : (xm_u1 σ 1 10 0).1 1 10 = 0 := by rw [xu11, if_pos ⟨rfl, rfl⟩]
  generalize xm_u1 σ 1 10 0 = σ' at g1 hC1 b1
  rw [r7_taken hU.1.1 hC1.1, Option.bind_some]
  try dsimp only
  constructor
  · intro hx
    rw [if_neg hx, xvr _ (by decide), if_pos rfl]
    exact cc_ref hU.1 hC1 g1 b1 1
  · rintro r rfl hr
    obtain ⟨e1, e2, ce, e4, e5⟩ := hC1.1.at hr
    have er := (hC1.1.2.2.1 r hr).2.1
    have ec := (hC1.1.2.2.1 r hr).2.2.1
    have k9 := ce.2.2.2.2.2.2.2.2.2
    rw [if_pos ⟨by omega, by omega⟩, Int.toNat_natCast, xvr _ e4, if_neg e5, if_pos e2]
    simp only [Int.toNat_natCast, k9]
    refine ⟨fun s0 => ?_, fun s1 hn => ?_, fun s1 hn hb => ?_, fun s1 hn hb => ?_⟩
    · rw [if_pos s0]
      exact cc_ref hU.1 hC1 g1 b1 8
    · rw [if_neg (by omega), c_named hU.1.1 hC1.1 hr, Option.bind_some]
      try dsimp only
      rw [xb_pos hn, if_neg (by decide)]
      exact cc_ref hU.1 hC1 g1 b1 6
    all_goals
      rw [if_neg (by omega), c_named hU.1.1 hC1.1 hr, Option.bind_some]
      try dsimp only
      rw [xb_neg hn, if_pos rfl, if_pos e2, xst]
      have hC3 := cs_set hC1.1 hr 0
      have hW3 := set_WF hU.1.1 r (v := 0) ⟨by decide, by decide⟩
      have hN3 := set_NM hU.1.1 hU.1.2.1 hn
      have o3 : ∀ a k, ¬ (a = e r ∧ k = 9) → (xm_u1 σ' (e r) 9 0).1 a k = σ'.1 a k := fun a k z => by rw [xu11, if_neg z]
      have l3 : (xm_u1 σ' (e r) 9 0).2 = σ'.2 := rfl
      generalize xm_u1 σ' (e r) 9 0 = σ3 at hC3 o3 l3
      obtain ⟨σ4, a1, a2, a3, a4⟩ := c_bond hW3 hN3 hC3
      rw [a1, Option.bind_some]
      try dsimp only
      rw [xst]
      have o5 : ∀ a k, ¬ (a = 1 ∧ k = 10) → (xm_u1 σ4 1 10 (fstB (breaks (setS S r 0)) 9 1 : Int)).1 a k = σ4.1 a k := fun a k z => by rw [xu11, if_neg z]
      have l5 : (xm_u1 σ4 1 10 (fstB (breaks (setS S r 0)) 9 1 : Int)).2 = σ4.2 := rfl
      have v5 : (xm_u1 σ4 1 10 (fstB (breaks (setS S r 0)) 9 1 : Int)).1 1 10 = (fstB (breaks (setS S r 0)) 9 1 : Int) := by rw [xu11, if_pos ⟨rfl, rfl⟩]
      generalize xm_u1 σ4 1 10 (fstB (breaks (setS S r 0)) 9 1 : Int) = σ5 at o5 l5 v5
      have zpu : ∀ a, zPU a → 10 ≤ a ∧ a ≤ 22 := fun a z => by unfold zPU zP zU at z; omega
      have c5 : σ5.2.2 = σ'.2.2 := by rw [l5, a2.2.2, l3]
      have w5 : ∀ a k, ¬ (a = 1 ∧ k = 10) → ¬ (10 ≤ a ∧ a ≤ 22) → ¬ (a = e r ∧ k = 9) → σ5.1 a k = σ'.1 a k := fun a k z1 z2 z3 => by rw [o5 a k z1, a2.1 a k (fun y => z2 (zpu a y)), o3 a k z3]
      have y5 : ∀ a k, ¬ (10 ≤ a ∧ a ≤ 22) → σ5.2.1 a k = σ'.2.1 a k := fun a k z2 => by rw [l5, a2.2.1 a k (fun y => z2 (zpu a y)), l3]
      rw [v5]
    · have ob : xm_obj σ5 (e r : Int) 2 := xobj er (by rw [c5]; exact ec)
      rw [if_neg (by omega), if_pos ob, xst]
      have g6 : gx zC1 σ' (xm_u1 σ5 (e r) 9 1) := by
        refine ⟨fun a k z => ?_, fun a k z => ?_, c5⟩
        · rw [xu11]
          by_cases q : a = e r ∧ k = 9
          · rw [if_pos q, q.1, q.2, k9, s1]
          · rw [if_neg q]
            exact w5 a k (fun y => z (Or.inl ⟨y.1, Or.inr y.2⟩)) (fun y => z (Or.inr (by omega))) q
        · exact y5 a k (fun y => z (Or.inr (by omega)))
      have v6 : (xm_u1 σ5 (e r) 9 1).1 1 10 = (fstB (breaks (setS S r 0)) 9 1 : Int) := by rw [xu11, if_neg (by omega)]; exact v5
      generalize xm_u1 σ5 (e r) 9 1 = σ6 at g6 v6
      have hC6 : CS σ6 S e := cs_gx hC1.1 g6 (fun a k z => by unfold zC1 at z; omega)
      obtain ⟨σ7, d1, d2, d3⟩ := c_settle2 hU hC6
      unfold f_X10_strike_j81
      rw [d1, Option.bind_some]
      try dsimp only
      have v7 : σ7.1 1 10 = (fstB (breaks (setS S r 0)) 9 1 : Int) := by rw [d2.1 1 10 (by omega)]; exact v6
      rw [v7, if_neg (by omega)]
      exact cc_ref hU.1 d3 ((g1.tr (g6.mono (fun a k z => Or.inl z))).tr (d2.mono (fun a k z => Or.inl (Or.inr z)))) v7 5
    · rw [hb] at v5 ⊢
      rw [if_pos (by decide)]
      have hC5 : CS σ5 (setS S r 0) e := by
        have h4 := cs_gx hC3 (a2.gx.mono (Y := fun a _ => 10 ≤ a ∧ a ≤ 22) (fun a k z => zpu a z)) (fun a k z => by omega)
        exact cs_gx h4 (Z := fun a k => a = 1 ∧ k = 10) ⟨fun a k z => o5 a k z, fun a k _ => by rw [l5], by rw [l5]⟩ (fun a k z => by omega)
      obtain ⟨σ7, A', n', m', d1, d2, d3, d4, _⟩ := c_settle ⟨hW3, hN3, hb⟩ hC5
      unfold f_X10_strike_j81
      rw [d1, Option.bind_some]
      try dsimp only
      have v7 : σ7.1 1 10 = 0 := by rw [d2.1 1 10 (by omega)]; exact v5
      rw [v7, if_pos rfl, c_countStanding hW3 d4.1, Option.bind_some]
      unfold f_X10_accept
      try dsimp only
      rw [xst, Option.bind_some]
      have g5 : gx zC2 σ' σ5 := ⟨fun a k z => w5 a k (fun y => z (Or.inl (Or.inl ⟨y.1, Or.inr y.2⟩))) (fun y => z (Or.inl (Or.inr (by omega)))) (fun y => z (Or.inr (by omega))), fun a k z => y5 a k (fun y => z (Or.inl (Or.inr (by omega)))), c5⟩
      exact ⟨_, A', n', m', rfl, d3, ((g1.tr g5).tr (d2.mono (fun a k z => Or.inl (Or.inr z)))).u1 (Or.inl (Or.inl ⟨rfl, Or.inl rfl⟩)), ci_gx ⟨hW3, hN3, hb⟩ d4 ((gx.rf (fun a k => a = 1 ∧ k = 8) _).u1 ⟨rfl, rfl⟩) (fun a k z => by omega), by rw [xu11, if_pos ⟨rfl, rfl⟩], by rw [xu11, if_neg (by omega)]; exact v7⟩
end XS
