/-! ===== strike: both look who is named, both strike ===== -/
section XS
variable {σ σ1 τ τ1 : xm_Mem} {S : xS} {A A' : Nat → Nat} {n n' : Nat} {m m' : Nat → Int64} {e : Nat → Nat} {B : Nat → Int} {s : Nat}
theorem c_namesPerson (hC : CS σ S e) {q : Nat} (hq : q < sn S) (x : Int) : f_X7_namesPerson σ (e q : Int) x = some (σ, xb (nmP S q x)) := by
  obtain ⟨e1, e2, ⟨k0, k1, k2, k3, k4, k5, k6, k7, k8, k9⟩, e4, e5⟩ := hC.at hq
  unfold f_X7_namesPerson nmP
  simp only [if_pos e2, Int.toNat_natCast, k2, k3, k4, k5]
  by_cases c1 : w1 S q = x
  · rw [if_pos c1, xb_pos (Or.inl c1)]
  · rw [if_neg c1]
    by_cases c2 : (if wK S q = 1 ∨ wK S q = 2 then w2 S q else -1) = x
    · rw [if_pos c2, xb_pos (Or.inr (Or.inl c2))]
    · rw [if_neg c2]
      by_cases c3 : (if wK S q = 0 then w2 S q else -1) = x
      · rw [if_pos c3, xb_pos (Or.inr (Or.inr (Or.inl c3)))]
      · rw [if_neg c3]
        by_cases c4 : (if wK S q = 0 then w3 S q else -1) = x
        · rw [if_pos c4, xb_pos (Or.inr (Or.inr (Or.inr c4)))]
        · rw [if_neg c4, xb_neg (fun z => z.elim c1 (fun z => z.elim c2 (fun z => z.elim c3 c4)))]
theorem c_named (hW : WF S) (hC : CS σ S e) {r : Nat} (hr : r < sn S) : f_X7_namesWhatIsMadeBy σ (e r : Int) = some (σ, xb (nmd S r)) := by
  have hn := hW.1.1
  obtain ⟨e1, e2, ⟨k0, k1, k2, k3, k4, k5, k6, k7, k8, k9⟩, e4, e5⟩ := hC.at hr
  have kr := hW.2.1 r hr
  unfold f_X7_namesWhatIsMadeBy f_X7_namesWhatIsMadeBy_l2
  refine it_T (γ := Nat) _ _ (fun (g : xm_Mem → Int → Int → Option xm_Out) i => g σ (e r : Int) (i : Int)) (fun i => i ≤ sn S ∧ ∀ q, q < i → ¬ nmd1 S r q) (fun i => sn S - i) (fun z => z = some (σ, xb (nmd S r))) ?_ xm_fuel 0 ⟨Nat.zero_le _, fun q h => absurd h (Nat.not_lt_zero _)⟩ (xfu (by show sn S - 0 < _; omega))
  rintro self i ⟨hi, hno⟩ ih
  show f_X7_namesWhatIsMadeBy_b2 self σ (e r : Int) (i : Int) = _
  unfold f_X7_namesWhatIsMadeBy_b2
  rw [hC.1.1]
  by_cases h : i < sn S
  · obtain ⟨f1, f2, ⟨j0, j1, j2, j3, j4, j5, j6, j7, j8, j9⟩, f4, f5⟩ := hC.at h
    have s01 := (hW.2.1 i h).2.2.1
    have ki := (hW.2.1 i h).1
    have go : ¬ nmd1 S r i → self σ (e r : Int) (xm_w ((i : Int) + 1)) = some (σ, xb (nmd S r)) := by
      intro z
      rw [xw1 (by omega)]
      refine ih (i + 1) ⟨h, fun q hq => ?_⟩ (by omega)
      by_cases y : q = i
      · subst y; exact z
      · exact hno q (by omega)
    have yes : nmd1 S r i → some (σ, (1 : Int)) = some (σ, xb (nmd S r)) := fun z => by rw [xb_pos ⟨i, h, z⟩]
    rw [if_pos (by omega), r7_standing hW hC h, Option.bind_some]
    try dsimp only
    by_cases s0 : wS S i = 0
    · rw [if_pos s0, xvr _ (by decide), if_pos rfl]
      exact go (fun z => by have := z.2.1; omega)
    · rw [if_neg s0, xvr _ f4, if_neg f5]
      by_cases ir : i = r
      · subst ir
        rw [if_pos rfl]
        exact go (fun z => z.1 rfl)
      · have ne : ¬ (e i : Int) = (e r : Int) := fun z => ir ((hC.inj h hr).mp z)
        have j48 : ¬ (wK S r = 0 ∧ nmP S i (w1 S r)) → f_X7_namesWhatIsMadeBy_j48 self σ (e r : Int) (i : Int) (e i : Int) = some (σ, xb (nmd S r)) := by
          intro y
          unfold f_X7_namesWhatIsMadeBy_j48
          simp only [if_pos e2, if_pos f2, Int.toNat_natCast, k0, k6, j6]
          by_cases c4 : wK S r = 4
          · rw [if_pos c4, if_pos (show 4 ≤ wK S r by omega)]
            have w2r := (kr.2.2.2.2.2.2.2.1 c4).2.1
            by_cases ci : 4 ≤ wK S i
            · rw [if_pos ci]
              by_cases cw : w2 S i = w2 S r
              · rw [if_pos cw]; exact yes ⟨ir, by omega, Or.inr ⟨c4, ci, cw⟩⟩
              · rw [if_neg cw]; exact go (fun z => z.2.2.elim y (fun z => cw z.2.2))
            · rw [if_neg ci, if_neg (by omega)]
              exact go (fun z => z.2.2.elim y (fun z => ci z.2.1))
          · rw [if_neg c4]
            exact go (fun z => z.2.2.elim y (fun z => c4 z.1))
        rw [if_neg ne, if_pos e2]
        simp only [Int.toNat_natCast, k0, k2]
        by_cases c0 : wK S r = 0
        · rw [if_pos c0, if_pos e2, c_namesPerson hC h, Option.bind_some]
          try dsimp only
          rw [xbi]
          by_cases np : nmP S i (w1 S r)
          · rw [if_pos np]; exact yes ⟨ir, by omega, Or.inl ⟨c0, np⟩⟩
          · rw [if_neg np]; exact j48 (fun z => np z.2)
        · rw [if_neg c0]; exact j48 (fun z => c0 z.1)
  · rw [if_neg (by omega), xb_neg (fun ⟨q, q1, q2⟩ => hno q (by omega) q2)]
theorem nmP_eq (hW : WF S) {q : Nat} (hq : q < sn S) {x : Int} (hx : 0 ≤ x) (h0 : wK S q = 0 → w1 S q ≠ x) : nmP S q x ↔ (wK S q ≠ 0 ∧ w1 S q = x) ∨ ((wK S q = 0 ∨ wK S q = 1 ∨ wK S q = 2) ∧ w2 S q = x) ∨ (wK S q = 0 ∧ w3 S q = x) := by
  unfold nmP
  by_cases c0 : wK S q = 0
  · rw [if_neg (by omega), if_pos c0, if_pos c0]
    have := h0 c0
    constructor
    · rintro (z | z | z | z)
      · exact absurd z this
      · omega
      · exact Or.inr (Or.inl ⟨Or.inl c0, z⟩)
      · exact Or.inr (Or.inr ⟨c0, z⟩)
    · rintro (z | z | z)
      · exact absurd c0 z.1
      · exact Or.inr (Or.inr (Or.inl z.2))
      · exact Or.inr (Or.inr (Or.inr z.2))
  · rw [if_neg c0, if_neg c0]
    by_cases c1 : wK S q = 1 ∨ wK S q = 2
    · rw [if_pos c1]
      constructor
      · rintro (z | z | z | z)
        · exact Or.inl ⟨c0, z⟩
        · exact Or.inr (Or.inl ⟨Or.inr c1, z⟩)
        · omega
        · omega
      · rintro (z | z | z)
        · exact Or.inl z.2
        · exact Or.inr (Or.inl z.2)
        · exact absurd z.1 c0
    · rw [if_neg c1]
      constructor
      · rintro (z | z | z | z)
        · exact Or.inl ⟨c0, z⟩
        · omega
        · omega
        · omega
      · rintro (z | z | z)
        · exact Or.inl z.2
        · exact absurd (z.1.resolve_left c0) c1
        · exact absurd z.1 c0
theorem m_named (hW : WF S) (hM : MS τ S) {r : Nat} (hr : r < sn S) : f_X11_isNamed τ (r : Int) = some (τ, xb (nmd S r)) := by
  have hn := hW.1.1
  have kr := hW.2.1 r hr
  obtain ⟨a0, a1, a2, a3, a4, a5, a6⟩ := hM.2.2.2.1 r hr
  have gr : 0 ≤ (r : Int) ∧ (r : Int) < 200 := ⟨by omega, by omega⟩
  unfold f_X11_isNamed f_X11_isNamed_l4
  refine it_T (γ := Int × Nat) _ _ (fun (g : xm_Mem → Int → Int → Int → Option xm_Out) a => g τ (r : Int) a.1 (a.2 : Int)) (fun a => a.2 ≤ sn S ∧ a.1 = xb (∃ q, q < a.2 ∧ nmd1 S r q)) (fun a => sn S - a.2) (fun z => z = some (τ, xb (nmd S r))) ?_ xm_fuel (0, 0) ⟨Nat.zero_le _, (xb_neg (fun ⟨q, q1, _⟩ => absurd q1 (Nat.not_lt_zero _))).symm⟩ (xfu (by show sn S - 0 < _; omega))
  · rintro self ⟨v, i⟩ ⟨hi, hv⟩ ih
    replace hi : i ≤ sn S := hi
    replace hv : v = xb (∃ q, q < i ∧ nmd1 S r q) := hv
    show f_X11_isNamed_b4 self τ (r : Int) v (i : Int) = _
    unfold f_X11_isNamed_b4
    rw [hM.1]
    by_cases h : i < sn S
    · obtain ⟨b0, b1, b2, b3, b4, b5, b6⟩ := hM.2.2.2.1 i h
      have gi : 0 ≤ (i : Int) ∧ (i : Int) < 200 := ⟨by omega, by omega⟩
      have s01 := (hW.2.1 i h).2.2.1
      have ki := (hW.2.1 i h)
      have nx : ∀ v : Int, v = xb (∃ q, q < i + 1 ∧ nmd1 S r q) → self τ (r : Int) v (xm_w ((i : Int) + 1)) = some (τ, xb (nmd S r)) := by
        intro v hv
        rw [xw1 (by omega)]
        exact ih (v, i + 1) ⟨h, hv⟩ (by show sn S - (i + 1) < sn S - i; omega)
      have keep : ¬ nmd1 S r i → xb (∃ q, q < i ∧ nmd1 S r q) = xb (∃ q, q < i + 1 ∧ nmd1 S r q) := fun z => xb_congr ⟨fun ⟨q, q1, q2⟩ => ⟨q, by omega, q2⟩, fun ⟨q, q1, q2⟩ => ⟨q, by
        have : q ≠ i := fun y => z (y ▸ q2)
        omega, q2⟩⟩
      have yes : nmd1 S r i → (1 : Int) = xb (∃ q, q < i + 1 ∧ nmd1 S r q) := fun z => by rw [xb_pos ⟨i, by omega, z⟩]
      have old : xb (∃ q, q < i ∧ nmd1 S r q) ≠ 0 → (1 : Int) = xb (∃ q, q < i + 1 ∧ nmd1 S r q) := fun z => by
        by_cases y : ∃ q, q < i ∧ nmd1 S r q
        · obtain ⟨q, q1, q2⟩ := y
          rw [xb_pos ⟨q, by omega, q2⟩]
        · exact absurd (xb_neg y) z
      have zer : xb (∃ q, q < i ∧ nmd1 S r q) = 0 → ¬ nmd1 S r i → (0 : Int) = xb (∃ q, q < i + 1 ∧ nmd1 S r q) := fun y z => by rw [← keep z, y]
      have one : xb (∃ q, q < i ∧ nmd1 S r q) ≠ 0 → xb (∃ q, q < i ∧ nmd1 S r q) = xb (∃ q, q < i + 1 ∧ nmd1 S r q) := fun z => by
        rw [← old z]
        exact (xb_01 _).resolve_left z
      rw [← hv] at keep old zer one
      rw [if_pos (by omega)]
      by_cases ir : i = r
      · rw [if_pos (show (i : Int) = (r : Int) by omega)]
        exact nx _ (keep (fun z => z.1 ir))
      · rw [if_neg (show ¬ (i : Int) = (r : Int) by omega), if_pos gi, Int.toNat_natCast, b6]
        by_cases s0 : wS S i = 0
        · rw [if_pos s0]; exact nx _ (keep (fun z => by have := z.2.1; omega))
        · rw [if_neg s0, if_pos gi, b0, xvl]
          have s1 : wS S i = 1 := by omega
          -- the second half: titles
          have j140 : ∀ v' : Int, (v' = 0 → v = 0) → (v' = 0 → ¬ (wK S r = 0 ∧ nmP S i (w1 S r))) → (v' ≠ 0 → v' = xb (∃ q, q < i + 1 ∧ nmd1 S r q) ∧ (1 : Int) = xb (∃ q, q < i + 1 ∧ nmd1 S r q)) → f_X11_isNamed_j140 self τ (r : Int) v' (i : Int) (wK S i) = some (τ, xb (nmd S r)) := by
            intro v' h0 h1 h2
            unfold f_X11_isNamed_j140
            simp only [if_pos gr, if_pos gi, Int.toNat_natCast, a0, a3, b3]
            by_cases c4 : wK S r = 4
            · rw [if_pos c4]
              by_cases z : v' = 0
              · rw [if_pos z]
                by_cases c5 : wK S i < 5
                · rw [if_pos c5]
                  refine nx _ (zer (h0 z) (fun y => ?_))
                  rcases y.2.2 with y | y
                  · exact h1 z y
                  · have e4 : wK S i = 4 := by omega
                    have u1 := (kr.2.2.2.2.2.2.2.1 c4).2.1
                    have u2 := (ki.2.2.2.2.2.2.2.1 e4).2.1
                    rw [y.2.2] at u2
                    exact ir (u2.2.2.symm.trans u1.2.2)
                · rw [if_neg c5]
                  by_cases cw : w2 S i = w2 S r
                  · rw [if_pos cw]; exact nx _ (yes ⟨ir, s1, Or.inr ⟨c4, by omega, cw⟩⟩)
                  · rw [if_neg cw]
                    exact nx _ (zer (h0 z) (fun y => y.2.2.elim (h1 z) (fun y => cw y.2.2)))
              · rw [if_neg z]; exact nx _ (h2 z).2
            · rw [if_neg c4]
              by_cases z : v' = 0
              · rw [z]
                exact nx _ (zer (h0 z) (fun y => y.2.2.elim (h1 z) (fun y => c4 y.1)))
              · exact nx _ (h2 z).1
          have j59 : ∀ s0 : Int, (s0 = 0 ↔ ¬ (wK S i = 0 ∨ wK S i = 1 ∨ wK S i = 2)) → f_X11_isNamed_j59 self τ s0 (r : Int) v (i : Int) (wK S i) = some (τ, xb (nmd S r)) := by
            intro s0 hs0
            unfold f_X11_isNamed_j59 f_X11_isNamed_j94 f_X11_isNamed_j114 f_X11_isNamed_j134 f_X11_isNamed_j138 f_X11_isNamed_j139
            simp only [if_pos gr, if_pos gi, Int.toNat_natCast, a0, a2, b2, b3, b4]
            by_cases c0 : wK S r = 0
            · rw [if_pos c0]
              have u1 := (kr.2.2.2.2.1 c0).1
              have npe := nmP_eq hW h (x := w1 S r) u1.1 (fun z y => by
                have u2 := (ki.2.2.2.2.1 z).1
                rw [y] at u2
                exact ir (u2.2.2.symm.trans u1.2.2))
              by_cases z : v = 0
              · rw [if_pos z]
                have Y : nmP S i (w1 S r) → f_X11_isNamed_j140 self τ (r : Int) 1 (i : Int) (wK S i) = some (τ, xb (nmd S r)) := fun y => by
                  have := yes ⟨ir, s1, Or.inl ⟨c0, y⟩⟩
                  exact j140 1 (fun w => absurd w (by decide)) (fun w => absurd w (by decide)) (fun _ => ⟨this, this⟩)
                have N : ¬ nmP S i (w1 S r) → f_X11_isNamed_j140 self τ (r : Int) 0 (i : Int) (wK S i) = some (τ, xb (nmd S r)) := fun y => j140 0 (fun _ => z) (fun _ w => y w.2) (fun w => absurd rfl w)
                by_cases k0 : wK S i = 0
                · rw [if_pos k0, if_neg (show ¬ s0 = 0 from fun w => hs0.mp w (Or.inl k0))]
                  by_cases d2 : w2 S i = w1 S r
                  · rw [if_pos d2]; exact Y (npe.mpr (Or.inr (Or.inl ⟨Or.inl k0, d2⟩)))
                  · rw [if_neg d2, if_pos k0]
                    by_cases d3 : w3 S i = w1 S r
                    · rw [if_pos d3]; exact Y (npe.mpr (Or.inr (Or.inr ⟨k0, d3⟩)))
                    · rw [if_neg d3]
                      exact N (fun w => by rcases npe.mp w with w | w | w; exact w.1 k0; exact d2 w.2; exact d3 w.2)
                · rw [if_neg k0]
                  by_cases d1 : w1 S i = w1 S r
                  · rw [if_pos d1]; exact Y (npe.mpr (Or.inl ⟨k0, d1⟩))
                  · rw [if_neg d1]
                    by_cases s2 : s0 = 0
                    · rw [if_pos s2, if_neg k0]
                      have := hs0.mp s2
                      exact N (fun w => by rcases npe.mp w with w | w | w; exact d1 w.2; exact this w.1; exact k0 w.1)
                    · rw [if_neg s2]
                      have k12 : wK S i = 0 ∨ wK S i = 1 ∨ wK S i = 2 := Decidable.not_not.mp (fun w => s2 (hs0.mpr w))
                      by_cases d2 : w2 S i = w1 S r
                      · rw [if_pos d2]; exact Y (npe.mpr (Or.inr (Or.inl ⟨k12, d2⟩)))
                      · rw [if_neg d2, if_neg k0]
                        exact N (fun w => by rcases npe.mp w with w | w | w; exact d1 w.2; exact d2 w.2; exact k0 w.1)
              · rw [if_neg z]
                exact j140 1 (fun w => absurd w (by decide)) (fun w => absurd w (by decide)) (fun _ => ⟨old z, old z⟩)
            · rw [if_neg c0]
              exact j140 v id (fun _ w => c0 w.1) (fun w => ⟨one w, old w⟩)
          unfold f_X11_isNamed_j54
          by_cases k0 : wK S i = 0
          · rw [if_pos k0]; exact j59 1 ⟨fun w => absurd w (by decide), fun w => absurd (Or.inl k0) w⟩
          · rw [if_neg k0]
            by_cases k1 : wK S i = 1
            · rw [if_pos k1]; exact j59 1 ⟨fun w => absurd w (by decide), fun w => absurd (Or.inr (Or.inl k1)) w⟩
            · rw [if_neg k1]
              by_cases k2 : wK S i = 2
              · rw [if_pos k2]; exact j59 1 ⟨fun w => absurd w (by decide), fun w => absurd (Or.inr (Or.inr k2)) w⟩
              · rw [if_neg k2]; exact j59 0 ⟨fun _ w => w.elim k0 (fun w => w.elim k1 k2), fun _ => rfl⟩
    · rw [if_neg (by omega)]
      have ei : i = sn S := by omega
      subst ei
      rw [hv]
      rfl
end XS
