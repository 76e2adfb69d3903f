/-! ===== the class: people's questions, unions made anew ===== -/
noncomputable def oL (S : xS) (r : Nat) : Int := lowD (lowD (wNext S r - 1) (lastD S (w1 S r))) (lastD S (w2 S r))
theorem ldx_rg {S : xS} (hW : WF S) (P : Nat → Prop) : ∀ n, n ≤ sn S → -1 ≤ ldx P (wD S) (-1) n ∧ ldx P (wD S) (-1) n ≤ 99999 := by
  intro n
  induction n with
  | zero => intro _; exact ⟨Int.le_refl _, by show (-1 : Int) ≤ 99999; decide⟩
  | succ n ih =>
    intro h
    by_cases p : P n
    · rw [ldx_yes p]; have := hW.day (r := n) (by omega); omega
    · rw [ldx_no p]; exact ih (by omega)
theorem lastD_rg {S : xS} (hW : WF S) (p : Int) : -1 ≤ lastD S p ∧ lastD S p ≤ 99999 := ldx_rg hW _ _ (Nat.le_refl _)
theorem isP_rg {S : xS} (hW : WF S) {p : Int} (h : isP S p) : 0 ≤ p ∧ p < sp S ∧ p < 64 := ⟨h.1, h.2.1, by have := hW.1.2.1; have := h.2.1; omega⟩
section XQ
variable {σ : xm_Mem} {S : xS} {e : Nat → Nat}
theorem isP_sn {S : xS} (hW : WF S) {p : Int} (h : isP S p) : 0 < sn S := Nat.lt_of_le_of_lt (Nat.zero_le _) (hW.2.2.1 p.toNat (by have := h.1; have := h.2.1; omega)).1
theorem PO.at (hP : PO σ S) {p : Int} (h0 : 0 ≤ p) (h1 : p < 64) : σ.1 10 p.toNat = xb (isP S p) ∧ (0 < sn S → σ.1 13 p.toNat = lastD S p) := by
  obtain ⟨q, rfl⟩ : ∃ q : Nat, p = q := ⟨p.toNat, by omega⟩
  have := hP q (by omega)
  exact ⟨this.1, this.2.1⟩
theorem PO.is (hW : WF S) (hP : PO σ S) {p : Int} (h : isP S p) : σ.1 11 p.toNat = wW S (sbb S p.toNat) ∧ σ.1 12 p.toNat = wBorn S p ∧ σ.1 14 p.toNat = wFa S p ∧ σ.1 15 p.toNat = wMo S p := by
  have hr := isP_rg hW h
  obtain ⟨q, rfl⟩ : ∃ q : Nat, p = q := ⟨p.toNat, by omega⟩
  exact (hP q (by omega)).2.2 h
theorem c_bornOn (hW : WF S) (hP : PO σ S) {p : Int} (h : isP S p) : f_X5_bornOn σ p = some (σ, wBorn S p) := by
  have hr := isP_rg hW h
  unfold f_X5_bornOn f_X10_isPersonNumber
  rw [if_neg (by omega), if_pos hr.2.2]
  simp only [Option.bind_some]
  rw [if_neg (by decide), if_pos ⟨hr.1, hr.2.2⟩, (hP.is hW h).2.1]
theorem c_father (hW : WF S) (hP : PO σ S) {p : Int} (h : isP S p) : f_X5_father σ p = some (σ, wFa S p) := by
  have hr := isP_rg hW h
  unfold f_X5_father f_X10_isPersonNumber
  rw [if_neg (by omega), if_pos hr.2.2]
  simp only [Option.bind_some]
  rw [if_neg (by decide), if_pos ⟨hr.1, hr.2.2⟩, (hP.is hW h).2.2.1]
theorem c_mother (hW : WF S) (hP : PO σ S) {p : Int} (h : isP S p) : f_X5_mother σ p = some (σ, wMo S p) := by
  have hr := isP_rg hW h
  unfold f_X5_mother f_X10_isPersonNumber
  rw [if_neg (by omega), if_pos hr.2.2]
  simp only [Option.bind_some]
  rw [if_neg (by decide), if_pos ⟨hr.1, hr.2.2⟩, (hP.is hW h).2.2.2]
theorem c_deadOn (hP : PO σ S) (hz : 0 < sn S) {p : Int} (h0 : 0 ≤ p) (h1 : p < 64) : f_X5_deadOn σ p = some (σ, lastD S p) := by
  unfold f_X5_deadOn f_X10_isPersonNumber
  rw [if_neg (by omega), if_pos h1]
  simp only [Option.bind_some]
  rw [if_neg (by decide), if_pos ⟨h0, h1⟩, (hP.at h0 h1).2 hz]
theorem c_isMale (hW : WF S) (hP : PO σ S) {p : Int} (h : isP S p) : f_X5_isMale σ p = some (σ, xb (wMale S p)) := by
  have hr := isP_rg hW h
  unfold f_X5_isMale wMale
  rw [if_neg (by omega), if_pos hr.2.2, if_pos ⟨hr.1, hr.2.2⟩, (hP.is hW h).1]
  obtain ⟨g1, g2, g3, g4⟩ := hW.p hr.1 hr.2.1
  have := ((hW.2.1 _ g1).2.2.2.2.1 g2).2.2.2
  have := (hW.2.1 _ g1).2.2.2.1
  (repeat' split) <;> first | (rw [xb_pos (by omega)]; done) | (rw [xb_neg (by omega)]; done)
theorem c_has (hW : WF S) (hP : PO σ S) (p : Int) : f_X5_has σ p = some (σ, xb (isP S p)) := by
  unfold f_X5_has
  by_cases h0 : p < 0
  · rw [if_pos h0, xb_neg (fun z => by have := z.1; omega)]
  · rw [if_neg h0]
    by_cases h1 : p < 64
    · rw [if_pos h1, if_pos ⟨by omega, h1⟩, (hP.at (by omega) h1).1, xbi]
      by_cases h : isP S p
      · rw [if_pos h, xb_pos h]
      · rw [if_neg h, xb_neg h]
    · rw [if_neg h1, xb_neg (fun z => h1 (isP_rg hW z).2.2)]
theorem c_isDeadAhead (hP : PO σ S) (hz : 0 < sn S) {p : Int} (h0 : 0 ≤ p) (h1 : p < 64) (d : Int) : f_X5_isDeadAhead σ p d = some (σ, xb (lastD S p ≠ -1 ∧ lastD S p < d)) := by
  unfold f_X5_isDeadAhead
  simp only [c_deadOn hP hz h0 h1, Option.bind_some]
  (repeat' split) <;> first | (exfalso; omega) | (rw [xb_pos (by omega)]; done) | (rw [xb_neg (by omega)]; done)
theorem c_isGrown (hW : WF S) (hP : PO σ S) {p : Int} (h : isP S p) {d : Int} (hd : 0 ≤ d ∧ d ≤ 99999) : f_X5_isGrown σ p d = some (σ, xb (wBorn S p + 4000 ≤ d)) := by
  have hr := isP_rg hW h
  have hb := wBorn_rg hW hr.1 hr.2.1
  have hg : 0 ≤ p ∧ p < 64 := ⟨hr.1, hr.2.2⟩
  unfold f_X5_isGrown
  simp only [c_has hW hP, Option.bind_some, xbi]
  rw [if_pos h, if_pos hg, (hP.is hW h).2.1, xp_w (by omega) (by omega)]
  (repeat' split) <;> first | (exfalso; omega) | (rw [xb_pos (by omega)]; done) | (rw [xb_neg (by omega)]; done)
theorem c_couldAct (hW : WF S) (hP : PO σ S) {p : Int} (h : isP S p) {d g : Int} (hd : 0 ≤ d ∧ d ≤ 99999) (hg : 0 ≤ g ∧ g ≤ 300) : f_X0_couldAct σ p d g = some (σ, xb (wBorn S p + 4000 ≤ d ∧ ¬ (lastD S p ≠ -1 ∧ lastD S p < d - g))) := by
  have hr := isP_rg hW h
  unfold f_X0_couldAct
  simp only [c_isGrown hW hP h hd, Option.bind_some, c_isDeadAhead hP (isP_sn hW h) hr.1 hr.2.2]
  rw [xp_w (by omega) (by omega)]
  simp only [xbi]
  (repeat' split) <;> first | (exfalso; omega) | (rw [xb_pos (by omega)]; done) | (rw [xb_neg (by omega)]; done)
set_option maxRecDepth 20000 in
theorem r7_nextPart (hW : WF S) (hC : CS σ S e) {r : Nat} (hr : r < sn S) (hk : wK S r = 1) : f_X7_nextPart σ (e r : Int) = some (σ, if wNext S r = 100000 then -1 else wNext S r) := by
  unfold f_X7_nextPart f_X7_nextPart_l4
  have hn := hW.n
  obtain ⟨r1, r2, r3, r4, r5⟩ := hC.at hr
  refine it_T (γ := Nat) _ _ (fun (f : xm_Mem → Int → Int → Int → Option xm_Out) i => f σ (e r : Int) (if mnx (isPart S r) (wD S) 100000 i = 100000 then -1 else mnx (isPart S r) (wD S) 100000 i) (i : Int)) (fun i => i ≤ sn S) (fun i => sn S - i) (fun z => z = some (σ, if wNext S r = 100000 then -1 else wNext S r)) ?_ xm_fuel 0 (Nat.zero_le _) (xfu (by omega))
  intro self i hi ih
  show f_X7_nextPart_b4 self σ (e r : Int) (if mnx (isPart S r) (wD S) 100000 i = 100000 then -1 else mnx (isPart S r) (wD S) 100000 i) (i : Int) = _
  unfold f_X7_nextPart_b4
  rw [hC.1.1]
  by_cases h : i < sn S
  · obtain ⟨g1, g2, g3, g4, g5⟩ := hC.at h
    have hrg := wNext_rg hW r i hi
    have hd := hW.day h
    have go : ¬ isPart S r i → self σ (e r : Int) (if mnx (isPart S r) (wD S) 100000 i = 100000 then -1 else mnx (isPart S r) (wD S) 100000 i) (xm_w ((i : Int) + 1)) = some (σ, if wNext S r = 100000 then -1 else wNext S r) := by
      intro q
      have := ih (i + 1) h (by omega)
      rw [mnx_no q] at this
      rw [xw1 (by omega)]
      exact this
    rw [if_pos (by omega), r7_standing hW hC h]
    simp only [Option.bind_some]
    by_cases s : wS S i = 0
    · rw [if_pos s, xvr _ (by decide), if_pos rfl]
      exact go (fun z => by have := z.1; omega)
    · have s1 : wS S i = 1 := by rcases hW.st h with z | z; exact absurd z s; exact z
      rw [if_neg s, xvr _ g4, if_neg g5]
      simp only [if_pos g2, if_pos r2, Int.toNat_natCast, g3.1, g3.2.1, r3.2.1, r3_takesTurnsWith hW hr h r2 r3 g2 g3, Option.bind_some, xbi, xvl]
      by_cases k : wK S i = 2
      · rw [if_pos k]
        by_cases t : sameP S r i
        · rw [if_pos t]
          have tt : w1 S i = w1 S r ∧ w2 S i = w2 S r := by unfold sameP at t; omega
          by_cases d : wD S r < wD S i
          · rw [if_pos d]
            have hp : isPart S r i := ⟨s1, k, tt.1, tt.2, d⟩
            have key : self σ (e r : Int) (mnx (isPart S r) (wD S) 100000 (i + 1)) (xm_w ((i : Int) + 1)) = some (σ, if wNext S r = 100000 then -1 else wNext S r) := by
              have := ih (i + 1) h (by omega)
              have hle := (mnx_le (P := isPart S r) (f := wD S) (a := 100000) (i + 1)).2.1 i (Nat.lt_succ_self i) hp
              rw [if_neg (by omega)] at this
              rw [xw1 (by omega)]
              exact this
            by_cases m : mnx (isPart S r) (wD S) 100000 i = 100000
            · rw [if_pos m, if_pos rfl]
              rw [mnx_succ, if_pos ⟨hp, by omega⟩] at key
              exact key
            · rw [if_neg m, if_neg (by omega)]
              by_cases l : wD S i < mnx (isPart S r) (wD S) 100000 i
              · rw [if_pos l]
                rw [mnx_succ, if_pos ⟨hp, l⟩] at key
                exact key
              · rw [if_neg l]
                rw [mnx_succ, if_neg (fun z => l z.2)] at key
                exact key
          · rw [if_neg d]; exact go (fun z => d z.2.2.2.2)
        · rw [if_neg t]
          exact go (fun z => t (Or.inl ⟨⟨Or.inl hk, Or.inr k⟩, z.2.2.1, z.2.2.2.1⟩))
      · rw [if_neg k]; exact go (fun z => k z.2.1)
  · have q : i = sn S := by omega
    subst q
    rw [if_neg (by omega)]
    rfl
theorem c_earlier (a d : Int) (hd : -1 ≤ d) : f_X9_earlier σ a d = some (σ, lowD a d) := by
  unfold f_X9_earlier lowD xm_min
  (repeat' split) <;> first | rfl | (exfalso; omega)
theorem c_lastDay (hW : WF S) (hC : CS σ S e) (hP : PO σ S) {r : Nat} (hr : r < sn S) (hk : wK S r = 1) : f_X9_lastDay σ (e r : Int) = some (σ, oL S r) := by
  unfold f_X9_lastDay
  obtain ⟨r1, r2, r3, r4, r5⟩ := hC.at hr
  have hrg := wNext_rg hW r _ (Nat.le_refl _)
  have h64 := hW.1.2.1
  obtain ⟨a1, a2, a3⟩ := (hW.2.1 r hr).2.2.2.2.2.1 (Or.inl hk)
  have key : ∀ x, f_X9_lastDay_j21 σ (e r : Int) x = some (σ, lowD (lowD x (lastD S (w1 S r))) (lastD S (w2 S r))) := by
    intro x
    unfold f_X9_lastDay_j21
    simp only [if_pos r2, Int.toNat_natCast, r3.2.2.1, r3.2.2.2.1, if_pos (show wK S r = 1 ∨ wK S r = 2 from Or.inl hk), c_deadOn hP (Nat.lt_of_le_of_lt (Nat.zero_le _) hr) a1.1 (show w1 S r < 64 by omega), c_deadOn hP (Nat.lt_of_le_of_lt (Nat.zero_le _) hr) a2.1 (show w2 S r < 64 by omega), Option.bind_some, c_earlier _ _ (lastD_rg hW _).1]
  rw [r7_nextPart hW hC hr hk]
  simp only [Option.bind_some, xvl]
  unfold oL
  unfold wNext at *
  by_cases m : mnx (isPart S r) (wD S) 100000 (sn S) = 100000
  · rw [if_pos m, if_pos rfl, key, m]
    rfl
  · rw [if_neg m, if_neg (by omega), xp_w (by omega) (by omega), key]
/-- what the class keeps of the unions -/
def UO (σ : xm_Mem) (S : xS) (n : Nat) : Prop := ∃ (m : Nat) (u : Nat → Nat), σ.1 18 4 = (m : Int) ∧ m ≤ n ∧ (∀ j, j < m → (u j < n ∧ wS S (u j) = 1 ∧ wK S (u j) = 1) ∧ σ.1 19 j = w1 S (u j) ∧ σ.1 20 j = w2 S (u j) ∧ σ.1 21 j = wD S (u j) ∧ σ.1 22 j = oL S (u j)) ∧ (∀ i j, i < j → j < m → u i < u j) ∧ ∀ r, r < n → wS S r = 1 → wK S r = 1 → ∃ j, j < m ∧ u j = r
def zU (a : Nat) : Prop := a = 18 ∨ (19 ≤ a ∧ a ≤ 22)
theorem zUC : ∀ a, zU a → zC a := fun a h => by unfold zU at h; unfold zC; omega
theorem PO.fr {σ' : xm_Mem} {A : Nat → Prop} (h : PO σ S) (hf : fr A σ σ') (hA : ∀ a, A a → ¬ zP a) : PO σ' S := by
  intro p hp
  have o : ∀ a k, zP a → σ'.1 a k = σ.1 a k := fun a k z => hf.1 a k (fun w => hA a w z)
  rw [o 10 p (by unfold zP; omega), o 13 p (by unfold zP; omega), o 11 p (by unfold zP; omega), o 12 p (by unfold zP; omega), o 14 p (by unfold zP; omega), o 15 p (by unfold zP; omega)]
  exact h p hp
theorem zUP : ∀ a, zU a → ¬ zP a := fun a h z => by unfold zU at h; unfold zP at z; omega
set_option maxRecDepth 20000 in
theorem r9_rebuild (hW : WF S) (hC : CS σ S e) (hP : PO σ S) : ∃ σ', f_X9_rebuild σ = some (σ', 0) ∧ fr zU σ σ' ∧ UO σ' S (sn S) := by
  unfold f_X9_rebuild f_X9_rebuild_l7
  have hn := hW.n
  rw [xst]
  refine it_T (γ := xm_Mem × Nat) _ _ (fun (f : xm_Mem → Int → Option xm_Out) a => f a.1 (a.2 : Int)) (fun a => (a.2 ≤ sn S ∧ fr zU σ a.1) ∧ UO a.1 S a.2) (fun a => sn S - a.2) (fun z => ∃ σ', z = some (σ', 0) ∧ fr zU σ σ' ∧ UO σ' S (sn S)) ?_ xm_fuel (xm_u1 σ 18 4 0, 0) ⟨⟨Nat.zero_le _, (fr.rf _ _).u1 (Or.inl rfl)⟩, 0, fun _ => 0, rfl, Nat.le_refl _, fun j h => absurd h (Nat.not_lt_zero _), fun i j _ h => absurd h (Nat.not_lt_zero _), fun r h => absurd h (Nat.not_lt_zero _)⟩ (xfu (by show sn S - 0 < _; omega))
  rintro self ⟨τ, i⟩ ⟨⟨hi, hf⟩, hU⟩ ih
  show ∃ σ', f_X9_rebuild_b7 self τ (i : Int) = _ ∧ _
  unfold f_X9_rebuild_b7
  replace hi : i ≤ sn S := hi
  replace hf : fr zU σ τ := hf
  have hC' := hC.fr (hf.mono zUC)
  have hP' := hP.fr hf zUP
  obtain ⟨m, u, u1, u2, u3, u4, u5⟩ := hU
  replace u1 : τ.1 18 4 = (m : Int) := u1
  replace u2 : m ≤ i := u2
  rw [r7_size hC']
  simp only [Option.bind_some]
  by_cases h : i < sn S
  · obtain ⟨g1, g2, g3, g4, g5⟩ := hC'.at h
    have ge := (hC'.2.2.1 i h).2.1
    have idle : ¬ (wS S i = 1 ∧ wK S i = 1) → ∃ σ', self τ (xm_w ((i : Int) + 1)) = some (σ', 0) ∧ fr zU σ σ' ∧ UO σ' S (sn S) := by
      intro q
      rw [xw1 (by omega)]
      refine ih (τ, i + 1) ⟨⟨h, hf⟩, m, u, u1, by show m ≤ i + 1; omega, fun j hj => ?_, u4, fun r hr a b => ?_⟩ (by show sn S - (i + 1) < sn S - i; omega)
      · obtain ⟨v1, v2⟩ := u3 j hj
        exact ⟨⟨by have : u j < i := v1.1; show u j < i + 1; omega, v1.2⟩, v2⟩
      · by_cases w : r = i
        · subst w; exact absurd ⟨a, b⟩ q
        · exact u5 r (by have : r < i + 1 := hr; show r < i; omega) a b
    rw [if_pos (by omega), r7_standing hW hC' h]
    simp only [Option.bind_some]
    by_cases s : wS S i = 0
    · rw [if_pos s, xvr _ (by decide), if_pos rfl]; exact idle (by omega)
    · have s1 : wS S i = 1 := by rcases hW.st h with z | z; exact absurd z s; exact z
      rw [if_neg s, xvr _ g4, if_neg g5]
      simp only [if_pos g2, Int.toNat_natCast, g3.1]
      by_cases k : wK S i = 1
      · rw [if_pos k, u1, if_pos (by omega)]
        have hg : 0 ≤ (m : Int) ∧ (m : Int) < 200 := ⟨by omega, by omega⟩
        have n19 : ¬ e i = 19 := by omega
        have n20 : ¬ e i = 20 := by omega
        have n21 : ¬ e i = 21 := by omega
        have k2 : (if wK S i = 1 ∨ wK S i = 2 then w2 S i else -1) = w2 S i := if_pos (Or.inl k)
        have f3 : fr zU σ (xm_u1 (xm_u1 (xm_u1 τ 19 m (w1 S i)) 20 m (w2 S i)) 21 m (wD S i)) := ((hf.u1 (by unfold zU; omega)).u1 (by unfold zU; omega)).u1 (by unfold zU; omega)
        have hl := c_lastDay hW (hC.fr (f3.mono zUC)) (hP.fr f3 zUP) h k
        simp only [if_pos hg, xst, xobj1, if_pos g2, xu11, n19, n20, n21, false_and, if_false, u1, g3.2.1, g3.2.2.1, g3.2.2.2.1, k2, Int.toNat_natCast, hl, Option.bind_some, show ¬ ((18 : Nat) = 19) by decide, show ¬ ((18 : Nat) = 20) by decide, show ¬ ((18 : Nat) = 21) by decide, show ¬ ((18 : Nat) = 22) by decide]
        rw [xw1 (i := m) (by omega), xw1 (by omega)]
        refine ih (_, i + 1) ⟨⟨h, ((f3.u1 (by unfold zU; omega)).u1 (by unfold zU; omega))⟩, m + 1, fun j => if j = m then i else u j, by simp [xu11], by show m + 1 ≤ i + 1; omega, fun j hj => ?_, fun a b hab hb => ?_, fun r hr a b => ?_⟩ (by show sn S - (i + 1) < sn S - i; omega)
        · by_cases w : j = m
          · subst w
            simp only [if_true]
            refine ⟨⟨Nat.lt_succ_self i, s1, k⟩, ?_⟩
            simp [xu11]
          · obtain ⟨v1, v2⟩ := u3 j (by have : j < m + 1 := hj; omega)
            simp only [if_neg w]
            refine ⟨⟨by have : u j < i := v1.1; show u j < i + 1; omega, v1.2⟩, ?_⟩
            simp [xu11, w]
            exact v2
        · have hb' : b < m + 1 := hb
          by_cases w : b = m
          · subst w
            have : a ≠ b := by omega
            simp only [if_true, if_neg this]
            exact (u3 a hab).1.1
          · have : a ≠ m := by omega
            simp only [if_neg w, if_neg this]
            exact u4 a b hab (by omega)
        · by_cases w : r = i
          · subst w
            exact ⟨m, Nat.lt_succ_self m, by simp⟩
          · obtain ⟨j, j1, j2⟩ := u5 r (by have : r < i + 1 := hr; show r < i; omega) a b
            exact ⟨j, by show j < m + 1; omega, by show (if j = m then i else u j) = r; rw [if_neg (by omega)]; exact j2⟩
      · rw [if_neg k]; exact idle (fun z => k z.2)
  · rw [if_neg (by omega)]
    have ee : i = sn S := by omega
    subst ee
    exact ⟨τ, rfl, hf, m, u, u1, u2, u3, u4, u5⟩
end XQ
