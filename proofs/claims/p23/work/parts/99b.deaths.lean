/-! ===== the first deaths ===== -/
theorem and31 (x : Int) : 0 ≤ xm_and x 2147483647 ∧ xm_and x 2147483647 ≤ 2147483647 := by
  have hlt : ((xm_J x).toBitVec &&& (xm_J ((2147483647 : Nat) : Int)).toBitVec).toNat < 2147483648 := by
    rw [BitVec.toNat_and, J_nat (by decide), BitVec.toNat_ofNat]
    exact Nat.lt_of_le_of_lt Nat.and_le_right (by decide)
  have e : xm_and x 2147483647 = ((((xm_J x).toBitVec &&& (xm_J ((2147483647 : Nat) : Int)).toBitVec).toNat : Nat) : Int) := by
    show ((xm_J x).toBitVec &&& (xm_J ((2147483647 : Nat) : Int)).toBitVec).toInt = _
    exact BitVec.toInt_eq_toNat_of_lt (by omega)
  rw [e]
  omega
theorem rem_nat {a n : Int} (ha : 0 ≤ a ∧ a ≤ 2147483647) (hn : 0 < n ∧ n ≤ 100000) : 0 ≤ xm_rem a n ∧ xm_rem a n < n := by
  have e0 : xm_rem a n = xm_w (a - xm_w (xm_div a n * n)) := by
    unfold xm_rem xm_div
    have h1 : xm_J a / xm_J n = xm_J ((xm_J a / xm_J n).toInt) := (xm_J_of _).symm
    rw [h1, xm_J_mul, xm_J_sub, xm_J_toInt (xm_w_in _), xm_J_of]
  have e1 : xm_div a n = a / n := by
    unfold xm_div
    rw [Int32.toInt_div, xm_J_toInt ⟨by omega, by omega⟩, xm_J_toInt ⟨by omega, by omega⟩, Int.tdiv_eq_ediv_of_nonneg (by omega)]
    have h1 : 0 ≤ a / n := Int.ediv_nonneg (by omega) (by omega)
    have h2 : a / n ≤ a := Int.ediv_le_self _ (by omega)
    apply Int.bmod_eq_of_le <;> omega
  have h3 := Int.emod_add_mul_ediv a n
  have h4 := Int.emod_nonneg a (b := n) (by omega)
  have h5 := Int.emod_lt_of_pos a (b := n) (by omega)
  have h6 : a / n * n = n * (a / n) := Int.mul_comm _ _
  have h7 : 0 ≤ a / n := Int.ediv_nonneg (by omega) (by omega)
  have h8 : 0 ≤ n * (a / n) := Int.mul_nonneg (by omega) h7
  rw [e0, e1, h6]
  generalize n * (a / n) = y at h3 h8 ⊢
  rw [xp_w (x := y) (by omega) (by omega), xp_w (by omega) (by omega)]
  omega
/-- what low answers -/
theorem low_rg (x : Int) {n : Int} (hn : 0 < n ∧ n ≤ 100000) : 0 ≤ xm_rem (xm_and x 2147483647) n ∧ xm_rem (xm_and x 2147483647) n < n := rem_nat (and31 x) hn
section XE5
variable {fr ρ : Int} {cl : Nat → Int}
/-- the days in the law's array -/
def DY (σ : xm_Mem) (S : xS) : Prop := ∀ p : Nat, p < sp S → σ.1 87 p = wBorn S (p : Int) ∧ 0 ≤ wBorn S (p : Int) ∧ wBorn S (p : Int) ≤ 90000
theorem dy_kp {σ σ1 : xm_Mem} {S : xS} (h : DY σ S) (k : KP σ σ1) : DY σ1 S := fun p hp => by rw [k 87 p (by omega)]; exact h p hp
theorem tw_ad3 {S : xS} {D p : Int} (h : TW S fr ρ) (hF : FM (adR S 3 D p (-1) (-1) 0)) : TW (adR S 3 D p (-1) (-1) 0) fr ρ := by
  have h0 : 0 < stn S := by rw [h.2.1]; decide
  have et : stb (adR S 3 D p (-1) (-1) 0) 0 = stb S 0 := ad_t h0
  have hlt := (h.1.1.1.2.2.2 0 h0).1
  obtain ⟨o1, o2, o3, o4, o5, o6, o7⟩ := ad_old (K := 3) (D := D) (a := p) (b := -1) (c := -1) (w := 0) (S := S) (q := stb S 0) (by omega)
  refine ⟨hF, h.2.1, ⟨?_, ?_, ?_⟩, h.2.2.2.1, ?_⟩
  · have := h.2.2.1.1
    unfold ow at this ⊢
    rw [et, o3]; exact this
  · have := h.2.2.1.2.1
    unfold oD at this ⊢
    rw [et, o2]; exact this
  · have := h.2.2.1.2.2
    unfold rl at this ⊢
    rw [et, o6]; exact this
  · have h0P := tw_0 h
    exact (ad_b h.1.1.1 ⟨h0P.1, h0P.2.1⟩).2.2.2.mpr h.2.2.2.2
theorem dy_ad3 {σ : xm_Mem} {S : xS} {D p : Int} (hW : WF S) (h : DY σ S) : DY σ (adR S 3 D p (-1) (-1) 0) := fun q hq => by
  have hq' : q < sp S := hq
  rw [(ad_b hW (p := (q : Int)) ⟨by omega, by omega⟩).1]
  exact h q hq'
/-- one more of the first deaths: taken or refused -/
theorem dth_one {S : xS} {A : Nat → Nat} {n : Nat} {m : Nat → Int64} {e : Nat → Nat} {σ : xm_Mem} {D p : Int} (hW : LV σ S A n m e) (hT : TW S fr ρ) (hY : DY σ S) (hX : ∀ r, r < sn S → wD S r ≤ 95000) (hx : xm_nxt σ) (hc : σ.2.2 < 100000) (hD : 0 ≤ D ∧ D ≤ 95000) (hp : isP S p) (hsn : sn S < 200) :
    (∃ (σ1 : xm_Mem) (S' : xS) (A' : Nat → Nat) (n' : Nat) (m' : Nat → Int64) (e' : Nat → Nat), f_L_tell (xm_aps σ 89 0 (xm_tP 3 D.toNat p.toNat (-1))) = some (σ1, (sn S : Int)) ∧ (LV σ1 S' A' n' m' e' ∧ KP σ σ1 ∧ σ1.2.2 = σ.2.2 + 1) ∧ (TW S' fr ρ ∧ DY σ1 S' ∧ sn S' = sn S + 1 ∧ sp S' = sp S ∧ ∀ r, r < sn S' → wD S' r ≤ 95000)) ∨
    (∃ σ1 : xm_Mem, f_L_tell (xm_aps σ 89 0 (xm_tP 3 D.toNat p.toNat (-1))) = some (σ1, -9) ∧ (LV σ1 S A n m e ∧ KP σ σ1 ∧ σ1.2.2 = σ.2.2 + 1) ∧ σ1.1 1 8 = 5) := by
  have h64 := (isP_rg hT.1.1.1 hp).2.2
  have hkw : kwn S 3 p (-1) (-1) := ⟨fun z => absurd z (by decide), fun _ => hp, fun z => absurd z (by decide), fun z => absurd z (by decide)⟩
  have hrm : rom S 3 := ⟨hsn, fun z => absurd z (by decide), fun z => absurd z (by decide)⟩
  have ho : rdO 3 D p (-1) (-1) 0 := ⟨⟨by decide, by decide⟩, ⟨hD.1, by omega⟩, ⟨by decide, by decide⟩, fun z => absurd z (by decide), fun z => absurd z (by decide), fun _ => ⟨hp.1, rfl, rfl⟩, fun z => absurd z (by decide)⟩
  have ht := txt_dead (D := D) (p := p) ⟨hD.1, by omega⟩ ⟨hp.1, by omega⟩
  by_cases hf : fstB (breaks (adR S 3 D p (-1) (-1) 0)) 9 1 = 0
  · obtain ⟨σ1, A', n', m', e', t1, t2, t3, t4⟩ := to_ok hW hx hc ht hkw hrm hf
    refine Or.inl ⟨σ1, _, A', n', m', e', t1, ⟨t2, t3, t4⟩, tw_ad3 hT (ad_FM hT.1 ho hkw hrm (Or.inr (Or.inr (Or.inl rfl))) hf), dy_ad3 hT.1.1.1 (dy_kp hY t3), rfl, rfl, fun r hr => ?_⟩
    have hr2 : r < sn S + 1 := hr
    by_cases er : r = sn S
    · subst er
      rw [ad_new.2.1]; exact hD.2
    · rw [(ad_old er).2.1]
      exact hX r (by omega)
  · obtain ⟨σ1, t1, t2, t3, t4, t5, _⟩ := to_no hW hx hc ht hkw hrm hf
    exact Or.inr ⟨σ1, t1, ⟨t2, t3, t4⟩, t5⟩
theorem l462_ok {K : xm_Mem → Int → Option xm_Out} {el : Int} {N6 : Nat} (hsp1 : 1 ≤ N6 ∧ N6 ≤ 22)
    (hK : ∀ (σ : xm_Mem) (S : xS) (A : Nat → Nat) (n : Nat) (m : Nat → Int64) (e : Nat → Nat), LV σ S A n m e → TW S fr ρ → (∀ r, r < sn S → wD S r ≤ 95000) → sn S ≤ 150 → sp S = N6 → 110 ≤ σ.2.2 → σ.2.2 ≤ 80000 → σ.1 109 0 = 0 → σ.1 109 1 = el → (σ.2.2 : Int) - 20 = el → Sm (K σ fr)) : ∀ (r k : Nat), k + r = 6 → ∀ (σ : xm_Mem) (S : xS) (A : Nat → Nat) (n : Nat) (m : Nat → Int64) (e : Nat → Nat), LV σ S A n m e → TW S fr ρ → DY σ S → (∀ r, r < sn S → wD S r ≤ 95000) → sn S + r ≤ 150 → sp S = N6 → 110 ≤ σ.2.2 → σ.2.2 + r ≤ 80000 → σ.1 109 0 = 0 → σ.1 109 1 = el → (σ.2.2 : Int) + r - 20 = el → ∀ N, r < N → Sm (f_L_law_l462 cl K N σ (N6 : Int) fr (k : Int)) := by
  intro r
  induction r with
  | zero =>
    intro k hk σ S A n m e hW hT hY hX hsn hsp h110 hcap h0 h1 h2 N hN
    obtain ⟨N, rfl⟩ : ∃ M, N = M + 1 := ⟨N - 1, by omega⟩
    show Sm (f_L_law_b462 cl K (f_L_law_l462 cl K N) σ (N6 : Int) fr (k : Int))
    unfold f_L_law_b462
    exact sm_no (by omega) (hK σ S A n m e hW hT hX (by omega) hsp h110 (by omega) h0 h1 (by omega))
  | succ r ih =>
    intro k hk σ S A n m e hW hT hY hX hsn hsp h110 hcap h0 h1 h2 N hN
    obtain ⟨N, rfl⟩ : ∃ M, N = M + 1 := ⟨N - 1, by omega⟩
    show Sm (f_L_law_b462 cl K (f_L_law_l462 cl K N) σ (N6 : Int) fr (k : Int))
    unfold f_L_law_b462
    have ew : xm_w ((12 : Int) + (k : Int)) = 12 + (k : Int) := xp_w (by omega) (by omega)
    rw [ew]
    refine sm_if (by omega) (sm_if ⟨by omega, by omega⟩ ?_)
    generalize cl ((12 : Int) + (k : Int)).toNat = cv
    show Sm (if 0 < (N6 : Int) ∧ (N6 : Int) ≤ 100000 then _ else none)
    refine sm_if ⟨by omega, by omega⟩ ?_
    have hp := low_rg (xm_shr cv (3 : Int)) (n := (N6 : Int)) ⟨by omega, by omega⟩
    generalize xm_rem (xm_and (xm_shr cv (3 : Int)) 2147483647) (N6 : Int) = p at hp ⊢
    show Sm (if 0 ≤ p ∧ p < 24 then _ else none)
    refine sm_if ⟨by omega, by omega⟩ (sm_if ⟨by decide, by decide⟩ ?_)
    have hl := low_rg (xm_shr cv (8 : Int)) (n := 95000) ⟨by decide, by decide⟩
    generalize xm_rem (xm_and (xm_shr cv (8 : Int)) 2147483647) (95000 : Int) = lo at hl ⊢
    have hdy := hY p.toNat (by omega)
    have hD : 0 ≤ xm_min (95000 : Int) (xm_w (σ.1 87 p.toNat + lo)) ∧ xm_min (95000 : Int) (xm_w (σ.1 87 p.toNat + lo)) ≤ 95000 := by
      rw [hdy.1, xp_w (by omega) (by omega)]
      unfold xm_min
      split <;> omega
    generalize xm_min (95000 : Int) (xm_w (σ.1 87 p.toNat + lo)) = D at hD ⊢
    have hP : isP S p := (fm_P hT.1 p).mpr ⟨hp.1, by omega⟩
    have hx : xm_nxt σ := Or.inr ⟨h110, by omega, Or.inr (by omega)⟩
    refine sm_if ⟨hW.2.2.2, ⟨hD.1, by omega⟩, ⟨hp.1, by omega⟩, ⟨by decide, by decide⟩⟩ ?_
    show Sm ((f_L_tell (xm_aps σ 89 0 (xm_tP 3 D.toNat p.toNat (-1)))).bind _)
    have ek : xm_w ((k : Int) + 1) = ((k + 1 : Nat) : Int) := by rw [xp_w (by omega) (by omega)]; omega
    rcases dth_one hW hT hY hX hx (by omega) hD hP (by omega) with ⟨σ1, S', A', n', m', e', t1, ⟨t2, t3, t4⟩, u1, u2, u3, u4, u5⟩ | ⟨σ1, t1, ⟨t2, t3, t4⟩, t5⟩
    · refine sm_b t1 (sm_if ⟨by rw [xm_aps_2]; exact t4, by show σ1.2.2 ≤ 100000; omega⟩ (sm_no (by show ¬ ((sn S : Nat) : Int) < 0; omega) ?_))
      rw [ek]
      exact ih (k + 1) (by omega) σ1 S' A' n' m' e' t2 u1 u2 u5 (by omega) (by omega) (by omega) (by omega) (by rw [t3 109 0 (by omega)]; exact h0) (by rw [t3 109 1 (by omega)]; exact h1) (by omega) N (by omega)
    · refine sm_b t1 (sm_if ⟨by rw [xm_aps_2]; exact t4, by show σ1.2.2 ≤ 100000; omega⟩ (sm_if (show (-9 : Int) < 0 by decide) ?_))
      show Sm ((f_X10_status σ1).bind _)
      refine sm_b (show f_X10_status σ1 = some (σ1, σ1.1 1 8) from rfl) (sm_if rfl (sm_if t5 ?_))
      rw [ek]
      exact ih (k + 1) (by omega) σ1 S A n m e t2 hT (dy_kp hY t3) hX (by omega) hsp (by omega) (by omega) (by rw [t3 109 0 (by omega)]; exact h0) (by rw [t3 109 1 (by omega)]; exact h1) (by omega) N (by omega)
end XE5
