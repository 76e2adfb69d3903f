/-! ===== the family's loop ===== -/
section XE9
variable {cl : Nat → Int}
theorem prt_ok {S : xS} (hB : BW S) {p : Int} (hp : isP S p) {d : Int} : prt S p d < 0 ∨ (isP S (prt S p d) ∧ wBorn S (prt S p d) + 4000 ≤ d ∧ (wMale S p ↔ ¬ wMale S (prt S p d))) := by
  unfold prt
  have hs := fsx_spec (opU S p d) (sn S)
  by_cases hl : fsx (opU S p d) (sn S) < sn S
  · rw [if_pos hl]
    obtain ⟨r1, r2, r3, r4, r5⟩ := hs.2.1 hl
    generalize fsx (opU S p d) (sn S) = r at hl r1 r2 r3 r4 r5
    have hnm := hB.1.1.2.1 r hl r1
    have p1 := hnm.2.1 (by omega)
    have p2 := hnm.2.2.1 (Or.inl r2)
    have g1 : hB1 S r := hB.1.1.hold (b := 1) (by decide) hl r1
    have g5 : hB5 S r := hB.1.1.hold (b := 5) (by decide) hl r1
    have m1 := g1.2 (Or.inl r2)
    have a1 := g5 (Or.inl r2)
    have b1 := a1.1.1
    have b2 := a1.2.1
    refine Or.inr ?_
    by_cases e : w1 S r = p
    · rw [if_pos e, ← e]
      exact ⟨p2, by omega, fun _ => m1.2, fun _ => m1.1⟩
    · rw [if_neg e, ← r3.resolve_left e]
      exact ⟨p1, by omega, fun z => absurd z m1.2, fun z => absurd m1.1 z⟩
  · rw [if_neg hl]
    exact Or.inl (by decide)
theorem l121_ok {K : xm_Mem → Int → Option xm_Out} {el : Int}
    (hK : ∀ (σ : xm_Mem) (S : xS) (A : Nat → Nat) (n : Nat) (m : Nat → Int64) (e : Nat → Nat), LV σ S A n m e → FA σ S → (1 ≤ sp S ∧ sp S ≤ 22) → sn S ≤ 100 → 110 ≤ σ.2.2 → σ.2.2 ≤ 60000 → σ.1 109 0 = 0 → σ.1 109 1 = el → (σ.2.2 : Int) + 7 - 20 = el → Sm (K σ (sp S : Int))) : ∀ (r k : Nat), k + r = 10 → ∀ (σ : xm_Mem) (S : xS) (A : Nat → Nat) (n : Nat) (m : Nat → Int64) (e : Nat → Nat), LV σ S A n m e → FA σ S → (2 ≤ sp S ∧ sp S ≤ 2 + 2 * k) → sn S ≤ 3 + 3 * k → 110 ≤ σ.2.2 → σ.2.2 ≤ 200 + 3 * k → σ.1 109 0 = 0 → σ.1 109 1 = el → (σ.2.2 : Int) + simR cl r k S + 7 - 20 = el → ∀ N, r < N → Sm (f_L_law_l121 cl K N σ (sp S : Int) (k : Int)) := by
  intro r
  induction r with
  | zero =>
    intro k hk σ S A n m e hW hF hsp hsn h110 hcap h0 h1 h2 N hN
    obtain ⟨N, rfl⟩ : ∃ M, N = M + 1 := ⟨N - 1, by omega⟩
    show Sm (f_L_law_b121 cl K (f_L_law_l121 cl K N) σ (sp S : Int) (k : Int))
    unfold f_L_law_b121
    have h2' : (σ.2.2 : Int) + ((0 : Nat) : Int) + 7 - 20 = el := h2
    exact sm_no (by omega) (hK σ S A n m e hW hF ⟨by omega, by omega⟩ (by omega) h110 (by omega) h0 h1 (by omega))
  | succ r ih =>
    intro k hk σ S A n m e hW hF hsp hsn h110 hcap h0 h1 h2 N hN
    obtain ⟨N, rfl⟩ : ∃ M, N = M + 1 := ⟨N - 1, by omega⟩
    show Sm (f_L_law_b121 cl K (f_L_law_l121 cl K N) σ (sp S : Int) (k : Int))
    have h2' : (σ.2.2 : Int) + (((simB cl k S).2 + simR cl r (k + 1) (simB cl k S).1 : Nat) : Int) + 7 - 20 = el := h2
    clear h2
    have hp := low_rg (xm_shr (cl k) (4 : Int)) (n := (sp S : Int)) ⟨by omega, by omega⟩
    have hl := low_rg (xm_shr (cl k) (12 : Int)) (n := 9000) ⟨by decide, by decide⟩
    have hPP : isP S (iP cl k S) := (fm_P hF.1.1 _).mpr hp
    have hY := hF.2.1 (iP cl k S).toNat (by unfold iP; omega)
    have hX := hF.2.2.1 (iP cl k S).toNat (by unfold iP; omega)
    have epn : (((iP cl k S).toNat : Nat) : Int) = iP cl k S := by have := hp.1; unfold iP; omega
    rw [epn] at hY hX
    have eO : xm_w (xm_w (σ.1 87 (iP cl k S).toNat + (4300 : Int)) + xm_rem (xm_and (xm_shr (cl k) (12 : Int)) 2147483647) (9000 : Int)) = iO cl k S := by
      unfold iO
      rw [hY.1, xp_w (x := wBorn S (iP cl k S) + 4300) (by omega) (by omega), xp_w (by omega) (by omega)]
    have hO : wBorn S (iP cl k S) + 4300 ≤ iO cl k S ∧ iO cl k S < wBorn S (iP cl k S) + 13300 := by
      unfold iO; omega
    have ek : xm_w ((k : Int) + 1) = ((k + 1 : Nat) : Int) := by rw [xp_w (by omega) (by omega)]; omega
    have hp2 : 0 ≤ iP cl k S ∧ iP cl k S < 24 := by have := hp.1; have := hp.2; unfold iP; omega
    have hpr := prt_ok hF.1 hPP (d := iO cl k S - 200)
    unfold f_L_law_b121
    refine sm_if (by omega) (sm_if ⟨by omega, by omega⟩ ?_)
    rw [Int.toNat_natCast]
    show Sm (if 0 < (sp S : Int) ∧ (sp S : Int) ≤ 100000 then _ else none)
    refine sm_if ⟨by omega, by omega⟩ ?_
    have hfold : xm_rem (xm_and (xm_shr (cl k) (4 : Int)) 2147483647) (sp S : Int) = iP cl k S := rfl
    rw [hfold]
    show Sm (if 0 ≤ iP cl k S ∧ iP cl k S < 24 then _ else none)
    refine sm_if hp2 (sm_if ⟨by decide, by decide⟩ ?_)
    rw [eO]
    show Sm (if (90000 : Int) < iO cl k S then (f_L_law_l121 cl K N σ (sp S : Int) (xm_w ((k : Int) + 1))) else ((f_X10_partner σ (iP cl k S) (xm_w (iO cl k S - (200 : Int)))).bind _))
    unfold simB at h2'
    clear eO hl hp hfold
    generalize iP cl k S = p at hPP hY hX epn hp2 hpr hO h2' ⊢
    generalize iO cl k S = on at hpr hO h2' ⊢
    by_cases hon : 90000 < on
    · rw [if_pos hon] at h2'
      have h2b : (σ.2.2 : Int) + ((0 + simR cl r (k + 1) S : Nat) : Int) + 7 - 20 = el := h2'
      refine sm_if hon ?_
      rw [ek]
      exact ih (k + 1) (by omega) σ S A n m e hW hF ⟨hsp.1, by omega⟩ (by omega) h110 (by omega) h0 h1 (by omega) N (by omega)
    · rw [if_neg hon] at h2'
      refine sm_no hon ?_
      have ew : xm_w (on - (200 : Int)) = on - 200 := xp_w (by omega) (by omega)
      rw [ew]
      obtain ⟨σ1, a1, a2, a3, a4⟩ := qa_lv hW (k_partner hW.1 hW.2.1 hPP (d := on - 200) ⟨by omega, by omega⟩)
      refine sm_b a1 (sm_if a4 ?_)
      have hF1 : FA σ1 S := ⟨hF.1, dy_kp hF.2.1 a3, sx_kp hF.2.2.1 a3, ru_kp hF.2.2.2 a3⟩
      have f0 : σ1.1 109 0 = 0 := by rw [a3 109 0 (by omega)]; exact h0
      have f1 : σ1.1 109 1 = el := by rw [a3 109 1 (by omega)]; exact h1
      have f87 : σ1.1 87 p.toNat = wBorn S p := by rw [a3 87 _ (by omega)]; exact hY.1
      have f88 : σ1.1 88 p.toNat = bSx S p := by rw [a3 88 _ (by omega)]; exact hX.1
      clear a1 a3 hW hF h0 h1
      show Sm (if prt S p (on - 200) < 0 then _ else _)
      by_cases hq : prt S p (on - 200) < 0
      · rw [if_pos hq] at h2'
        refine sm_if hq (sm_if hp2 (sm_if ⟨by omega, by omega⟩ ?_))
        rw [Int.toNat_natCast]
        show Sm (xm_st (xm_u1 σ1 87 (sp S) (σ1.1 87 p.toNat)) _)
        rw [f87]
        show Sm (if 0 ≤ p ∧ p < 24 then (if (xm_u1 σ1 87 (sp S) (wBorn S p)).1 88 p.toNat = 0 then (f_L_law_j230 cl (f_L_law_l121 cl K N) (xm_u1 σ1 87 (sp S) (wBorn S p)) (1 : Int) (sp S : Int) (sp S : Int) (k : Int) (cl k) p on (sp S : Int)) else (f_L_law_j230 cl (f_L_law_l121 cl K N) (xm_u1 σ1 87 (sp S) (wBorn S p)) (0 : Int) (sp S : Int) (sp S : Int) (k : Int) (cl k) p on (sp S : Int))) else none)
        refine sm_if hp2 ?_
        have h2'' : (σ.2.2 : Int) + ((3 + simR cl r (k + 1) (chS (nwS (spS S p) p (sp S : Int) on) (cl k) p (sp S : Int) on) : Nat) : Int) + 7 - 20 = el := h2'
        have key := j230_ok (cl := cl) (K := f_L_law_l121 cl K N) (k := k) (c := cl k) (p := p) (on := on) a2 hF1 ⟨by omega, by rw [f1]; omega⟩ (by omega) (by omega) (by omega) ⟨by omega, by omega⟩ ⟨hPP, by omega⟩ (by omega) (fun σ2 A2 n2 m2 e2 u1 u2 u3 u4 u5 u6 => by
          have hs1 : sp (chS (nwS (spS S p) p (sp S : Int) on) (cl k) p (sp S : Int) on) = sp (nwS (spS S p) p (sp S : Int) on) + 1 := rfl
          have hs2 : sn (chS (nwS (spS S p) p (sp S : Int) on) (cl k) p (sp S : Int) on) = sn (nwS (spS S p) p (sp S : Int) on) + 1 := rfl
          generalize chS (nwS (spS S p) p (sp S : Int) on) (cl k) p (sp S : Int) on = T at u1 u2 hs1 hs2 h2''
          have e3 : sp S + 2 = sp T := by omega
          rw [e3]
          exact ih (k + 1) (by omega) σ2 T A2 n2 m2 e2 u1 u2 ⟨by omega, by omega⟩ (by omega) (by omega) (by omega) (by rw [u4 0]; exact f0) (by rw [u4 1]; exact f1) (by omega) N (by omega))
        have f88' : (xm_u1 σ1 87 (sp S) (wBorn S p)).1 88 p.toNat = bSx S p := by rw [xm_u1_ne _ _ (by omega)]; exact f88
        by_cases hz : bSx S p = 0
        · rw [if_pos hz] at key
          exact sm_if (by rw [f88']; exact hz) key
        · rw [if_neg hz] at key
          exact sm_no (by rw [f88']; exact hz) key
      · rw [if_neg hq] at h2'
        refine sm_no hq ?_
        have hpr' := hpr.resolve_left hq
        have h2'' : (σ.2.2 : Int) + ((1 + simR cl r (k + 1) (chS S (cl k) p (prt S p (on - 200)) on) : Nat) : Int) + 7 - 20 = el := h2'
        show Sm (f_L_law_j323 cl (f_L_law_l121 cl K N) σ1 (sp S : Int) (k : Int) (cl k) p on (prt S p (on - 200)))
        generalize prt S p (on - 200) = q at hpr' h2'' ⊢
        refine j323_ok (cl := cl) a2 hF1 (Or.inr ⟨by omega, by omega, Or.inr (by rw [f1]; omega)⟩) (by omega) (by omega) (by omega) ⟨by omega, by omega⟩ ⟨hPP, by omega⟩ ⟨hpr'.1, by omega⟩ hpr'.2.2 (by omega) (fun σ2 A2 n2 m2 e2 u1 u2 u3 u4 => ?_)
        have hs1 : sp (chS S (cl k) p q on) = sp S + 1 := rfl
        have hs2 : sn (chS S (cl k) p q on) = sn S + 1 := rfl
        have u1' : LV σ2 (chS S (cl k) p q on) A2 n2 m2 e2 := u1
        have u2' : FA σ2 (chS S (cl k) p q on) := u2
        clear u1 u2
        generalize chS S (cl k) p q on = T at u1' u2' hs1 hs2 h2''
        have e3 : sp S + 1 = sp T := hs1.symm
        rw [e3]
        exact ih (k + 1) (by omega) σ2 T A2 n2 m2 e2 u1' u2' ⟨by omega, by omega⟩ (by omega) (by omega) (by omega) (by rw [u4 0]; exact f0) (by rw [u4 1]; exact f1) (by omega) N (by omega)
/-- the law's body, when its first three are told -/
theorem law_ok {S : xS} {A : Nat → Nat} {n : Nat} {m : Nat → Int64} {e : Nat → Nat} {σ : xm_Mem} {el : Int} (hW : LV σ S A n m e) (hF : FA σ S) (hsp : sp S = 2) (hsn : sn S = 3) (h113 : σ.2.2 = 113) (h0 : σ.1 109 0 = 0) (h1 : σ.1 109 1 = el) (hel : (100 : Int) + simR cl 10 0 S = el) : Sm (f_L_law cl σ) := by
  unfold f_L_law
  rw [show ((2 : Int)) = (sp S : Int) by rw [hsp]; rfl]
  refine l121_ok (cl := cl) (el := el) ?_ 10 0 (by decide) σ S A n m e hW hF ⟨by omega, by omega⟩ (by omega) (by omega) (by omega) h0 h1 (by omega) xm_fuel (xfu (by decide))
  intro σ5 S5 A5 n5 m5 e5 hW5 hF5 hs5 hn5 ha5 hb5 hc5 hd5 he5
  exact ttl_ok (cl := cl) hW5 hF5.1 hF5.2.1 hF5.2.2.2 rfl hs5 hn5 ha5 (by omega) hc5 hd5 he5
end XE9
