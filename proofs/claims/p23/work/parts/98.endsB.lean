/-! ===== one holder behind another ===== -/
section XE3
variable {fr ρ : Int} {cl : Nat → Int}
theorem j763_ok {S : xS} {A : Nat → Nat} {n : Nat} {m : Nat → Int64} {e : Nat → Nat} {σ : xm_Mem} {D s0 : Int} {L : List Nat} {K : xm_Mem → Int → Int → Int → Int → Int → Int → Int → Option xm_Out} {c : Nat} {x7 x8 x11 x13 x14 : Int} (hT : TW S fr ρ) (hD : 0 ≤ D ∧ D ≤ 99999) (hL : lineA S A n m 0 D = L) (h23 : L.length ≤ 23) (hx : xm_w (x8 + x14) = D) (h1 : holdA S A n m 0 D = s0) (h2 : sncA S A n m 0 D = D) (h3 : (tenN S A n m 0 : Int) = xm_w (x11 + x14)) (hW : LV σ S A n m e) (hA : AR σ L) (hc : σ.2.2 = c)
    (hK : ∀ σ', LV σ' S A n m e → AR σ' L → σ'.2.2 = c → Sm (K σ' x7 x8 (L.length : Int) x11 s0 x13 (xm_w (x14 + 1)))) : Sm (f_L_law_j763 cl K σ s0 x7 x8 (L.length : Int) x11 x13 x14) := by
  have ht := tw_T hT
  unfold f_L_law_j763
  rw [hx]
  obtain ⟨σ1, a1, a2, a3, a4⟩ := qa_lv hW (k_holder hW.1 hW.2.1 ht hD)
  refine sm_b a1 (sm_if a4 (sm_if h1 ?_))
  obtain ⟨σ2, b1, b2, b3, b4⟩ := qa_lv a2 (k_since a2.1 a2.2.1 ht hD)
  refine sm_b b1 (sm_if b4 (sm_if h2 ?_))
  obtain ⟨σ3, c1, c2, c3, c4⟩ := qa_lv b2 (k_tenures b2.1 b2.2.1 ht)
  refine sm_b c1 (sm_if c4 (sm_if h3 ?_))
  refine l816_ok (fr := fr) (ρ := ρ) (c := c) hT hD hL h23 hx (fun σ' hW' hA' hc' => ?_) L.length 0 (by omega) σ3 c2 (ar_kp (ar_kp (ar_kp hA a3) b3) c3) (by rw [c4, b4, a4]; exact hc) xm_fuel (xfu (by omega))
  rw [hx]
  obtain ⟨σ4, d1, d2, d3, d4⟩ := qa_lv hW' (k_line hW'.1 hW'.2.1 ht hD L.length)
  rw [hL, if_neg (by omega)] at d1
  exact sm_b d1 (sm_if d4 (sm_if rfl (hK σ4 d2 (ar_kp hA' d3) (by rw [d4]; exact hc'))))
/-- the holder dies: what is then -/
theorem ld_step {S : xS} {A : Nat → Nat} {n : Nat} {m : Nat → Int64} {e : Nat → Nat} {σ : xm_Mem} {D p : Int} (hLD : LD S fr ρ D p) (hsn : sn S < 200) (hW : LV σ S A n m e) (hx : xm_nxt σ) (hc : σ.2.2 < 100000) (hD0 : 0 ≤ D) (hh : holdA S A n m 0 (D - 1) = p) : ∃ (σ1 : xm_Mem) (S' : xS) (A' : Nat → Nat) (n' : Nat) (m' : Nat → Int64) (e' : Nat → Nat), f_L_tell (xm_aps σ 89 0 (xm_tP 3 D.toNat p.toNat (-1))) = some (σ1, (sn S : Int)) ∧ (LV σ1 S' A' n' m' e' ∧ KP σ σ1 ∧ σ1.2.2 = σ.2.2 + 1) ∧ (TW S' fr ρ ∧ sn S' = sn S + 1 ∧ ∀ r, r < sn S' → wD S' r ≤ D) ∧ holdA S' A' n' m' 0 D = hdI (lineA S' A' n' m' 0 D) ∧ sncA S' A' n' m' 0 D = D ∧ tenN S' A' n' m' 0 = tenN S A n m 0 + 1 ∧ lineA S' A' n' m' 0 D = (lineA S A n m 0 (D - 1)).filter (fun q => dc (((q : Nat) : Int) ≠ p)) ∧ ∀ d, d < D → holdA S' A' n' m' 0 d = holdA S A n m 0 d := by
  obtain ⟨f1, f2, f3, f4⟩ := ld_FM hLD hsn
  have h64 := (isP_rg hLD.1.1.1.1 hLD.2.1).2.2
  obtain ⟨σ1, A', n', m', e', t1, t2, t3, t4⟩ := to_ok hW hx hc (txt_dead (D := D) (p := p) ⟨hD0, hLD.2.2.2.2⟩ ⟨hLD.2.1.1, by omega⟩) f2 f4 f3
  have hA' := t2.1.2.1
  obtain ⟨g1, g2, g3, g4⟩ := ld_all (m := m) (m' := m') hLD hsn hW.1.2.1 hA' hh
  refine ⟨σ1, dd S D p, A', n', m', e', t1, ⟨t2, t3, t4⟩, ⟨ld_TW hLD hsn, rfl, fun r hr => ?_⟩, g1, g2, g3, g4, fun d hd => ld_old (m := m) (m' := m') hLD hsn hW.1.2.1 hA' hh hd⟩
  have hr2 : r < sn S + 1 := hr
  by_cases er : r = sn S
  · subst er
    rw [ad_new.2.1]; exact Int.le_refl _
  · rw [(ad_old er).2.1]
    exact Int.le_of_lt (hLD.2.2.2.1 r (by omega))
theorem l657_ok {K : xm_Mem → Int → Int → Int → Int → Option xm_Out} {had x11 : Int} (hfr : 0 ≤ fr ∧ fr ≤ 99999) (h11 : 0 ≤ x11 ∧ x11 ≤ 1000)
    (hK : ∀ (σ : xm_Mem) (S : xS) (A : Nat → Nat) (n : Nat) (m : Nat → Int64) (e : Nat → Nat), LV σ S A n m e → TW S fr ρ → holdA S A n m 0 99999 = -1 → holdA S A n m 0 99000 = had → Sm (K σ fr 99000 (-1) had)) : ∀ (q i : Nat), 1 ≤ i → q + i ≤ 60 → ∀ (S : xS) (A : Nat → Nat) (n : Nat) (m : Nat → Int64) (e : Nat → Nat) (σ : xm_Mem) (L : List Nat), L.length = q → LV σ S A n m e → TW S fr ρ → lineA S A n m 0 (99000 + (i : Int) - 1) = L → (∀ r, r < sn S → wD S r ≤ 99000 + (i : Int) - 1) → sn S + q < 200 → q ≤ 23 → AR σ L → holdA S A n m 0 99000 = had → (tenN S A n m 0 : Int) = x11 + (i : Int) - 1 → 110 ≤ σ.2.2 → σ.2.2 + q ≤ 90000 → ∀ N, q < N → Sm (f_L_law_l657 cl K N σ fr 99000 (q : Int) x11 (holdA S A n m 0 (99000 + (i : Int) - 1)) had (i : Int)) := by
  intro q
  induction q with
  | zero =>
    intro i hi hqi S A n m e σ L hq hW hT hL hX hsn h23 hA hhad hten h110 hcap N hN
    obtain ⟨N, rfl⟩ : ∃ M, N = M + 1 := ⟨N - 1, by omega⟩
    show Sm (f_L_law_b657 cl K (f_L_law_l657 cl K N) σ fr 99000 ((0 : Nat) : Int) x11 (holdA S A n m 0 (99000 + (i : Int) - 1)) had (i : Int))
    unfold f_L_law_b657
    refine sm_no (by omega) ?_
    have hX2 : (99000 : Int) + (i : Int) - 1 ≤ 99999 := by omega
    obtain ⟨c1, c2, c3, c4⟩ := late_all (m := m) hT hW.1.2.1 hX hX2
    obtain ⟨d1, d2, d3, d4⟩ := late_all (m := m) hT hW.1.2.1 (X := 99999) (fun r hr => by have := hX r hr; omega) (by decide)
    have hL0 : L = [] := List.length_eq_zero_iff.mp hq
    have e1 : holdA S A n m 0 (99000 + (i : Int) - 1) = -1 := by
      rcases c4 with ⟨z, _⟩ | ⟨_, z⟩
      · exact z
      · rw [← c2, hL, hL0] at z
        exact absurd z List.not_mem_nil
    rw [e1]
    exact hK σ S A n m e hW hT (by rw [d1, ← c1]; exact e1) hhad
  | succ q ih =>
    intro i hi hqi S A n m e σ L hq hW hT hL hX hsn h23 hA hhad hten h110 hcap N hN
    obtain ⟨N, rfl⟩ : ∃ M, N = M + 1 := ⟨N - 1, by omega⟩
    show Sm (f_L_law_b657 cl K (f_L_law_l657 cl K N) σ fr 99000 ((q + 1 : Nat) : Int) x11 (holdA S A n m 0 (99000 + (i : Int) - 1)) had (i : Int))
    have hX2 : (99000 : Int) + (i : Int) - 1 ≤ 99999 := by omega
    obtain ⟨c1, c2, c3, c4⟩ := late_all (m := m) hT hW.1.2.1 hX hX2
    have hin : 0 ≤ holdA S A n m 0 (99000 + (i : Int) - 1) ∧ (holdA S A n m 0 (99000 + (i : Int) - 1)).toNat ∈ L := by
      rcases c4 with ⟨_, z⟩ | ⟨z0, z⟩
      · rw [← c2, hL] at z
        rw [z] at hq
        cases hq
      · rw [← c2, hL] at z
        exact ⟨z0, z⟩
    generalize hh : holdA S A n m 0 (99000 + (i : Int) - 1) = h at hin ⊢
    obtain ⟨pl, p1, p2⟩ := mem_getD hin.2
    have eh : h = ((L.getD pl 0 : Nat) : Int) := by rw [p2]; omega
    clear p2
    subst eh
    have hnd : L.Nodup := by rw [← hL, c2]; exact nd_line hW.1.2.1 _ _ _
    have hno : ∀ j, j < pl → L.getD j 0 ≠ L.getD pl 0 := by
      intro j hj z
      have e1 := plc_at hnd (k := j) (by omega)
      have e2 := plc_at hnd p1
      rw [z, e2] at e1
      omega
    -- the death
    generalize hhv : ((L.getD pl 0 : Nat) : Int) = h at hin hh ⊢
    have hmem : h.toNat ∈ line S A n 0 (99000 + (i : Int) - 1) 0 := by rw [← c2, hL]; exact hin.2
    have hP : isP S h := by
      have := line_isP hT.1.1 hW.1.2.1 (tw_0 hT) hmem
      have e : ((h.toNat : Nat) : Int) = h := by omega
      rw [e] at this
      exact this
    have hdead : wDead S h < 0 := by
      have hc := (line_mem.mp hmem).2
      rw [tw_cnt hT hX2] at hc
      have e : ((h.toNat : Nat) : Int) = h := by omega
      rw [e] at hc
      rcases hc.1.2 with z | z
      · exact z
      · unfold wDead at z ⊢
        split at z
        · rename_i hl
          have := hX _ hl
          omega
        · rename_i hl
          rw [if_neg hl]
          decide
    have hLD : LD S fr ρ (99000 + (i : Int)) h := ⟨hT, hP, hdead, fun r hr => by have := hX r hr; omega, by omega⟩
    obtain ⟨σ1, S', A', n', m', e', t1, ⟨t2, t3, t4⟩, ⟨hTW', hsn', hX'⟩, g1, g2, g3, g4, g5⟩ := ld_step hLD (by omega) hW (nxt_flag hA.1 h110 (by omega)) (by omega) (by omega) hh
    have g5 := g5 99000 (by omega)
    rw [hL] at g4
    have h64 := (isP_rg hT.1.1.1 hP).2.2
    clear c1 c2 c3 c4 hLD hdead hP hmem
    obtain ⟨k1, k2⟩ := del_at hnd p1
    rw [hhv] at k1 k2
    have hw1 : xm_w ((99000 : Int) + (i : Int)) = 99000 + (i : Int) := xp_w (by omega) (by omega)
    unfold f_L_law_b657
    refine sm_if (by omega) ?_
    have key := l665_ok (cl := cl) (x7 := fr) (x8 := 99000) (x11 := x11) (x13 := had) (x14 := (i : Int)) hA p1 (by omega) hno (K := fun σ_175 x7_175 x8_175 x10_175 x11_175 x12_175 x13_175 x14_175 x15_175 => if x15_175 = x10_175 then (none) else (@ite _ (xm_gt σ_175 (xm_w (x8_175 + x14_175)) x12_175 (-1 : Int)) (Classical.propDecidable _) (xm_st (xm_aps σ_175 89 0 (xm_tP 3 (xm_w (x8_175 + x14_175)).toNat x12_175.toNat (-1 : Int))) (fun σ179 => (f_L_tell σ179).bind (fun o181 => if o181.1.2.2 = σ179.2.2 + 1 ∧ o181.1.2.2 ≤ 100000 then (if o181.2 < 0 then (none) else (f_L_law_l725 cl (fun σ_194 x7_194 x8_194 x10_194 x11_194 x13_194 x14_194 => if x10_194 = 0 then (f_L_law_j763 cl (f_L_law_l657 cl K N) σ_194 (-1 : Int) x7_194 x8_194 x10_194 x11_194 x13_194 x14_194) else (if σ_194.1 109 0 = 1 ∧ 0 ≤ (0 : Int) ∧ (0 : Int) < 24 then (f_L_law_j763 cl (f_L_law_l657 cl K N) σ_194 (σ_194.1 110 (0 : Int).toNat) x7_194 x8_194 x10_194 x11_194 x13_194 x14_194) else none)) xm_fuel o181.1 x7_175 x8_175 (xm_w (x10_175 + (-1))) x11_175 x13_175 x14_175 x15_175)) else none))) none)) ?_ pl 0 (by omega) xm_fuel (xfu (by omega))
    · rw [hq, hhv] at key
      exact key
    · refine sm_no (by omega) ?_
      rw [hw1, hhv]
      refine sm_if ⟨hW.2.2.2, ⟨by omega, by omega⟩, ⟨hin.1, by omega⟩, ⟨by decide, by decide⟩⟩ ?_
      show Sm ((f_L_tell (xm_aps σ 89 0 (xm_tP 3 (99000 + (i : Int)).toNat h.toNat (-1)))).bind _)
      refine sm_b t1 (sm_if ⟨by rw [xm_aps_2]; exact t4, by show σ1.2.2 ≤ 100000; omega⟩ (sm_no (by show ¬ ((sn S : Nat) : Int) < 0; omega) ?_))
      have ew : xm_w ((L.length : Int) + (-1)) = ((L.length - 1 : Nat) : Int) := by rw [xp_w (by omega) (by omega)]; omega
      rw [ew]
      have hA1 := ar_kp hA t3
      refine l725_ok (c := σ1.2.2) p1 (by omega) (fun σ2 hW2 h9 hcell hc2 => ?_) (L.length - 1 - pl) pl (by omega) (Nat.le_refl _) σ1 t2 hA1.1 (fun j hj => by rw [if_neg (by omega)]; exact hA1.2 j hj) rfl xm_fuel (xfu (by omega))
      have hq1 : L.length - 1 = q := by omega
      rw [hq1]
      have k1' : (lineA S' A' n' m' 0 (99000 + (i : Int))).length = q := by rw [g4]; omega
      have hcell' : ∀ j, j < (lineA S' A' n' m' 0 (99000 + (i : Int))).length → σ2.1 110 j = (((lineA S' A' n' m' 0 (99000 + (i : Int))).getD j 0 : Nat) : Int) := fun j hj => by
        rw [hcell j (by omega), g4, k2 j]
      generalize hL2 : lineA S' A' n' m' 0 (99000 + (i : Int)) = L2 at g1 g4 k1' hcell'
      have eD : (99000 : Int) + ((i + 1 : Nat) : Int) - 1 = 99000 + (i : Int) := by omega
      have hw2 : xm_w ((i : Int) + 1) = ((i + 1 : Nat) : Int) := by rw [xp_w (by omega) (by omega)]; omega
      have hJ : Sm (f_L_law_j763 cl (f_L_law_l657 cl K N) σ2 (hdI L2) fr 99000 (q : Int) x11 had (i : Int)) := by
        have := j763_ok (cl := cl) (K := f_L_law_l657 cl K N) (x7 := fr) (x8 := 99000) (x11 := x11) (x13 := had) (x14 := (i : Int)) (c := σ1.2.2) hTW' (D := 99000 + (i : Int)) ⟨by omega, by omega⟩ hL2 (by omega) hw1 g1 g2 (by rw [xp_w (by omega) (by omega), g3]; omega) hW2 ⟨h9, hcell'⟩ hc2 (fun σ3 hW3 hA3 hc3 => by
          rw [hw2, k1', ← g1, ← eD]
          exact ih (i + 1) (by omega) (by omega) _ A' n' m' e' σ3 L2 k1' hW3 hTW' (by rw [eD]; exact hL2) (fun r hr => by rw [eD]; exact hX' r hr) (by omega) (by omega) hA3 (g5.trans hhad) (by rw [g3]; omega) (by omega) (by omega) N (by omega))
        rw [k1'] at this
        exact this
      cases L2 with
      | nil =>
        have q0 : q = 0 := k1'.symm
        exact sm_if (by omega) hJ
      | cons x l =>
        have q1 : q = l.length + 1 := k1'.symm
        refine sm_no (by omega) (sm_if ⟨h9, by decide, by decide⟩ ?_)
        have e0 : σ2.1 110 (0 : Int).toNat = hdI (x :: l) := hcell' 0 (by omega)
        rw [e0]
        exact hJ
end XE3
