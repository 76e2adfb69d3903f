/-! ===== the family: ten times ===== -/
section XE8
variable {cl : Nat → Int}
noncomputable def chS (S : xS) (c p q on : Int) : xS := adR S 0 on (-1) (faO S p q) (moO S p q) (sxC c)
noncomputable def wdS (S : xS) (p q on : Int) : xS := adR S 1 (on - 200) (faO S p q) (moO S p q) (-1) 0
noncomputable def nwS (S : xS) (p q on : Int) : xS := @ite _ (fstB (breaks (wdS S p q on)) 9 1 = 0) (Classical.propDecidable _) (wdS S p q on) S
noncomputable def spS (S : xS) (p : Int) : xS := adR S 0 (wBorn S p) (-1) (-1) (-1) (if bSx S p = 0 then 1 else 0)
noncomputable def iP (cl : Nat → Int) (k : Nat) (S : xS) : Int := xm_rem (xm_and (xm_shr (cl k) (4 : Int)) 2147483647) (sp S : Int)
noncomputable def iO (cl : Nat → Int) (k : Nat) (S : xS) : Int := wBorn S (iP cl k S) + 4300 + xm_rem (xm_and (xm_shr (cl k) (12 : Int)) 2147483647) (9000 : Int)
noncomputable def simB (cl : Nat → Int) (k : Nat) (S : xS) : xS × Nat :=
  if 90000 < iO cl k S then (S, 0)
  else if prt S (iP cl k S) (iO cl k S - 200) < 0 then (chS (nwS (spS S (iP cl k S)) (iP cl k S) (sp S : Int) (iO cl k S)) (cl k) (iP cl k S) (sp S : Int) (iO cl k S), 3)
  else (chS S (cl k) (iP cl k S) (prt S (iP cl k S) (iO cl k S - 200)) (iO cl k S), 1)
/-- how many tells there will be -/
noncomputable def simR (cl : Nat → Int) : Nat → Nat → xS → Nat
  | 0, _, _ => 0
  | r + 1, k, S => (simB cl k S).2 + simR cl r (k + 1) (simB cl k S).1
variable {S : xS} {A : Nat → Nat} {n : Nat} {m : Nat → Int64} {e : Nat → Nat} {σ : xm_Mem}
theorem fm_of (hF : FA σ S) {p : Int} (hp : isP S p) : (bSx S p = 0 ↔ ¬ wMale S p) := by
  have := hF.2.2.1 p.toNat (by have := hp.1; have := hp.2.1; omega)
  have e : ((p.toNat : Nat) : Int) = p := by have := hp.1; omega
  rw [e] at this
  exact sx_male ⟨this.2.1, this.2.2⟩
/-- who is father and mother -/
theorem fa_mo (hF : FA σ S) {p q : Int} (hp : isP S p) (hq : isP S q) (hpq : wMale S p ↔ ¬ wMale S q) : (faO S p q = p ∨ faO S p q = q) ∧ (moO S p q = p ∨ moO S p q = q) ∧ (faO S p q = q ∨ moO S p q = q) ∧ (isP S (faO S p q) ∧ wMale S (faO S p q)) ∧ (isP S (moO S p q) ∧ ¬ wMale S (moO S p q)) := by
  have hs := fm_of hF hp
  unfold faO moO
  by_cases h0 : bSx S p = 0
  · rw [if_pos h0, if_pos h0]
    exact ⟨Or.inr rfl, Or.inl rfl, Or.inl rfl, ⟨hq, Classical.byContradiction (fun z => (hs.mp h0) (hpq.mpr z))⟩, hp, hs.mp h0⟩
  · rw [if_neg h0, if_neg h0]
    have hm : wMale S p := Classical.byContradiction (fun z => h0 (hs.mpr z))
    exact ⟨Or.inl rfl, Or.inr rfl, Or.inr rfl, ⟨hp, hm⟩, hq, hpq.mp hm⟩
theorem j299_ok {K : xm_Mem → Int → Int → Option xm_Out} {k : Nat} {c p on q : Int} (hW : LV σ S A n m e) (hF : FA σ S) (hx : 110 ≤ σ.2.2 ∧ (σ.2.2 : Int) + 1 - 20 < σ.1 109 1) (hc : σ.2.2 < 80000) (hsn : sn S < 190) (hsp : sp S ≤ 23) (hon : 4200 ≤ on ∧ on ≤ 90000) (hp : isP S p ∧ wBorn S p + 4200 ≤ on) (hq : isP S q ∧ wBorn S q + 4200 ≤ on) (hpq : wMale S p ↔ ¬ wMale S q) (hk : k ≤ 100) (hno : ∀ r, r < sn S → wK S r = 1 → w1 S r ≠ q ∧ w2 S r ≠ q)
    (hK : ∀ (σ' : xm_Mem) (A' : Nat → Nat) (n' : Nat) (m' : Nat → Int64) (e' : Nat → Nat), LV σ' (chS (nwS S p q on) c p q on) A' n' m' e' → FA σ' (chS (nwS S p q on) c p q on) → σ'.2.2 = σ.2.2 + 2 → (∀ j, σ'.1 109 j = σ.1 109 j) → sp (nwS S p q on) = sp S → sn (nwS S p q on) ≤ sn S + 1 → Sm (K σ' ((sp S + 1 : Nat) : Int) ((k + 1 : Nat) : Int))) : Sm (f_L_law_j299 cl K σ (moO S p q) (faO S p q) (on - 200) (sp S : Int) (k : Int) c p on q) := by
  obtain ⟨f1, f2, f3, f4, f5⟩ := fa_mo hF hp.1 hq.1 hpq
  have hB := hF.1
  have rg : ∀ x, isP S x → 0 ≤ x ∧ x ≤ 99 := fun x z => by have := z.1; have := z.2.1; omega
  have rf := rg _ f4.1
  have rm := rg _ f5.1
  have bo : ∀ x, (x = p ∨ x = q) → wBorn S x + 4200 ≤ on := fun x z => by
    rcases z with z | z
    · rw [z]; exact hp.2
    · rw [z]; exact hq.2
  have ag : ∀ x, (x = p ∨ x = q) → ageOk S x (on - 200) 0 := fun x z => ⟨by have := bo x z; omega, fun y => by rw [bw_dead hB] at y; omega⟩
  obtain ⟨k1, k2⟩ := wed_ok (D := on - 200) hB.1 (p := faO S p q) (q := moO S p q) ⟨f4.1, f4.2, ag _ f1⟩ ⟨f5.1, f5.2, ag _ f2⟩ (fun r hr hk1 z => by
    have := hno r hr hk1
    rcases f3 with y | y
    · exact this.1 (z.1.trans y)
    · exact this.2 (z.2.trans y))
  have hrm : rom S 1 := ⟨by omega, fun z => absurd z (by decide), fun z => absurd z (by decide)⟩
  have ho : rdO 1 (on - 200) (faO S p q) (moO S p q) (-1) 0 := ⟨⟨by decide, by decide⟩, ⟨by omega, by omega⟩, ⟨by decide, by decide⟩, fun z => absurd z (by decide), fun _ => ⟨rf.1, rm.1, rfl⟩, fun z => absurd z (by decide), fun z => absurd z (by decide)⟩
  have htx := txt_wed (D := on - 200) (p := faO S p q) (q := moO S p q) ⟨by omega, by omega⟩ rf rm
  have hxx : xm_nxt σ := Or.inr ⟨hx.1, by omega, Or.inr (by omega)⟩
  unfold f_L_law_j299
  refine sm_if ⟨hW.2.2.2, ⟨by omega, by omega⟩, rf, ⟨by omega, rm.2⟩⟩ ?_
  show Sm ((f_L_tell (xm_aps σ 89 0 (xm_tP 1 (on - 200).toNat (faO S p q).toNat (moO S p q)))).bind _)
  by_cases h0 : fstB (breaks (wdS S p q on)) 9 1 = 0
  · have eN : nwS S p q on = wdS S p q on := if_pos h0
    rw [eN] at hK
    obtain ⟨σ1, A', n', m', e', t1, t2, t3, t4⟩ := to_ok hW hxx (by omega) htx k1 hrm h0
    have hF2 := bw_wed hB (ad_FM hB.1 ho k1 hrm (Or.inr (Or.inl rfl)) h0) (by omega)
    have hFA : FA σ1 (wdS S p q on) := by
      refine ⟨hF2, fun x hx => ?_, fun x hx => ?_, ru_kp hF.2.2.2 t3⟩
      · have hx' : x < sp S := hx
        have := dy_kp hF.2.1 t3 x hx'
        unfold wdS
        rw [(ad_b hB.1.1.1 (p := (x : Int)) ⟨by omega, by omega⟩).1]
        exact this
      · have hx' : x < sp S := hx
        have := sx_kp hF.2.2.1 t3 x hx'
        unfold wdS
        rw [old_sx hB.1.1.1 (p := (x : Int)) ⟨by omega, by omega⟩]
        exact this
    have ho2 : ∀ x, isP S x → isP (wdS S p q on) x ∧ wBorn (wdS S p q on) x = wBorn S x ∧ (wMale (wdS S p q on) x ↔ wMale S x) := fun x hx => by
      obtain ⟨b1, _, _, b4⟩ := ad_b (K := 1) (D := on - 200) (a := faO S p q) (b := moO S p q) (c := -1) (w := 0) hB.1.1.1 (p := x) ⟨hx.1, hx.2.1⟩
      exact ⟨ad_isP hB.1.1.1 hx, b1, b4⟩
    have e1 := ho2 p hp.1
    have e2 := ho2 q hq.1
    have hsn2 : sn (wdS S p q on) = sn S + 1 := rfl
    have hsp2 : sp (wdS S p q on) = sp S := rfl
    have t2' : LV σ1 (wdS S p q on) A' n' m' e' := t2
    refine sm_b t1 (sm_if ⟨by rw [xm_aps_2]; exact t4, by show σ1.2.2 ≤ 100000; omega⟩ (sm_no (by show ¬ ((sn S : Nat) : Int) < 0; omega) ?_))
    clear t1 t2 ho k1 k2 h0 htx eN
    show Sm (f_L_law_j323 cl K σ1 (sp S : Int) (k : Int) c p on q)
    unfold chS at hK
    generalize wdS S p q on = T at hK hFA e1 e2 hsn2 hsp2 t2'
    rw [← hsp2]
    refine j323_ok (cl := cl) t2' hFA (Or.inr ⟨by omega, by omega, Or.inr (by rw [t3 109 1 (by omega)]; omega)⟩) (by omega) (by omega) (by omega) ⟨by omega, hon.2⟩ ⟨e1.1, by rw [e1.2.1]; omega⟩ ⟨e2.1, by rw [e2.2.1]; omega⟩ (by rw [e1.2.2, e2.2.2]; exact hpq) hk (fun σ2 A2 n2 m2 e2' u1 u2 u3 u4 => ?_)
    have := hK σ2 A2 n2 m2 e2' u1 u2 (by omega) (fun j => by rw [u4 j, t3 109 j (by omega)]) hsp2 (by omega)
    rw [hsp2]
    exact this
  · have eN : nwS S p q on = S := if_neg h0
    rw [eN] at hK
    have h7 := k2.resolve_left h0
    obtain ⟨σ1, t1, t2, t3, t4, t5, t6⟩ := to_no hW hxx (by omega) htx k1 hrm h0
    refine sm_b t1 (sm_if ⟨by rw [xm_aps_2]; exact t4, by show σ1.2.2 ≤ 100000; omega⟩ (sm_if (show (-9 : Int) < 0 by decide) ?_))
    show Sm ((f_X10_bond σ1).bind _)
    refine sm_b (show f_X10_bond σ1 = some (σ1, σ1.1 1 10) from rfl) (sm_if rfl (sm_if (by show σ1.1 1 10 = 7; rw [t6]; exact congrArg (fun x : Nat => (x : Int)) h7) ?_))
    clear t1 ho k1 k2 h0 htx eN h7 t6
    show Sm (f_L_law_j323 cl K σ1 (sp S : Int) (k : Int) c p on q)
    refine j323_ok (cl := cl) t2 ⟨hB, dy_kp hF.2.1 t3, sx_kp hF.2.2.1 t3, ru_kp hF.2.2.2 t3⟩ (Or.inr ⟨by omega, by omega, Or.inr (by rw [t3 109 1 (by omega)]; omega)⟩) (by omega) (by omega) (by omega) ⟨by omega, hon.2⟩ ⟨hp.1, by omega⟩ ⟨hq.1, by omega⟩ hpq hk (fun σ2 A2 n2 m2 e2' u1 u2 u3 u4 => ?_)
    exact hK σ2 A2 n2 m2 e2' u1 u2 (by omega) (fun j => by rw [u4 j, t3 109 j (by omega)]) rfl (by omega)
/-- a spouse is born, the two wed, the child -/
theorem j230_ok {K : xm_Mem → Int → Int → Option xm_Out} {k : Nat} {c p on : Int} (hW : LV σ S A n m e) (hF : FA σ S) (hx : 110 ≤ σ.2.2 ∧ (σ.2.2 : Int) + 2 - 20 < σ.1 109 1) (hc : σ.2.2 < 70000) (hsn : sn S < 180) (hsp : sp S ≤ 22) (hon : 4200 ≤ on ∧ on ≤ 90000) (hp : isP S p ∧ wBorn S p + 4200 ≤ on) (hk : k ≤ 100)
    (hK : ∀ (σ' : xm_Mem) (A' : Nat → Nat) (n' : Nat) (m' : Nat → Int64) (e' : Nat → Nat), LV σ' (chS (nwS (spS S p) p (sp S : Int) on) c p (sp S : Int) on) A' n' m' e' → FA σ' (chS (nwS (spS S p) p (sp S : Int) on) c p (sp S : Int) on) → σ'.2.2 = σ.2.2 + 3 → (∀ j, σ'.1 109 j = σ.1 109 j) → sp (nwS (spS S p) p (sp S : Int) on) = sp S + 1 → sn (nwS (spS S p) p (sp S : Int) on) ≤ sn S + 2 → Sm (K σ' ((sp S + 2 : Nat) : Int) ((k + 1 : Nat) : Int))) : Sm (f_L_law_j230 cl K (xm_u1 σ 87 (sp S) (wBorn S p)) (if bSx S p = 0 then 1 else 0) (sp S : Int) (sp S : Int) (k : Int) c p on (sp S : Int)) := by
  obtain ⟨hB, hY, hX, hR⟩ := hF
  have hp0 := hp.1.1
  have hps := hp.1.2.1
  have epn : ((p.toNat : Nat) : Int) = p := by omega
  have hYp := hY p.toNat (by omega)
  have hXp := hX p.toNat (by omega)
  rw [epn] at hYp hXp
  have hs01 : (0 : Int) ≤ (if bSx S p = 0 then 1 else 0) ∧ (if bSx S p = 0 then 1 else 0 : Int) ≤ 1 := by split <;> omega
  generalize hsv : (if bSx S p = 0 then 1 else 0 : Int) = sv at hs01 ⊢
  have hW2 := lv_arr (k := sp S) (v := sv) (lv_arr (k := sp S) (v := wBorn S p) hW (Or.inl rfl)) (Or.inr rfl)
  have hx0 : xm_nxt σ := Or.inr ⟨hx.1, by omega, Or.inr (by omega)⟩
  have hx2 := nx_arr (k := sp S) (v := sv) (a := 88) (Or.inr rfl) (nx_arr (k := sp S) (v := wBorn S p) (a := 87) (Or.inl rfl) hx0)
  obtain ⟨_, _, σ1, A', n', m2, e', t1, t2, t3, t4, t5⟩ := bt_one (D := wBorn S p) (w := sv) hW2 hB hx2 (by show σ.2.2 < 100000; omega) hYp.2 hs01 (by omega) (by omega) (Or.inl rfl) (Or.inl rfl)
  have hFA := fa_new hB hY hX hR t3 hYp.2 hs01 t5
  have eT : adR S 0 (wBorn S p) (-1) (-1) (-1) sv = spS S p := by unfold spS; rw [hsv]
  rw [eT] at t2 t5 hFA
  obtain ⟨np1, np2, np3⟩ := new_p (S := S) (D := wBorn S p) (f := -1) (m' := -1) (w := sv)
  rw [eT] at np1 np2 np3
  have hPq : isP (spS S p) (sp S : Int) := (fm_P t5.1 _).mpr ⟨by omega, by rw [np1]; omega⟩
  obtain ⟨b1, _, _, b4⟩ := ad_b (K := 0) (D := wBorn S p) (a := -1) (b := -1) (c := -1) (w := sv) hB.1.1.1 (p := p) ⟨hp0, hps⟩
  have hPp : isP (spS S p) p := by rw [← eT]; exact ad_isP hB.1.1.1 hp.1
  have bS : bSx (spS S p) p = bSx S p := by rw [← eT]; exact old_sx hB.1.1.1 ⟨hp0, hps⟩
  rw [eT] at b1 b4
  have hpq : wMale (spS S p) p ↔ ¬ wMale (spS S p) (sp S : Int) := by
    have h1 := fm_of hFA hPp
    have h2 := fm_of hFA hPq
    rw [np3] at h2
    rw [bS] at h1
    have hx1 := hXp.2
    by_cases h0 : bSx S p = 0
    · rw [if_pos h0] at hsv
      constructor
      · intro z; exact absurd z (h1.mp h0)
      · intro z; exact absurd (h2.mpr z) (by omega)
    · rw [if_neg h0] at hsv
      have z2 := h2.mp hsv.symm
      exact ⟨fun _ => z2, fun _ => Classical.byContradiction (fun z => h0 (h1.mpr z))⟩
  have hno : ∀ r, r < sn (spS S p) → wK (spS S p) r = 1 → w1 (spS S p) r ≠ (sp S : Int) ∧ w2 (spS S p) r ≠ (sp S : Int) := by
    intro r hr hk1
    have hr2 : r < sn S + 1 := hr
    rw [← eT] at hk1 ⊢
    by_cases er : r = sn S
    · subst er
      rw [ad_new.1] at hk1
      exact absurd hk1 (by decide)
    · obtain ⟨o1, o2, o3, o4, _⟩ := ad_old (K := 0) (D := wBorn S p) (a := -1) (b := -1) (c := -1) (w := sv) (S := S) (q := r) er
      rw [o1] at hk1
      rw [o3, o4]
      have := (hB.1.1.1.2.1 r (by omega)).2.2.2.2.2.1 (Or.inl hk1)
      omega
  have e109 : ∀ j, σ1.1 109 j = σ.1 109 j := fun j => by rw [t3 109 j (by omega), xm_u1_ne _ _ (by omega), xm_u1_ne _ _ (by omega)]
  have hsnT : sn (spS S p) = sn S + 1 := rfl
  have e88 : σ1.1 88 p.toNat = bSx S p := by
    rw [t3 88 _ (by omega), xm_u1_ne _ _ (by omega), xm_u1_ne _ _ (by omega)]
    exact hXp.1
  have c2 : σ1.2.2 = σ.2.2 + 1 := t4
  have h299 : Sm (f_L_law_j299 cl K σ1 (moO (spS S p) p (sp S : Int)) (faO (spS S p) p (sp S : Int)) (on - 200) ((sp S + 1 : Nat) : Int) (k : Int) c p on (sp S : Int)) := by
    have := j299_ok (cl := cl) (K := K) (k := k) (c := c) (p := p) (on := on) (q := (sp S : Int)) t2 hFA ⟨by omega, by rw [e109 1]; omega⟩ (by omega) (by omega) (by omega) hon ⟨hPp, by rw [b1]; exact hp.2⟩ ⟨hPq, by rw [np2]; exact hp.2⟩ hpq hk hno (fun σ' A2 n2 m3 e2 u1 u2 u3 u4 u5 u6 => by
      rw [np1]
      exact hK σ' A2 n2 m3 e2 u1 u2 (by omega) (fun j => (u4 j).trans (e109 j)) (by omega) (by omega))
    rw [np1] at this
    exact this
  have ew1 : xm_w ((sp S : Int) + 1) = ((sp S + 1 : Nat) : Int) := by rw [xp_w (by omega) (by omega)]; omega
  have ew2 : xm_w (on - 200) = on - 200 := xp_w (by omega) (by omega)
  have e87n : (xm_u1 (xm_u1 σ 87 (sp S) (wBorn S p)) 88 (sp S) sv).1 87 (sp S) = wBorn S p := by rw [xm_u1_ne _ _ (by omega)]; exact xm_u1_at _ _ _ _
  have e88n : (xm_u1 (xm_u1 σ 87 (sp S) (wBorn S p)) 88 (sp S) sv).1 88 (sp S) = sv := xm_u1_at _ _ _ _
  unfold f_L_law_j230
  refine sm_if ⟨by omega, by omega⟩ ?_
  rw [Int.toNat_natCast]
  show Sm (if 0 ≤ (sp S : Int) ∧ (sp S : Int) < 24 then _ else none)
  refine sm_if ⟨by omega, by omega⟩ (sm_if ⟨by omega, by omega⟩ ?_)
  rw [e87n, e88n]
  refine sm_if ⟨hW2.2.2.2, ⟨hYp.2.1, by omega⟩, ⟨by decide, by decide⟩, ⟨by decide, by decide⟩⟩ ?_
  show Sm ((f_L_tell (xm_aps (xm_u1 (xm_u1 σ 87 (sp S) (wBorn S p)) 88 (sp S) sv) 89 0 (xm_bP (wBorn S p).toNat sv (-1) (-1)))).bind _)
  refine sm_b t1 (sm_if ⟨by rw [xm_aps_2]; exact t4, by show σ1.2.2 ≤ 100000; omega⟩ (sm_no (by show ¬ ((sn S : Nat) : Int) < 0; omega) ?_))
  rw [ew1, ew2]
  show Sm (if 0 ≤ p ∧ p < 24 then (if σ1.1 88 p.toNat = 0 then (f_L_law_j284 cl K σ1 (sp S : Int) (on - 200) ((sp S + 1 : Nat) : Int) (k : Int) c p on (sp S : Int)) else (f_L_law_j284 cl K σ1 p (on - 200) ((sp S + 1 : Nat) : Int) (k : Int) c p on (sp S : Int))) else none)
  refine sm_if ⟨hp0, by omega⟩ ?_
  clear t1 t2 t3 t4 t5 hK hno hFA hW2 hx2
  have h284 : Sm (f_L_law_j284 cl K σ1 (faO (spS S p) p (sp S : Int)) (on - 200) ((sp S + 1 : Nat) : Int) (k : Int) c p on (sp S : Int)) := by
    unfold f_L_law_j284
    refine sm_if ⟨hp0, by omega⟩ ?_
    rw [e88]
    unfold moO at h299
    rw [bS] at h299
    by_cases h0 : bSx S p = 0
    · rw [if_pos h0] at h299
      exact sm_if h0 h299
    · rw [if_neg h0] at h299
      exact sm_no h0 h299
  unfold faO at h284
  rw [bS] at h284
  by_cases h0 : bSx S p = 0
  · rw [if_pos h0] at h284
    exact sm_if (by rw [e88]; exact h0) h284
  · rw [if_neg h0] at h284
    exact sm_no (by rw [e88]; exact h0) h284
end XE8
