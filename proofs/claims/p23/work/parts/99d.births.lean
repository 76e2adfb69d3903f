/-! ===== births and weddings ===== -/
def bSx (S : xS) (p : Int) : Int := wW S (sbb S p.toNat)
def SX (σ : xm_Mem) (S : xS) : Prop := ∀ p : Nat, p < sp S → σ.1 88 p = bSx S (p : Int) ∧ 0 ≤ bSx S (p : Int) ∧ bSx S (p : Int) ≤ 1
section XE7
variable {cl : Nat → Int} {S : xS} {A : Nat → Nat} {n : Nat} {m : Nat → Int64} {e : Nat → Nat} {σ : xm_Mem}
theorem sx_male {p : Int} (h : 0 ≤ bSx S p ∧ bSx S p ≤ 1) : (bSx S p = 0 ↔ ¬ wMale S p) := by
  unfold wMale
  unfold bSx at h ⊢
  omega
theorem sx_kp {σ1 : xm_Mem} (h : SX σ S) (k : KP σ σ1) : SX σ1 S := fun p hp => by rw [k 88 p (by omega)]; exact h p hp
/-- who is new -/
theorem new_p {D f m' w : Int} : sp (adR S 0 D (-1) f m' w) = sp S + 1 ∧ wBorn (adR S 0 D (-1) f m' w) (sp S : Int) = D ∧ bSx (adR S 0 D (-1) f m' w) (sp S : Int) = w := by
  have es : sbb (adR S 0 D (-1) f m' w) (sp S) = sn S := if_pos ⟨rfl, rfl⟩
  obtain ⟨n1, n2, n3, n4, n5, n6, n7⟩ := ad_new (S := S) (K := 0) (D := D) (a := -1) (b := f) (c := m') (w := w)
  refine ⟨rfl, ?_, ?_⟩
  · unfold wBorn
    rw [Int.toNat_natCast, es]; exact n2
  · unfold bSx
    rw [Int.toNat_natCast, es]; exact n6
theorem old_sx {K D a b c w : Int} (hW : WF S) {p : Int} (hp : 0 ≤ p ∧ p < sp S) : bSx (adR S K D a b c w) p = bSx S p := by
  have e : sbb (adR S K D a b c w) p.toNat = sbb S p.toNat := ad_p (by omega)
  have hlt := (hW.p hp.1 hp.2).1
  unfold bSx
  rw [e, (ad_old (by omega)).2.2.2.2.2.1]
theorem bw_birth {D f m' w : Int} (h : BW S) (hF : FM (adR S 0 D (-1) f m' w)) (hD : D ≤ 90000) : BW (adR S 0 D (-1) f m' w) := by
  have hP := h.2.2.1.1
  obtain ⟨b1, _, _, b4⟩ := ad_b (K := 0) (D := D) (a := -1) (b := f) (c := m') (w := w) h.1.1.1 (p := ((0 : Nat) : Int)) ⟨hP.1, hP.2.1⟩
  refine ⟨hF, h.2.1, ⟨ad_isP h.1.1.1 hP, b4.mpr h.2.2.1.2.1, b1.trans h.2.2.1.2.2⟩, fun r hr => ?_⟩
  have hr2 : r < sn S + 1 := hr
  by_cases er : r = sn S
  · subst er
    rw [ad_new.1, ad_new.2.1]
    exact ⟨Or.inl rfl, hD⟩
  · rw [(ad_old er).1, (ad_old er).2.1]
    exact h.2.2.2 r (by omega)
theorem bw_wed {D p q : Int} (h : BW S) (hF : FM (adR S 1 D p q (-1) 0)) (hD : D ≤ 90000) : BW (adR S 1 D p q (-1) 0) := by
  have hP := h.2.2.1.1
  obtain ⟨b1, _, _, b4⟩ := ad_b (K := 1) (D := D) (a := p) (b := q) (c := -1) (w := 0) h.1.1.1 (p := ((0 : Nat) : Int)) ⟨hP.1, hP.2.1⟩
  refine ⟨hF, h.2.1, ⟨ad_isP h.1.1.1 hP, b4.mpr h.2.2.1.2.1, b1.trans h.2.2.1.2.2⟩, fun r hr => ?_⟩
  have hr2 : r < sn S + 1 := hr
  by_cases er : r = sn S
  · subst er
    rw [ad_new.1, ad_new.2.1]
    exact ⟨Or.inr rfl, hD⟩
  · rw [(ad_old er).1, (ad_old er).2.1]
    exact h.2.2.2 r (by omega)
/-- a birth told -/
theorem bt_one {D f m' w : Int} (hW : LV σ S A n m e) (hB : BW S) (hx : xm_nxt σ) (hc : σ.2.2 < 100000) (hD : 0 ≤ D ∧ D ≤ 90000) (hw : 0 ≤ w ∧ w ≤ 1) (hsn : sn S < 200) (hsp : sp S ≤ 40) (hf : f = -1 ∨ (isP S f ∧ wMale S f ∧ wBorn S f + 4000 ≤ D)) (hm : m' = -1 ∨ (isP S m' ∧ ¬ wMale S m' ∧ wBorn S m' + 4000 ≤ D)) : (-1 ≤ f ∧ f ≤ 99) ∧ (-1 ≤ m' ∧ m' ≤ 99) ∧ ∃ (σ1 : xm_Mem) (A' : Nat → Nat) (n' : Nat) (m2 : Nat → Int64) (e' : Nat → Nat), f_L_tell (xm_aps σ 89 0 (xm_bP D.toNat w f m')) = some (σ1, (sn S : Int)) ∧ LV σ1 (adR S 0 D (-1) f m' w) A' n' m2 e' ∧ KP σ σ1 ∧ σ1.2.2 = σ.2.2 + 1 ∧ BW (adR S 0 D (-1) f m' w) := by
  have rg : ∀ x : Int, (x = -1 ∨ isP S x) → -1 ≤ x ∧ x ≤ 99 := fun x z => by
    rcases z with z | z
    · omega
    · have := z.1; have := z.2.1; omega
  have rf := rg f (hf.imp id (fun z => z.1))
  have rm := rg m' (hm.imp id (fun z => z.1))
  have ag : ∀ x g : Int, wBorn S x + 4000 ≤ D → ageOk S x D g := fun x g z => ⟨z, fun y => by rw [bw_dead hB] at y; omega⟩
  obtain ⟨k1, k2⟩ := birth_ok (D := D) (w := w) hB.1 (f := f) (m := m') (hf.imp id (fun z => ⟨z.1, z.2.1, ag _ _ z.2.2⟩)) (hm.imp id (fun z => ⟨z.1, z.2.1, ag _ _ z.2.2⟩))
  have hrm : rom S 0 := ⟨hsn, fun _ => by omega, fun z => absurd z (by decide)⟩
  have ho : rdO 0 D (-1) f m' w := ⟨⟨by decide, by decide⟩, ⟨hD.1, by omega⟩, ⟨hw.1, by omega⟩, fun _ => ⟨rfl, rf.1, rm.1, hw.2⟩, fun z => absurd z (by decide), fun z => absurd z (by decide), fun z => absurd z (by decide)⟩
  obtain ⟨σ1, A', n', m2, e', t1, t2, t3, t4⟩ := to_ok hW hx hc (txt_born (D := D) (s := w) (f := f) (m := m') ⟨hD.1, by omega⟩ hw rf rm) k1 hrm k2
  exact ⟨rf, rm, σ1, A', n', m2, e', t1, t2, t3, t4, bw_birth hB (ad_FM hB.1 ho k1 hrm (Or.inl rfl) k2) hD.2⟩
/-- the arrays' cells of one who is not there yet -/
theorem lv_arr (hW : LV σ S A n m e) {a k : Nat} {v : Int} (ha : a = 87 ∨ a = 88) : LV (xm_u1 σ a k v) S A n m e := by
  have g : gx (fun x _ => x = 87 ∨ x = 88) σ (xm_u1 σ a k v) := (gx.rf _ _).u1 ha
  exact ⟨hW.1, ci_gx hW.1.1 hW.2.1 g (fun a k z => by omega), by rw [xm_u1_ne _ _ (by omega)]; exact hW.2.2.1, sb_gx hW.2.2.2 g (fun k z => by omega)⟩
theorem ru_arr (hR : RU σ) {a k : Nat} {v : Int} (ha : a = 87 ∨ a = 88) : RU (xm_u1 σ a k v) := fun i hi => by rw [xm_u1_ne _ _ (by omega)]; exact hR i hi
theorem nx_arr {a k : Nat} {v : Int} (ha : a = 87 ∨ a = 88) (h : xm_nxt σ) : xm_nxt (xm_u1 σ a k v) := by
  unfold xm_nxt at h ⊢
  rw [xm_u1_ne _ _ (by omega), xm_u1_ne _ _ (by omega)]
  exact h
/-- what the law holds of the family -/
def FA (σ : xm_Mem) (S : xS) : Prop := BW S ∧ DY σ S ∧ SX σ S ∧ RU σ
/-- the arrays, once one more is born -/
theorem fa_new {σ1 : xm_Mem} {D f m' w : Int} (hB : BW S) (hY : DY σ S) (hX : SX σ S) (hR : RU σ) (hk : KP (xm_u1 (xm_u1 σ 87 (sp S) D) 88 (sp S) w) σ1) (hD : 0 ≤ D ∧ D ≤ 90000) (hw : 0 ≤ w ∧ w ≤ 1) (hB2 : BW (adR S 0 D (-1) f m' w)) : FA σ1 (adR S 0 D (-1) f m' w) := by
  obtain ⟨p1, p2, p3⟩ := new_p (S := S) (D := D) (f := f) (m' := m') (w := w)
  refine ⟨hB2, fun p hp => ?_, fun p hp => ?_, fun i hi => ?_⟩
  · have hp2 : p < sp S + 1 := hp
    rw [hk 87 p (by omega), xm_u1_ne _ _ (by omega)]
    by_cases ep : p = sp S
    · subst ep
      rw [xm_u1_at, p2]
      exact ⟨rfl, hD⟩
    · rw [xm_u1_ne _ _ (fun z => ep z.2), (ad_b hB.1.1.1 (p := (p : Int)) ⟨by omega, by omega⟩).1]
      exact hY p (by omega)
  · have hp2 : p < sp S + 1 := hp
    rw [hk 88 p (by omega)]
    by_cases ep : p = sp S
    · subst ep
      rw [xm_u1_at, p3]
      exact ⟨rfl, hw⟩
    · rw [xm_u1_ne _ _ (fun z => ep z.2), xm_u1_ne _ _ (by omega), old_sx hB.1.1.1 (p := (p : Int)) ⟨by omega, by omega⟩]
      exact hX p (by omega)
  · rw [hk 86 i (by omega), xm_u1_ne _ _ (by omega), xm_u1_ne _ _ (by omega)]
    exact hR i hi
noncomputable def sxC (c : Int) : Int := if xm_and c 1 = 0 then 1 else 0
noncomputable def faO (S : xS) (p q : Int) : Int := if bSx S p = 0 then q else p
noncomputable def moO (S : xS) (p q : Int) : Int := if bSx S p = 0 then p else q
/-- the child -/
theorem j323_ok {K : xm_Mem → Int → Int → Option xm_Out} {k : Nat} {c p on q : Int} (hW : LV σ S A n m e) (hF : FA σ S) (hx : xm_nxt σ) (hc : σ.2.2 < 90000) (hsn : sn S < 200) (hsp : sp S ≤ 23) (hon : 0 ≤ on ∧ on ≤ 90000) (hp : isP S p ∧ wBorn S p + 4000 ≤ on) (hq : isP S q ∧ wBorn S q + 4000 ≤ on) (hpq : wMale S p ↔ ¬ wMale S q) (hk : k ≤ 100)
    (hK : ∀ (σ' : xm_Mem) (A' : Nat → Nat) (n' : Nat) (m' : Nat → Int64) (e' : Nat → Nat), LV σ' (adR S 0 on (-1) (faO S p q) (moO S p q) (sxC c)) A' n' m' e' → FA σ' (adR S 0 on (-1) (faO S p q) (moO S p q) (sxC c)) → σ'.2.2 = σ.2.2 + 1 → (∀ j, σ'.1 109 j = σ.1 109 j) → Sm (K σ' ((sp S + 1 : Nat) : Int) ((k + 1 : Nat) : Int))) : Sm (f_L_law_j323 cl K σ (sp S : Int) (k : Int) c p on q) := by
  obtain ⟨hB, hY, hX, hR⟩ := hF
  have hs01 : 0 ≤ sxC c ∧ sxC c ≤ 1 := by unfold sxC; split <;> omega
  have hp0 := hp.1.1
  have hps := hp.1.2.1
  have hXp := hX p.toNat (by omega)
  have epn : ((p.toNat : Nat) : Int) = p := by omega
  rw [epn] at hXp
  have hsxp := sx_male ⟨hXp.2.1, hXp.2.2⟩
  have hfa : isP S (faO S p q) ∧ wMale S (faO S p q) ∧ wBorn S (faO S p q) + 4000 ≤ on := by
    unfold faO
    by_cases h0 : bSx S p = 0
    · rw [if_pos h0]
      exact ⟨hq.1, Classical.byContradiction (fun z => (hsxp.mp h0) (hpq.mpr z)), hq.2⟩
    · rw [if_neg h0]
      exact ⟨hp.1, Classical.byContradiction (fun z => h0 (hsxp.mpr z)), hp.2⟩
  have hmo : isP S (moO S p q) ∧ ¬ wMale S (moO S p q) ∧ wBorn S (moO S p q) + 4000 ≤ on := by
    unfold moO
    by_cases h0 : bSx S p = 0
    · rw [if_pos h0]
      exact ⟨hp.1, hsxp.mp h0, hp.2⟩
    · rw [if_neg h0]
      have hmp : wMale S p := Classical.byContradiction (fun z => h0 (hsxp.mpr z))
      exact ⟨hq.1, hpq.mp hmp, hq.2⟩
  have hW2 := lv_arr (k := sp S) (v := sxC c) (lv_arr (k := sp S) (v := on) hW (Or.inl rfl)) (Or.inr rfl)
  have hx2 := nx_arr (k := sp S) (v := sxC c) (a := 88) (Or.inr rfl) (nx_arr (k := sp S) (v := on) (a := 87) (Or.inl rfl) hx)
  obtain ⟨rf, rm, σ1, A', n', m2, e', t1, t2, t3, t4, t5⟩ := bt_one (D := on) (w := sxC c) hW2 hB hx2 (by show σ.2.2 < 100000; omega) hon hs01 hsn (by omega) (Or.inr hfa) (Or.inr hmo)
  have hFA := fa_new hB hY hX hR t3 hon hs01 t5
  have e88 : (xm_u1 (xm_u1 σ 87 (sp S) on) 88 (sp S) (sxC c)).1 88 p.toNat = bSx S p := by
    rw [xm_u1_ne _ _ (by omega), xm_u1_ne _ _ (by omega)]
    exact hXp.1
  have e88n : (xm_u1 (xm_u1 σ 87 (sp S) on) 88 (sp S) (sxC c)).1 88 (sp S) = sxC c := xm_u1_at _ _ _ _
  have e109 : ∀ j, σ1.1 109 j = σ.1 109 j := fun j => by rw [t3 109 j (by omega), xm_u1_ne _ _ (by omega), xm_u1_ne _ _ (by omega)]
  have key := hK σ1 A' n' m2 e' t2 hFA (by rw [t4]; rfl) e109
  have ew1 : xm_w ((sp S : Int) + 1) = ((sp S + 1 : Nat) : Int) := by rw [xp_w (by omega) (by omega)]; omega
  have ew2 : xm_w ((k : Int) + 1) = ((k + 1 : Nat) : Int) := by rw [xp_w (by omega) (by omega)]; omega
  -- the text's tell
  have fin : Sm (f_L_law_j386 cl K (xm_u1 (xm_u1 σ 87 (sp S) on) 88 (sp S) (sxC c)) (moO S p q) (faO S p q) (sxC c) on (sp S : Int) (k : Int)) := by
    unfold f_L_law_j386
    refine sm_if ⟨hW2.2.2.2, ⟨hon.1, by omega⟩, rf, rm⟩ ?_
    show Sm ((f_L_tell (xm_aps (xm_u1 (xm_u1 σ 87 (sp S) on) 88 (sp S) (sxC c)) 89 0 (xm_bP on.toNat (sxC c) (faO S p q) (moO S p q)))).bind _)
    refine sm_b t1 (sm_if ⟨by rw [xm_aps_2]; exact t4, by show σ1.2.2 ≤ 100000; rw [t4]; show σ.2.2 + 1 ≤ 100000; omega⟩ (sm_no (by show ¬ ((sn S : Nat) : Int) < 0; omega) ?_))
    rw [ew1, ew2]
    exact key
  generalize hσ2 : xm_u1 (xm_u1 σ 87 (sp S) on) 88 (sp S) (sxC c) = σ2 at fin e88 e88n
  clear t1 t2 t3 t4 t5 hFA key hK hW2 hx2 e109
  have s371 : Sm (f_L_law_j371 cl K σ2 (faO S p q) (sxC c) on (sp S : Int) (k : Int) p q) := by
    unfold f_L_law_j371
    refine sm_if ⟨hp0, by omega⟩ ?_
    rw [e88]
    unfold moO at fin
    by_cases h0 : bSx S p = 0
    · rw [if_pos h0] at fin
      exact sm_if h0 fin
    · rw [if_neg h0] at fin
      exact sm_no h0 fin
  have s346 : Sm (f_L_law_j346 cl K (xm_u1 σ 87 (sp S) on) (sxC c) (sp S : Int) (sp S : Int) (k : Int) p on q) := by
    unfold f_L_law_j346
    refine sm_if ⟨by omega, by omega⟩ ?_
    rw [Int.toNat_natCast, hσ2]
    show Sm (if 0 ≤ (sp S : Int) ∧ (sp S : Int) < 24 then _ else none)
    refine sm_if ⟨by omega, by omega⟩ (sm_if ⟨hp0, by omega⟩ ?_)
    rw [e88, e88n]
    unfold faO at s371
    by_cases h0 : bSx S p = 0
    · rw [if_pos h0] at s371
      exact sm_if h0 s371
    · rw [if_neg h0] at s371
      exact sm_no h0 s371
  unfold f_L_law_j323
  refine sm_if ⟨by omega, by omega⟩ ?_
  rw [Int.toNat_natCast]
  show Sm (if (xm_and c (1 : Int)) = 0 then (f_L_law_j346 cl K (xm_u1 σ 87 (sp S) on) (1 : Int) (sp S : Int) (sp S : Int) (k : Int) p on q) else (f_L_law_j346 cl K (xm_u1 σ 87 (sp S) on) (0 : Int) (sp S : Int) (sp S : Int) (k : Int) p on q))
  unfold sxC at s346
  by_cases h0 : xm_and c 1 = 0
  · rw [if_pos h0] at s346
    exact sm_if h0 s346
  · rw [if_neg h0] at s346
    exact sm_no h0 s346
end XE7
