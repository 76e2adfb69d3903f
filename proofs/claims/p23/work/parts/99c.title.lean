/-! ===== the title ===== -/
section XE6
variable {cl : Nat → Int}
/-- births and weddings alone -/
def BW (S : xS) : Prop := FM S ∧ stn S = 0 ∧ (isP S ((0 : Nat) : Int) ∧ wMale S ((0 : Nat) : Int) ∧ wBorn S ((0 : Nat) : Int) = 0) ∧ ∀ r, r < sn S → (wK S r = 0 ∨ wK S r = 1) ∧ wD S r ≤ 90000
theorem bw_dead {S : xS} (h : BW S) (p : Int) : wDead S p = -1 := no_dead (fun r hr z => by have := (h.2.2.2 r hr).1; have := z.2.1; omega)
/-- the rules' texts -/
def rwd (i : Nat) : Nat := if i = 0 then 9 else 13 + i
def RU (σ : xm_Mem) : Prop := ∀ i, i < 5 → σ.1 86 i = ((rwd i + 1 : Nat) : Int)
theorem ru_kp {σ σ1 : xm_Mem} (h : RU σ) (k : KP σ σ1) : RU σ1 := fun i hi => by rw [k 86 i (by omega)]; exact h i hi
theorem aps_app (v : Nat) (M : List (Nat × Nat)) : ∀ (L : List (Nat × Nat)) (σ : xm_Mem) (c : Nat), xm_aps σ v c (L ++ M) = xm_aps (xm_aps σ v c L) v (xm_plS c L) M := by
  intro L
  induction L with
  | nil => intro σ c; rfl
  | cons p t ih => intro σ c; show xm_aps (xm_ap σ v c p) v (c + xm_pl p) (t ++ M) = _; rw [ih]; rfl
theorem pcS_app (M : List (Nat × Nat)) : ∀ L : List (Nat × Nat), pcS (L ++ M) = pcS L ++ pcS M := by
  intro L
  induction L with
  | nil => rfl
  | cons p t ih => show pcB p ++ pcS (t ++ M) = _; rw [ih]; exact (List.append_assoc _ _ _).symm
theorem rwd_lt : ∀ i, i < 5 → rwd i < 19 ∧ (wdL (rwd i)).length ≤ 6 := by decide
def ttP (fr : Int) (i : Nat) : List (Nat × Nat) := xm_tP 4 fr.toNat 0 (-1) ++ [(2, 32), (0, rwd i)]
theorem tt_len {fr : Int} (hf : 0 ≤ fr ∧ fr ≤ 99999) : (pcS (xm_tP 4 fr.toNat 0 (-1))).length ≤ 13 := by
  rw [tP_tx, if_pos (by decide), tx2, tx2, tx1, tk0, tk1, tk1]
  simp only [List.length_append, List.length_cons, wlx.2.2.2.2.2.2]
  have h1 := (dgL_1 fr.toNat).2
  have h2 : (dgL 0).length = 1 := by decide
  omega
theorem txt_title {fr : Int} {i : Nat} (hf : 0 ≤ fr ∧ fr ≤ 99999) (hi : i < 5) : TXT (ttP fr i) 4 fr 0 (-1) (-1) i := by
  have hr := rwd_lt i hi
  have hP : pcS (ttP fr i) = txL [(0, 4), (1, fr.toNat), (1, 0), (0, rwd i)] := by
    unfold ttP
    rw [pcS_app, tP_tx, if_pos (by decide)]
    simp only [pcS, pc0, pc2, tx2, tx1, tk0, tk1, List.append_assoc, List.append_nil, List.cons_append, List.nil_append]
  refine ⟨[(0, 4), (1, fr.toNat), (1, 0), (0, rwd i)], ?_, hP, ?_, fun z => (by cases z), ?_, ?_⟩
  · intro p hp
    rcases List.mem_append.mp hp with z | z
    · exact tP_ok (by decide) (by omega) (by decide) ⟨by decide, by decide⟩ p z
    · simp only [List.mem_cons, List.not_mem_nil, or_false] at z
      rcases z with rfl | rfl
      · exact xm_po2 (by decide)
      · exact xm_po0 (by omega)
  · intro t ht
    simp only [List.mem_cons, List.not_mem_nil, or_false] at ht
    rcases ht with rfl | rfl | rfl | rfl
    · exact tkw (by decide)
    · exact tkn (by omega)
    · exact tkn (by decide)
    · exact tkw hr.1
  · rw [tx2, tx2, tx2, tx1, tk0, tk1, tk1, tk0]
    simp only [List.length_append, List.length_cons, wlx.2.2.2.2.2.2]
    have h1 := (dgL_1 fr.toNat).2
    have h2 : (dgL 0).length = 1 := by decide
    have h3 := hr.2
    omega
  · have h := rd_title (d := fr.toNat) (a := 0) (i := i) (by omega) (by decide) (by omega)
    have e1 : ((fr.toNat : Nat) : Int) = fr := by omega
    rw [e1] at h
    exact h
theorem bw_TW {S : xS} {fr : Int} {i : Nat} (h : BW S) (hfr : 0 ≤ fr ∧ fr ≤ 90000) (hi : i < 5) (hsn : sn S < 200) : kwn S 4 0 (-1) (-1) ∧ rom S 4 ∧ fstB (breaks (adR S 4 fr 0 (-1) (-1) i)) 9 1 = 0 ∧ TW (adR S 4 fr 0 (-1) (-1) i) fr i := by
  have hP : isP S (0 : Int) := h.2.2.1.1
  obtain ⟨k1, k2⟩ := title_ok (D := fr) (w := (i : Int)) h.1 hP (by have : wBorn S (0 : Int) = 0 := h.2.2.1.2.2; omega) (by rw [bw_dead h]; decide)
  have hrm : rom S 4 := ⟨hsn, fun z => absurd z (by decide), fun _ => by rw [h.2.1]; decide⟩
  have ho : rdO 4 fr 0 (-1) (-1) (i : Int) := ⟨⟨by decide, by decide⟩, ⟨hfr.1, by omega⟩, ⟨by omega, by omega⟩, fun z => absurd z (by decide), fun z => absurd z (by decide), fun _ => ⟨by decide, rfl, rfl⟩, fun z => absurd z (by decide)⟩
  have hF := ad_FM h.1 ho k1 hrm (Or.inr (Or.inr (Or.inr rfl))) k2
  obtain ⟨n1, n2, n3, n4, n5, n6, n7⟩ := ad_new (S := S) (K := 4) (D := fr) (a := 0) (b := -1) (c := -1) (w := (i : Int))
  have et : stb (adR S 4 fr 0 (-1) (-1) i) 0 = sn S := if_pos ⟨rfl, h.2.1.symm⟩
  refine ⟨k1, hrm, k2, hF, ?_, ⟨?_, ?_, ?_⟩, ⟨by omega, by omega⟩, ?_⟩
  · show (if (4 : Int) = 4 then stn S + 1 else stn S) = 1
    rw [if_pos rfl, h.2.1]
  · unfold ow
    rw [et, n3]
    rfl
  · unfold oD
    rw [et, n2]
  · unfold rl
    rw [et, n6]
  · exact (ad_b h.1.1.1 ⟨hP.1, hP.2.1⟩).2.2.2.mpr h.2.2.1.2.1
theorem ttl_ok {S : xS} {A : Nat → Nat} {n : Nat} {m : Nat → Int64} {e : Nat → Nat} {σ : xm_Mem} {N6 : Nat} {el : Int} (hW : LV σ S A n m e) (hB : BW S) (hY : DY σ S) (hR : RU σ) (hsp : sp S = N6) (h6 : 1 ≤ N6 ∧ N6 ≤ 22) (hsn : sn S ≤ 100) (h110 : 110 ≤ σ.2.2) (hcap : σ.2.2 ≤ 70000) (h0 : σ.1 109 0 = 0) (h1 : σ.1 109 1 = el) (h2 : (σ.2.2 : Int) + 7 - 20 = el) :
    Sm (if 0 ≤ (10 : Int) ∧ (10 : Int) ≤ 100 then (if 0 < (20000 : Int) ∧ (20000 : Int) ≤ 100000 then (xm_vl (xm_rem (xm_and (cl (10 : Int).toNat) 2147483647) (20000 : Int)) (fun v91 => @ite _ (xm_gt σ v91 (0 : Int) (-1 : Int)) (Classical.propDecidable _) (xm_st (xm_aps σ 89 0 (xm_tP 4 v91.toNat (0 : Int).toNat (-1 : Int))) (fun σ94 => @ite _ (xm_SB σ94 89 34 (xm_tc σ94) ∧ (xm_tc σ94) + xm_pl (2, 32) ≤ 34) (Classical.propDecidable _) (xm_st (xm_ap σ94 89 (xm_tc σ94) (2, 32)) (fun σ97 => if 0 ≤ (11 : Int) ∧ (11 : Int) ≤ 100 then (if 0 < (5 : Int) ∧ (5 : Int) ≤ 100000 then (if (0 ≤ (xm_rem (xm_and (cl (11 : Int).toNat) 2147483647) (5 : Int)) ∧ (xm_rem (xm_and (cl (11 : Int).toNat) 2147483647) (5 : Int)) < 5) ∧ 1 ≤ σ97.1 86 (xm_rem (xm_and (cl (11 : Int).toNat) 2147483647) (5 : Int)).toNat ∧ (σ97.1 86 (xm_rem (xm_and (cl (11 : Int).toNat) 2147483647) (5 : Int)).toNat - 1).toNat < 24 then (@ite _ (xm_SB σ97 89 34 (xm_tc σ97) ∧ (xm_tc σ97) + xm_pl (0, (σ97.1 86 (xm_rem (xm_and (cl (11 : Int).toNat) 2147483647) (5 : Int)).toNat - 1).toNat) ≤ 34) (Classical.propDecidable _) (xm_st (xm_ap σ97 89 (xm_tc σ97) (0, (σ97.1 86 (xm_rem (xm_and (cl (11 : Int).toNat) 2147483647) (5 : Int)).toNat - 1).toNat)) (fun σ103 => (f_L_tell σ103).bind (fun o105 => if o105.1.2.2 = σ103.2.2 + 1 ∧ o105.1.2.2 ≤ 100000 then (if o105.2 < 0 then (none) else (f_L_law_l462 cl (fun σ_134 x7_134 => if σ_134.1 109 0 = 0 ∧ σ_134.1 109 1 = (σ_134.2.2 : Int) - 20 then (xm_st (xm_mkL σ_134) (fun σ136 => (f_X10_line σ136 (0 : Int) (99000 : Int) (0 : Int)).bind (fun o138 => if o138.1.2.2 = σ136.2.2 then (f_L_law_l572 cl (fun σ_160 x7_160 x8_160 x10_160 => (f_X10_tenures σ_160 (0 : Int)).bind (fun o161 => if o161.1.2.2 = σ_160.2.2 then ((f_X10_holder o161.1 (0 : Int) x8_160).bind (fun o164 => if o164.1.2.2 = o161.1.2.2 then (f_L_law_l657 cl (fun σ_229 x7_229 x8_229 x12_229 x13_229 => if x12_229 = (-1 : Int) then ((f_X10_holder σ_229 (0 : Int) (99999 : Int)).bind (fun o232 => if o232.1.2.2 = σ_229.2.2 then (if o232.2 = (-1 : Int) then ((f_X10_holder o232.1 (0 : Int) x8_229).bind (fun o237 => if o237.1.2.2 = o232.1.2.2 then (if o237.2 = x13_229 then ((f_X10_holder o237.1 (0 : Int) x7_229).bind (fun o242 => if o242.1.2.2 = o237.1.2.2 then (if o242.2 = (-4 : Int) then (none) else ((f_X10_tenure o242.1 (0 : Int) (0 : Int) (1 : Int)).bind (fun o247 => if o247.1.2.2 = o242.1.2.2 then (if o247.2 = x7_229 then (some (o247.1, 1)) else (none)) else none))) else none)) else (none)) else none)) else (none)) else none)) else (none)) xm_fuel o164.1 x7_160 x8_160 x10_160 o161.2 o164.2 o164.2 (1 : Int)) else none)) else none)) xm_fuel o138.1 x7_134 (99000 : Int) (0 : Int) o138.2) else none))) else none) xm_fuel o105.1 (N6 : Int) v91 (0 : Int))) else none))) none) else none) else none) else none)) none)) none)) else none) else none) := by
  refine sm_if ⟨by decide, by decide⟩ (sm_if ⟨by decide, by decide⟩ ?_)
  have hf := low_rg (cl (10 : Int).toNat) (n := 20000) ⟨by decide, by decide⟩
  generalize xm_rem (xm_and (cl (10 : Int).toNat) 2147483647) (20000 : Int) = fr at hf ⊢
  show Sm (@ite _ (xm_gt σ fr (0 : Int) (-1 : Int)) (Classical.propDecidable _) _ none)
  refine sm_if ⟨hW.2.2.2, ⟨hf.1, by omega⟩, ⟨by decide, by decide⟩, ⟨by decide, by decide⟩⟩ ?_
  have hr := low_rg (cl (11 : Int).toNat) (n := 5) ⟨by decide, by decide⟩
  generalize xm_rem (xm_and (cl (11 : Int).toNat) 2147483647) (5 : Int) = rr at hr ⊢
  obtain ⟨i, rfl⟩ := Int.eq_ofNat_of_zero_le hr.1
  have hi : i < 5 := by omega
  have hL := tP_ok (i := 4) (d := fr.toNat) (a := 0) (q := -1) (by decide) (by omega) (by decide) ⟨by decide, by decide⟩
  have hlen := tt_len (fr := fr) ⟨hf.1, by omega⟩
  have hpl := pcS_len (xm_tP 4 fr.toNat 0 (-1)) 0
  have hS1 := aps_SB _ σ 0 hW.2.2.2 hL (by omega)
  have e86 : ∀ k, (xm_aps σ 89 0 (xm_tP 4 fr.toNat 0 (-1))).1 86 k = σ.1 86 k := fun k => aps_ne (by decide) (by omega) _ _ _
  have happ := aps_app 89 [(2, 32), (0, rwd i)] (xm_tP 4 fr.toNat 0 (-1)) σ 0
  show Sm (xm_st (xm_aps σ 89 0 (xm_tP 4 fr.toNat 0 (-1))) _)
  have e1' : (xm_aps σ 89 0 (xm_tP 4 fr.toNat 0 (-1))).2.2 = σ.2.2 := xm_aps_2 _ _ _ _
  generalize hσ1 : xm_aps σ 89 0 (xm_tP 4 fr.toNat 0 (-1)) = σ1 at hS1 e86 happ e1' ⊢
  generalize hc1 : xm_plS 0 (xm_tP 4 fr.toNat 0 (-1)) = c1 at hS1 happ hpl
  have et1 : xm_tc σ1 = c1 := tc_SB hS1
  have hp32 : xm_pl (2, 32) = 1 := rfl
  show Sm (@ite _ (xm_SB σ1 89 34 (xm_tc σ1) ∧ (xm_tc σ1) + xm_pl (2, 32) ≤ 34) (Classical.propDecidable _) _ none)
  refine sm_if ⟨by rw [et1]; exact hS1, by rw [et1, hp32]; omega⟩ ?_
  rw [et1]
  have hS2 := xm_ap_SB (p := (2, 32)) hS1 (xm_po2 (by decide)) (by rw [hp32]; omega)
  have e86' : ∀ k, (xm_ap σ1 89 c1 (2, 32)).1 86 k = σ.1 86 k := fun k => (ap_ne (by decide) (by omega)).trans (e86 k)
  have happ2 : xm_aps σ 89 0 (ttP fr i) = xm_ap (xm_ap σ1 89 c1 (2, 32)) 89 (c1 + xm_pl (2, 32)) (0, rwd i) := happ
  show Sm (xm_st (xm_ap σ1 89 c1 (2, 32)) _)
  generalize hσ2 : xm_ap σ1 89 c1 (2, 32) = σ2 at hS2 e86' happ2 ⊢
  have et2 : xm_tc σ2 = c1 + xm_pl (2, 32) := tc_SB hS2
  have e8 : σ2.1 86 ((i : Nat) : Int).toNat = ((rwd i + 1 : Nat) : Int) := by rw [Int.toNat_natCast, e86']; exact hR i hi
  have hid : (σ2.1 86 ((i : Nat) : Int).toNat - 1).toNat = rwd i := by rw [e8]; omega
  have hrl := rwd_lt i hi
  refine sm_if ⟨⟨by omega, by omega⟩, by rw [e8]; omega, by rw [hid]; omega⟩ ?_
  rw [hid, et2]
  have hpr : xm_pl (0, rwd i) ≤ 6 := by
    have : xm_pl (0, rwd i) = (wdL (rwd i)).length := (wdL_len _).symm
    rw [this]; exact hrl.2
  refine sm_if ⟨hS2, by rw [hp32]; omega⟩ ?_
  show Sm ((f_L_tell (xm_ap σ2 89 (c1 + xm_pl (2, 32)) (0, rwd i))).bind _)
  obtain ⟨q1, q2, q3, q4⟩ := bw_TW (fr := fr) (i := i) hB ⟨hf.1, by omega⟩ hi (by omega)
  have hx : xm_nxt σ := Or.inr ⟨h110, by omega, Or.inr (by omega)⟩
  obtain ⟨σ3, A', n', m', e', t1, t2, t3, t4⟩ := to_ok hW hx (by omega) (txt_title (fr := fr) (i := i) ⟨hf.1, by omega⟩ hi) q1 q2 q3
  rw [happ2] at t1
  have e3 : (xm_ap σ2 89 (c1 + xm_pl (2, 32)) (0, rwd i)).2.2 = σ.2.2 := by rw [xm_ap_2, ← hσ2, xm_ap_2]; exact e1'
  refine sm_b t1 (sm_if ⟨by rw [e3]; exact t4, by show σ3.2.2 ≤ 100000; omega⟩ (sm_no (by show ¬ ((sn S : Nat) : Int) < 0; omega) ?_))
  have hX : ∀ r, r < sn (adR S 4 fr 0 (-1) (-1) i) → wD (adR S 4 fr 0 (-1) (-1) i) r ≤ 95000 := fun r hr => by
    have hr2 : r < sn S + 1 := hr
    by_cases er : r = sn S
    · subst er
      rw [ad_new.2.1]; omega
    · rw [(ad_old er).2.1]
      have := (hB.2.2.2 r (by omega)).2
      omega
  have hY' : DY σ3 (adR S 4 fr 0 (-1) (-1) i) := fun q hq => by
    have hq' : q < sp S := hq
    rw [(ad_b hB.1.1.1 (p := (q : Int)) ⟨by omega, by omega⟩).1]
    exact dy_kp hY t3 q hq'
  have hs1 : sn (adR S 4 fr 0 (-1) (-1) i) = sn S + 1 := rfl
  have hs2 : sp (adR S 4 fr 0 (-1) (-1) i) = sp S := rfl
  generalize adR S 4 fr 0 (-1) (-1) i = S' at q4 t2 hX hY' hs1 hs2
  refine l462_ok (cl := cl) (fr := fr) (ρ := (i : Int)) (el := el) (N6 := N6) h6 ?_ 6 0 (by decide) σ3 S' A' n' m' e' t2 q4 hY' hX (by omega) (by omega) (by omega) (by omega) (by rw [t3 109 0 (by omega)]; exact h0) (by rw [t3 109 1 (by omega)]; exact h1) (by omega) xm_fuel (xfu (by decide))
  intro τ T A5 n5 m5 e5 hW5 hT5 hX5 hsn5 hsp5 h5a h5b h5c h5d h5e
  exact tail_ok (cl := cl) hW5 hT5 ⟨hf.1, by omega⟩ hX5 hsn5 (by omega) h5a h5b h5c (by rw [h5d, h5e])
end XE6
